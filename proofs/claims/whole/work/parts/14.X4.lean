theorem lk_X4_9 : Cond.fieldLink RX4 9 (TX4 0).1 (TX4 0).2.1 (TX4 0).2.2.1 ∈ lw_g := mem_g 201 (by decide +kernel) (by decide +kernel)
theorem lk_X4_55 : Cond.methodLink RX4 55 arraycopyName ∈ lw_g := mem_g 1041 (by decide +kernel) (by decide +kernel)
theorem lk_X4_15 : Cond.fieldLink RX4 15 (TX4 1).1 (TX4 1).2.1 (TX4 1).2.2.1 ∈ lw_g := mem_g 202 (by decide +kernel) (by decide +kernel)
theorem lk_X4_18 : Cond.fieldLink RX4 18 (TX4 2).1 (TX4 2).2.1 (TX4 2).2.2.1 ∈ lw_g := mem_g 203 (by decide +kernel) (by decide +kernel)
theorem lk_X4_21 : Cond.fieldLink RX4 21 (TX4 3).1 (TX4 3).2.1 (TX4 3).2.2.1 ∈ lw_g := mem_g 204 (by decide +kernel) (by decide +kernel)
theorem lk_X4_24 : Cond.fieldLink RX4 24 (TX4 4).1 (TX4 4).2.1 (TX4 4).2.2.1 ∈ lw_g := mem_g 205 (by decide +kernel) (by decide +kernel)
theorem lk_X4_27 : Cond.fieldLink RX4 27 (TX4 5).1 (TX4 5).2.1 (TX4 5).2.2.1 ∈ lw_g := mem_g 206 (by decide +kernel) (by decide +kernel)
theorem lk_X4_34 : Cond.fieldLink RX4 34 (TX4 7).1 (TX4 7).2.1 (TX4 7).2.2.1 ∈ lw_g := mem_g 208 (by decide +kernel) (by decide +kernel)
theorem lk_X4_37 : Cond.fieldLink RX4 37 (TX4 8).1 (TX4 8).2.1 (TX4 8).2.2.1 ∈ lw_g := mem_g 209 (by decide +kernel) (by decide +kernel)
theorem lk_X4_61 : Cond.fieldLink RX4 61 (TX4 9).1 (TX4 9).2.1 (TX4 9).2.2.1 ∈ lw_g := mem_g 210 (by decide +kernel) (by decide +kernel)
theorem lk_X4_40 : Cond.fieldLink RX4 40 (TX4 10).1 (TX4 10).2.1 (TX4 10).2.2.1 ∈ lw_g := mem_g 214 (by decide +kernel) (by decide +kernel)
theorem lk_X4_43 : Cond.fieldLink RX4 43 (TX4 11).1 (TX4 11).2.1 (TX4 11).2.2.1 ∈ lw_g := mem_g 215 (by decide +kernel) (by decide +kernel)
theorem lk_X4_46 : Cond.fieldLink RX4 46 (TX4 12).1 (TX4 12).2.1 (TX4 12).2.2.1 ∈ lw_g := mem_g 216 (by decide +kernel) (by decide +kernel)
theorem lk_X4_30 : Cond.fieldLink RX4 30 (TX4 6).1 (TX4 6).2.1 (TX4 6).2.2.1 ∈ lw_g := mem_g 207 (by decide +kernel) (by decide +kernel)
theorem dX4_copyFrom_0 : decode cX4_copyFrom 0 = .ok (.aload_n 1, 1) := by decide +kernel
theorem dX4_copyFrom_1 : decode cX4_copyFrom 1 = .ok (.ifnonnull 4, 3) := by decide +kernel
theorem dX4_copyFrom_4 : decode cX4_copyFrom 4 = .ok (.return_, 1) := by decide +kernel
theorem dX4_copyFrom_5 : decode cX4_copyFrom 5 = .ok (.aload_n 1, 1) := by decide +kernel
theorem dX4_copyFrom_6 : decode cX4_copyFrom 6 = .ok (.getfield 9, 3) := by decide +kernel
theorem dX4_copyFrom_9 : decode cX4_copyFrom 9 = .ok (.iconst 0, 1) := by decide +kernel
theorem dX4_copyFrom_10 : decode cX4_copyFrom 10 = .ok (.aload_n 0, 1) := by decide +kernel
theorem dX4_copyFrom_11 : decode cX4_copyFrom 11 = .ok (.getfield 9, 3) := by decide +kernel
theorem dX4_copyFrom_14 : decode cX4_copyFrom 14 = .ok (.iconst 0, 1) := by decide +kernel
theorem dX4_copyFrom_15 : decode cX4_copyFrom 15 = .ok (.bipush 96, 2) := by decide +kernel
theorem dX4_copyFrom_17 : decode cX4_copyFrom 17 = .ok (.invokestatic 55, 3) := by decide +kernel
theorem dX4_copyFrom_20 : decode cX4_copyFrom 20 = .ok (.aload_n 1, 1) := by decide +kernel
theorem dX4_copyFrom_21 : decode cX4_copyFrom 21 = .ok (.getfield 15, 3) := by decide +kernel
theorem dX4_copyFrom_24 : decode cX4_copyFrom 24 = .ok (.iconst 0, 1) := by decide +kernel
theorem dX4_copyFrom_25 : decode cX4_copyFrom 25 = .ok (.aload_n 0, 1) := by decide +kernel
theorem dX4_copyFrom_26 : decode cX4_copyFrom 26 = .ok (.getfield 15, 3) := by decide +kernel
theorem dX4_copyFrom_29 : decode cX4_copyFrom 29 = .ok (.iconst 0, 1) := by decide +kernel
theorem dX4_copyFrom_30 : decode cX4_copyFrom 30 = .ok (.bipush 96, 2) := by decide +kernel
theorem dX4_copyFrom_32 : decode cX4_copyFrom 32 = .ok (.invokestatic 55, 3) := by decide +kernel
theorem dX4_copyFrom_35 : decode cX4_copyFrom 35 = .ok (.aload_n 1, 1) := by decide +kernel
theorem dX4_copyFrom_36 : decode cX4_copyFrom 36 = .ok (.getfield 18, 3) := by decide +kernel
theorem dX4_copyFrom_39 : decode cX4_copyFrom 39 = .ok (.iconst 0, 1) := by decide +kernel
theorem dX4_copyFrom_40 : decode cX4_copyFrom 40 = .ok (.aload_n 0, 1) := by decide +kernel
theorem dX4_copyFrom_41 : decode cX4_copyFrom 41 = .ok (.getfield 18, 3) := by decide +kernel
theorem dX4_copyFrom_44 : decode cX4_copyFrom 44 = .ok (.iconst 0, 1) := by decide +kernel
theorem dX4_copyFrom_45 : decode cX4_copyFrom 45 = .ok (.bipush 96, 2) := by decide +kernel
theorem dX4_copyFrom_47 : decode cX4_copyFrom 47 = .ok (.invokestatic 55, 3) := by decide +kernel
theorem dX4_copyFrom_50 : decode cX4_copyFrom 50 = .ok (.aload_n 1, 1) := by decide +kernel
theorem dX4_copyFrom_51 : decode cX4_copyFrom 51 = .ok (.getfield 21, 3) := by decide +kernel
theorem dX4_copyFrom_54 : decode cX4_copyFrom 54 = .ok (.iconst 0, 1) := by decide +kernel
theorem dX4_copyFrom_55 : decode cX4_copyFrom 55 = .ok (.aload_n 0, 1) := by decide +kernel
theorem dX4_copyFrom_56 : decode cX4_copyFrom 56 = .ok (.getfield 21, 3) := by decide +kernel
theorem dX4_copyFrom_59 : decode cX4_copyFrom 59 = .ok (.iconst 0, 1) := by decide +kernel
theorem dX4_copyFrom_60 : decode cX4_copyFrom 60 = .ok (.bipush 96, 2) := by decide +kernel
theorem dX4_copyFrom_62 : decode cX4_copyFrom 62 = .ok (.invokestatic 55, 3) := by decide +kernel
theorem dX4_copyFrom_65 : decode cX4_copyFrom 65 = .ok (.aload_n 1, 1) := by decide +kernel
theorem dX4_copyFrom_66 : decode cX4_copyFrom 66 = .ok (.getfield 24, 3) := by decide +kernel
theorem dX4_copyFrom_69 : decode cX4_copyFrom 69 = .ok (.iconst 0, 1) := by decide +kernel
theorem dX4_copyFrom_70 : decode cX4_copyFrom 70 = .ok (.aload_n 0, 1) := by decide +kernel
theorem dX4_copyFrom_71 : decode cX4_copyFrom 71 = .ok (.getfield 24, 3) := by decide +kernel
theorem dX4_copyFrom_74 : decode cX4_copyFrom 74 = .ok (.iconst 0, 1) := by decide +kernel
theorem dX4_copyFrom_75 : decode cX4_copyFrom 75 = .ok (.bipush 96, 2) := by decide +kernel
theorem dX4_copyFrom_77 : decode cX4_copyFrom 77 = .ok (.invokestatic 55, 3) := by decide +kernel
theorem dX4_copyFrom_80 : decode cX4_copyFrom 80 = .ok (.aload_n 1, 1) := by decide +kernel
theorem dX4_copyFrom_81 : decode cX4_copyFrom 81 = .ok (.getfield 27, 3) := by decide +kernel
theorem dX4_copyFrom_84 : decode cX4_copyFrom 84 = .ok (.iconst 0, 1) := by decide +kernel
theorem dX4_copyFrom_85 : decode cX4_copyFrom 85 = .ok (.aload_n 0, 1) := by decide +kernel
theorem dX4_copyFrom_86 : decode cX4_copyFrom 86 = .ok (.getfield 27, 3) := by decide +kernel
theorem dX4_copyFrom_89 : decode cX4_copyFrom 89 = .ok (.iconst 0, 1) := by decide +kernel
theorem dX4_copyFrom_90 : decode cX4_copyFrom 90 = .ok (.bipush 96, 2) := by decide +kernel
theorem dX4_copyFrom_92 : decode cX4_copyFrom 92 = .ok (.invokestatic 55, 3) := by decide +kernel
theorem dX4_copyFrom_95 : decode cX4_copyFrom 95 = .ok (.aload_n 1, 1) := by decide +kernel
theorem dX4_copyFrom_96 : decode cX4_copyFrom 96 = .ok (.getfield 34, 3) := by decide +kernel
theorem dX4_copyFrom_99 : decode cX4_copyFrom 99 = .ok (.iconst 0, 1) := by decide +kernel
theorem dX4_copyFrom_100 : decode cX4_copyFrom 100 = .ok (.aload_n 0, 1) := by decide +kernel
theorem dX4_copyFrom_101 : decode cX4_copyFrom 101 = .ok (.getfield 34, 3) := by decide +kernel
theorem dX4_copyFrom_104 : decode cX4_copyFrom 104 = .ok (.iconst 0, 1) := by decide +kernel
theorem dX4_copyFrom_105 : decode cX4_copyFrom 105 = .ok (.bipush 96, 2) := by decide +kernel
theorem dX4_copyFrom_107 : decode cX4_copyFrom 107 = .ok (.invokestatic 55, 3) := by decide +kernel
theorem dX4_copyFrom_110 : decode cX4_copyFrom 110 = .ok (.aload_n 1, 1) := by decide +kernel
theorem dX4_copyFrom_111 : decode cX4_copyFrom 111 = .ok (.getfield 37, 3) := by decide +kernel
theorem dX4_copyFrom_114 : decode cX4_copyFrom 114 = .ok (.iconst 0, 1) := by decide +kernel
theorem dX4_copyFrom_115 : decode cX4_copyFrom 115 = .ok (.aload_n 0, 1) := by decide +kernel
theorem dX4_copyFrom_116 : decode cX4_copyFrom 116 = .ok (.getfield 37, 3) := by decide +kernel
theorem dX4_copyFrom_119 : decode cX4_copyFrom 119 = .ok (.iconst 0, 1) := by decide +kernel
theorem dX4_copyFrom_120 : decode cX4_copyFrom 120 = .ok (.bipush 96, 2) := by decide +kernel
theorem dX4_copyFrom_122 : decode cX4_copyFrom 122 = .ok (.invokestatic 55, 3) := by decide +kernel
theorem dX4_copyFrom_125 : decode cX4_copyFrom 125 = .ok (.iconst 0, 1) := by decide +kernel
theorem dX4_copyFrom_126 : decode cX4_copyFrom 126 = .ok (.istore_n 2, 1) := by decide +kernel
theorem dX4_copyFrom_127 : decode cX4_copyFrom 127 = .ok (.iload_n 2, 1) := by decide +kernel
theorem dX4_copyFrom_128 : decode cX4_copyFrom 128 = .ok (.bipush 96, 2) := by decide +kernel
theorem dX4_copyFrom_130 : decode cX4_copyFrom 130 = .ok (.if_icmp .ge 21, 3) := by decide +kernel
theorem dX4_copyFrom_133 : decode cX4_copyFrom 133 = .ok (.aload_n 0, 1) := by decide +kernel
theorem dX4_copyFrom_134 : decode cX4_copyFrom 134 = .ok (.getfield 30, 3) := by decide +kernel
theorem dX4_copyFrom_137 : decode cX4_copyFrom 137 = .ok (.iload_n 2, 1) := by decide +kernel
theorem dX4_copyFrom_138 : decode cX4_copyFrom 138 = .ok (.aload_n 1, 1) := by decide +kernel
theorem dX4_copyFrom_139 : decode cX4_copyFrom 139 = .ok (.getfield 30, 3) := by decide +kernel
theorem dX4_copyFrom_142 : decode cX4_copyFrom 142 = .ok (.iload_n 2, 1) := by decide +kernel
theorem dX4_copyFrom_143 : decode cX4_copyFrom 143 = .ok (.baload, 1) := by decide +kernel
theorem dX4_copyFrom_144 : decode cX4_copyFrom 144 = .ok (.bastore, 1) := by decide +kernel
theorem dX4_copyFrom_145 : decode cX4_copyFrom 145 = .ok (.iinc 2 1, 3) := by decide +kernel
theorem dX4_copyFrom_148 : decode cX4_copyFrom 148 = .ok (.goto (-21), 3) := by decide +kernel
theorem dX4_copyFrom_151 : decode cX4_copyFrom 151 = .ok (.aload_n 0, 1) := by decide +kernel
theorem dX4_copyFrom_152 : decode cX4_copyFrom 152 = .ok (.aload_n 1, 1) := by decide +kernel
theorem dX4_copyFrom_153 : decode cX4_copyFrom 153 = .ok (.getfield 61, 3) := by decide +kernel
theorem dX4_copyFrom_156 : decode cX4_copyFrom 156 = .ok (.putfield 61, 3) := by decide +kernel
theorem dX4_copyFrom_159 : decode cX4_copyFrom 159 = .ok (.aload_n 1, 1) := by decide +kernel
theorem dX4_copyFrom_160 : decode cX4_copyFrom 160 = .ok (.getfield 40, 3) := by decide +kernel
theorem dX4_copyFrom_163 : decode cX4_copyFrom 163 = .ok (.iconst 0, 1) := by decide +kernel
theorem dX4_copyFrom_164 : decode cX4_copyFrom 164 = .ok (.aload_n 0, 1) := by decide +kernel
theorem dX4_copyFrom_165 : decode cX4_copyFrom 165 = .ok (.getfield 40, 3) := by decide +kernel
theorem dX4_copyFrom_168 : decode cX4_copyFrom 168 = .ok (.iconst 0, 1) := by decide +kernel
theorem dX4_copyFrom_169 : decode cX4_copyFrom 169 = .ok (.iconst 4, 1) := by decide +kernel
theorem dX4_copyFrom_170 : decode cX4_copyFrom 170 = .ok (.invokestatic 55, 3) := by decide +kernel
theorem dX4_copyFrom_173 : decode cX4_copyFrom 173 = .ok (.aload_n 1, 1) := by decide +kernel
theorem dX4_copyFrom_174 : decode cX4_copyFrom 174 = .ok (.getfield 43, 3) := by decide +kernel
theorem dX4_copyFrom_177 : decode cX4_copyFrom 177 = .ok (.iconst 0, 1) := by decide +kernel
theorem dX4_copyFrom_178 : decode cX4_copyFrom 178 = .ok (.aload_n 0, 1) := by decide +kernel
theorem dX4_copyFrom_179 : decode cX4_copyFrom 179 = .ok (.getfield 43, 3) := by decide +kernel
theorem dX4_copyFrom_182 : decode cX4_copyFrom 182 = .ok (.iconst 0, 1) := by decide +kernel
theorem dX4_copyFrom_183 : decode cX4_copyFrom 183 = .ok (.iconst 4, 1) := by decide +kernel
theorem dX4_copyFrom_184 : decode cX4_copyFrom 184 = .ok (.invokestatic 55, 3) := by decide +kernel
theorem dX4_copyFrom_187 : decode cX4_copyFrom 187 = .ok (.aload_n 1, 1) := by decide +kernel
theorem dX4_copyFrom_188 : decode cX4_copyFrom 188 = .ok (.getfield 46, 3) := by decide +kernel
theorem dX4_copyFrom_191 : decode cX4_copyFrom 191 = .ok (.iconst 0, 1) := by decide +kernel
theorem dX4_copyFrom_192 : decode cX4_copyFrom 192 = .ok (.aload_n 0, 1) := by decide +kernel
theorem dX4_copyFrom_193 : decode cX4_copyFrom 193 = .ok (.getfield 46, 3) := by decide +kernel
theorem dX4_copyFrom_196 : decode cX4_copyFrom 196 = .ok (.iconst 0, 1) := by decide +kernel
theorem dX4_copyFrom_197 : decode cX4_copyFrom 197 = .ok (.iconst 4, 1) := by decide +kernel
theorem dX4_copyFrom_198 : decode cX4_copyFrom 198 = .ok (.invokestatic 55, 3) := by decide +kernel
theorem dX4_copyFrom_201 : decode cX4_copyFrom 201 = .ok (.return_, 1) := by decide +kernel
theorem wX4_copyFrom_L127 {p : Program} {l : Launch} {e : Env} {s : State} {m : MethodId} {args : Array Value} {below : List Frame} {meth : Method} {c : Code} {Y : Nat → ClassId} {D : va_G} {σ : Nat → Nat} {np b0 : Nat} {g : Nat} {g2 : Nat} {r : Mc} (hE : EOK p s m args meth c cX4_copyFrom 3 RX4 Y D σ np b0) (hr : meth.sig.returnType = none) (hg : is4 g) (hg2 : is4 g2) : ∀ (n : Nat) (M : Mc) (N : Md) (X2 : Int32), fX4_copyFrom_L127 g g2 n M X2 = some r → Xw p l e (rmD 4) s m args below meth c 3 Y D σ np b0 0 0 (MQ below (QR Y D σ np b0 none r N) args s 0 0 (xA b0)) 127 [(0, .ref (σ g)), (1, .ref (σ g2)), (2, .int X2)] [] M N := by
  intro n
  induction n with
  | zero =>
    intro M N X2 hf
    cases hf
  | succ n ih =>
    intro M N X2 hf
    rw [fX4_copyFrom_L127.eq_2] at hf
    refine x_iload_n hE 2 dX4_copyFrom_127 rfl rfl ?_
    refine x_bipush hE (nI 96) dX4_copyFrom_128 (by decide) ?_
    refine x_icmp_ge hE 151 dX4_copyFrom_130 (by decide) hf (fun hf => ?_) (fun hf => ?_)
    · refine x_aload_n hE 0 dX4_copyFrom_151 rfl rfl ?_
      refine x_aload_n hE 1 dX4_copyFrom_152 rfl rfl ?_
      refine x_getI hE cl_4 (hE.kd (kO_4 hg2)) (by decide) 9 rfl (by decide) lk_X4_61 dX4_copyFrom_153 ?_
      refine x_putI hE cl_4 (hE.kd (kO_4 hg)) (by decide) 9 rfl (by decide) lk_X4_61 rfl rfl rfl rfl dX4_copyFrom_156 hf (fun M9 hf => ?_)
      refine x_aload_n hE 1 dX4_copyFrom_159 rfl rfl ?_
      refine x_getR hE cl_4 (hE.kd (kO_4 hg2)) (by decide) 10 (g2 + 11) rfl (by decide) lk_X4_40 dX4_copyFrom_160 ?_
      refine x_iconst hE (0 : Int32) dX4_copyFrom_163 (by decide) ?_
      refine x_aload_n hE 0 dX4_copyFrom_164 rfl rfl ?_
      refine x_getR hE cl_4 (hE.kd (kO_4 hg)) (by decide) 10 (g + 11) rfl (by decide) lk_X4_40 dX4_copyFrom_165 ?_
      refine x_iconst hE (0 : Int32) dX4_copyFrom_168 (by decide) ?_
      refine x_iconst hE (nI 4) dX4_copyFrom_169 (by decide) ?_
      refine x_copy hE (hE.kd (kB_4_10 hg2)) (hE.kd (kB_4_10 hg)) lk_X4_55 (Nat.le_of_ble_eq_true rfl) dX4_copyFrom_170 hf (fun M10 hf => ?_)
      refine x_aload_n hE 1 dX4_copyFrom_173 rfl rfl ?_
      refine x_getR hE cl_4 (hE.kd (kO_4 hg2)) (by decide) 11 (g2 + 12) rfl (by decide) lk_X4_43 dX4_copyFrom_174 ?_
      refine x_iconst hE (0 : Int32) dX4_copyFrom_177 (by decide) ?_
      refine x_aload_n hE 0 dX4_copyFrom_178 rfl rfl ?_
      refine x_getR hE cl_4 (hE.kd (kO_4 hg)) (by decide) 11 (g + 12) rfl (by decide) lk_X4_43 dX4_copyFrom_179 ?_
      refine x_iconst hE (0 : Int32) dX4_copyFrom_182 (by decide) ?_
      refine x_iconst hE (nI 4) dX4_copyFrom_183 (by decide) ?_
      refine x_copy hE (hE.kd (kB_4_11 hg2)) (hE.kd (kB_4_11 hg)) lk_X4_55 (Nat.le_of_ble_eq_true rfl) dX4_copyFrom_184 hf (fun M11 hf => ?_)
      refine x_aload_n hE 1 dX4_copyFrom_187 rfl rfl ?_
      refine x_getR hE cl_4 (hE.kd (kO_4 hg2)) (by decide) 12 (g2 + 13) rfl (by decide) lk_X4_46 dX4_copyFrom_188 ?_
      refine x_iconst hE (0 : Int32) dX4_copyFrom_191 (by decide) ?_
      refine x_aload_n hE 0 dX4_copyFrom_192 rfl rfl ?_
      refine x_getR hE cl_4 (hE.kd (kO_4 hg)) (by decide) 12 (g + 13) rfl (by decide) lk_X4_46 dX4_copyFrom_193 ?_
      refine x_iconst hE (0 : Int32) dX4_copyFrom_196 (by decide) ?_
      refine x_iconst hE (nI 4) dX4_copyFrom_197 (by decide) ?_
      refine x_copy hE (hE.kd (kB_4_12 hg2)) (hE.kd (kB_4_12 hg)) lk_X4_55 (Nat.le_of_ble_eq_true rfl) dX4_copyFrom_198 hf (fun M12 hf => ?_)
      replace hf := Option.some.inj hf
      subst hf
      exact x_vreturn hE hr dX4_copyFrom_201
    · refine x_aload_n hE 0 dX4_copyFrom_133 rfl rfl ?_
      refine x_getR hE cl_4 (hE.kd (kO_4 hg)) (by decide) 6 (g + 8) rfl (by decide) lk_X4_30 dX4_copyFrom_134 ?_
      refine x_iload_n hE 2 dX4_copyFrom_137 rfl rfl ?_
      refine x_aload_n hE 1 dX4_copyFrom_138 rfl rfl ?_
      refine x_getR hE cl_4 (hE.kd (kO_4 hg2)) (by decide) 6 (g2 + 8) rfl (by decide) lk_X4_30 dX4_copyFrom_139 ?_
      refine x_iload_n hE 2 dX4_copyFrom_142 rfl rfl ?_
      refine x_zald hE (hE.kd (kB_4_6 hg2)) dX4_copyFrom_143 hf (fun hf => ?_)
      refine x_zast hE (hE.kd (kB_4_6 hg)) dX4_copyFrom_144 hf (fun M13 hf => ?_)
      refine x_iinc hE 2 (X2 + nI 1) (L' := [(2, .int (X2 + nI 1)), (0, .ref (σ g)), (1, .ref (σ g2))]) dX4_copyFrom_145 rfl rfl (by decide) rfl ?_
      refine x_pick [1, 2, 0] (L' := [(0, .ref (σ g)), (1, .ref (σ g2)), (2, .int (X2 + nI 1))]) rfl ?_
      refine x_goto hE 127 dX4_copyFrom_148 (by decide) ?_
      exact ih _ _ _ hf
theorem mX4_copyFrom (l : Launch) {Y : Nat → ClassId} {D : va_G} {σ : Nat → Nat} {np b0 : Nat} {M : Mc} {N : Md} {g : Nat} {g2 : Nat} {r : Mc} (hg : is4 g) (hg2 : is4 g2) (hf : fX4_copyFrom M g g2 = some r) : Met l yX4_copyFrom (.code yX4_copyFrom cX4_copyFrom 3 none :: lw_g) (rmD 4) (PR Y D σ np b0 [.ref (σ g), .ref (σ g2)] M N) (QR Y D σ np b0 none r N) 0 0 (xA b0) := by
  refine x_met (by decide) (Nat.le_of_ble_eq_true rfl) (fun p e s m args below meth c hE hr => ?_)
  unfold fX4_copyFrom at hf
  refine x_pick [0, 1] (L' := [(0, .ref (σ g)), (1, .ref (σ g2))]) rfl ?_
  refine x_aload_n hE 1 dX4_copyFrom_0 rfl rfl ?_
  refine x_ifnonnull hE 5 dX4_copyFrom_1 (by decide) ?_
  refine x_aload_n hE 1 dX4_copyFrom_5 rfl rfl ?_
  refine x_getR hE cl_4 (hE.kd (kO_4 hg2)) (by decide) 0 (g2 + 1) rfl (by decide) lk_X4_9 dX4_copyFrom_6 ?_
  refine x_iconst hE (0 : Int32) dX4_copyFrom_9 (by decide) ?_
  refine x_aload_n hE 0 dX4_copyFrom_10 rfl rfl ?_
  refine x_getR hE cl_4 (hE.kd (kO_4 hg)) (by decide) 0 (g + 1) rfl (by decide) lk_X4_9 dX4_copyFrom_11 ?_
  refine x_iconst hE (0 : Int32) dX4_copyFrom_14 (by decide) ?_
  refine x_bipush hE (nI 96) dX4_copyFrom_15 (by decide) ?_
  refine x_copy hE (hE.kd (kB_4_0 hg2)) (hE.kd (kB_4_0 hg)) lk_X4_55 (Nat.le_of_ble_eq_true rfl) dX4_copyFrom_17 hf (fun M1 hf => ?_)
  refine x_aload_n hE 1 dX4_copyFrom_20 rfl rfl ?_
  refine x_getR hE cl_4 (hE.kd (kO_4 hg2)) (by decide) 1 (g2 + 3) rfl (by decide) lk_X4_15 dX4_copyFrom_21 ?_
  refine x_iconst hE (0 : Int32) dX4_copyFrom_24 (by decide) ?_
  refine x_aload_n hE 0 dX4_copyFrom_25 rfl rfl ?_
  refine x_getR hE cl_4 (hE.kd (kO_4 hg)) (by decide) 1 (g + 3) rfl (by decide) lk_X4_15 dX4_copyFrom_26 ?_
  refine x_iconst hE (0 : Int32) dX4_copyFrom_29 (by decide) ?_
  refine x_bipush hE (nI 96) dX4_copyFrom_30 (by decide) ?_
  refine x_copy hE (hE.kd (kB_4_1 hg2)) (hE.kd (kB_4_1 hg)) lk_X4_55 (Nat.le_of_ble_eq_true rfl) dX4_copyFrom_32 hf (fun M2 hf => ?_)
  refine x_aload_n hE 1 dX4_copyFrom_35 rfl rfl ?_
  refine x_getR hE cl_4 (hE.kd (kO_4 hg2)) (by decide) 2 (g2 + 4) rfl (by decide) lk_X4_18 dX4_copyFrom_36 ?_
  refine x_iconst hE (0 : Int32) dX4_copyFrom_39 (by decide) ?_
  refine x_aload_n hE 0 dX4_copyFrom_40 rfl rfl ?_
  refine x_getR hE cl_4 (hE.kd (kO_4 hg)) (by decide) 2 (g + 4) rfl (by decide) lk_X4_18 dX4_copyFrom_41 ?_
  refine x_iconst hE (0 : Int32) dX4_copyFrom_44 (by decide) ?_
  refine x_bipush hE (nI 96) dX4_copyFrom_45 (by decide) ?_
  refine x_copy hE (hE.kd (kB_4_2 hg2)) (hE.kd (kB_4_2 hg)) lk_X4_55 (Nat.le_of_ble_eq_true rfl) dX4_copyFrom_47 hf (fun M3 hf => ?_)
  refine x_aload_n hE 1 dX4_copyFrom_50 rfl rfl ?_
  refine x_getR hE cl_4 (hE.kd (kO_4 hg2)) (by decide) 3 (g2 + 5) rfl (by decide) lk_X4_21 dX4_copyFrom_51 ?_
  refine x_iconst hE (0 : Int32) dX4_copyFrom_54 (by decide) ?_
  refine x_aload_n hE 0 dX4_copyFrom_55 rfl rfl ?_
  refine x_getR hE cl_4 (hE.kd (kO_4 hg)) (by decide) 3 (g + 5) rfl (by decide) lk_X4_21 dX4_copyFrom_56 ?_
  refine x_iconst hE (0 : Int32) dX4_copyFrom_59 (by decide) ?_
  refine x_bipush hE (nI 96) dX4_copyFrom_60 (by decide) ?_
  refine x_copy hE (hE.kd (kB_4_3 hg2)) (hE.kd (kB_4_3 hg)) lk_X4_55 (Nat.le_of_ble_eq_true rfl) dX4_copyFrom_62 hf (fun M4 hf => ?_)
  refine x_aload_n hE 1 dX4_copyFrom_65 rfl rfl ?_
  refine x_getR hE cl_4 (hE.kd (kO_4 hg2)) (by decide) 4 (g2 + 6) rfl (by decide) lk_X4_24 dX4_copyFrom_66 ?_
  refine x_iconst hE (0 : Int32) dX4_copyFrom_69 (by decide) ?_
  refine x_aload_n hE 0 dX4_copyFrom_70 rfl rfl ?_
  refine x_getR hE cl_4 (hE.kd (kO_4 hg)) (by decide) 4 (g + 6) rfl (by decide) lk_X4_24 dX4_copyFrom_71 ?_
  refine x_iconst hE (0 : Int32) dX4_copyFrom_74 (by decide) ?_
  refine x_bipush hE (nI 96) dX4_copyFrom_75 (by decide) ?_
  refine x_copy hE (hE.kd (kB_4_4 hg2)) (hE.kd (kB_4_4 hg)) lk_X4_55 (Nat.le_of_ble_eq_true rfl) dX4_copyFrom_77 hf (fun M5 hf => ?_)
  refine x_aload_n hE 1 dX4_copyFrom_80 rfl rfl ?_
  refine x_getR hE cl_4 (hE.kd (kO_4 hg2)) (by decide) 5 (g2 + 7) rfl (by decide) lk_X4_27 dX4_copyFrom_81 ?_
  refine x_iconst hE (0 : Int32) dX4_copyFrom_84 (by decide) ?_
  refine x_aload_n hE 0 dX4_copyFrom_85 rfl rfl ?_
  refine x_getR hE cl_4 (hE.kd (kO_4 hg)) (by decide) 5 (g + 7) rfl (by decide) lk_X4_27 dX4_copyFrom_86 ?_
  refine x_iconst hE (0 : Int32) dX4_copyFrom_89 (by decide) ?_
  refine x_bipush hE (nI 96) dX4_copyFrom_90 (by decide) ?_
  refine x_copy hE (hE.kd (kB_4_5 hg2)) (hE.kd (kB_4_5 hg)) lk_X4_55 (Nat.le_of_ble_eq_true rfl) dX4_copyFrom_92 hf (fun M6 hf => ?_)
  refine x_aload_n hE 1 dX4_copyFrom_95 rfl rfl ?_
  refine x_getR hE cl_4 (hE.kd (kO_4 hg2)) (by decide) 7 (g2 + 9) rfl (by decide) lk_X4_34 dX4_copyFrom_96 ?_
  refine x_iconst hE (0 : Int32) dX4_copyFrom_99 (by decide) ?_
  refine x_aload_n hE 0 dX4_copyFrom_100 rfl rfl ?_
  refine x_getR hE cl_4 (hE.kd (kO_4 hg)) (by decide) 7 (g + 9) rfl (by decide) lk_X4_34 dX4_copyFrom_101 ?_
  refine x_iconst hE (0 : Int32) dX4_copyFrom_104 (by decide) ?_
  refine x_bipush hE (nI 96) dX4_copyFrom_105 (by decide) ?_
  refine x_copy hE (hE.kd (kB_4_7 hg2)) (hE.kd (kB_4_7 hg)) lk_X4_55 (Nat.le_of_ble_eq_true rfl) dX4_copyFrom_107 hf (fun M7 hf => ?_)
  refine x_aload_n hE 1 dX4_copyFrom_110 rfl rfl ?_
  refine x_getR hE cl_4 (hE.kd (kO_4 hg2)) (by decide) 8 (g2 + 10) rfl (by decide) lk_X4_37 dX4_copyFrom_111 ?_
  refine x_iconst hE (0 : Int32) dX4_copyFrom_114 (by decide) ?_
  refine x_aload_n hE 0 dX4_copyFrom_115 rfl rfl ?_
  refine x_getR hE cl_4 (hE.kd (kO_4 hg)) (by decide) 8 (g + 10) rfl (by decide) lk_X4_37 dX4_copyFrom_116 ?_
  refine x_iconst hE (0 : Int32) dX4_copyFrom_119 (by decide) ?_
  refine x_bipush hE (nI 96) dX4_copyFrom_120 (by decide) ?_
  refine x_copy hE (hE.kd (kB_4_8 hg2)) (hE.kd (kB_4_8 hg)) lk_X4_55 (Nat.le_of_ble_eq_true rfl) dX4_copyFrom_122 hf (fun M8 hf => ?_)
  refine x_iconst hE (0 : Int32) dX4_copyFrom_125 (by decide) ?_
  refine x_istore_n hE (L' := [(2, .int 0), (0, .ref (σ g)), (1, .ref (σ g2))]) dX4_copyFrom_126 rfl (by decide) rfl ?_
  refine x_pick [1, 2, 0] (L' := [(0, .ref (σ g)), (1, .ref (σ g2)), (2, .int 0)]) rfl ?_
  exact wX4_copyFrom_L127 hE hr hg hg2 FU _ _ _ hf
theorem yokX4_copyFrom : YOK yX4_copyFrom cX4_copyFrom 3 1 none := ⟨mem_g 1040 (by decide +kernel) (by decide +kernel), mem_g 134 (by decide +kernel) (by decide +kernel), by decide +kernel, by decide +kernel, by decide +kernel⟩
theorem yvX4_copyFrom : YV yX4_copyFrom := ⟨mem_g 1038 (by decide +kernel) (by decide +kernel), mem_g 1039 (by decide +kernel) (by decide +kernel)⟩
theorem lk_X4_69 : Cond.methodLinkNest RX4 69 yX11_inside "SettlerColony" ∈ lw_nw := mem_n 704 (by decide +kernel) rfl
theorem dX4_isWild_0 : decode cX4_isWild 0 = .ok (.iload_n 1, 1) := by decide +kernel
theorem dX4_isWild_1 : decode cX4_isWild 1 = .ok (.bipush 96, 2) := by decide +kernel
theorem dX4_isWild_3 : decode cX4_isWild 3 = .ok (.invokestatic 69, 3) := by decide +kernel
theorem dX4_isWild_6 : decode cX4_isWild 6 = .ok (.ifCond .eq 16, 3) := by decide +kernel
theorem dX4_isWild_9 : decode cX4_isWild 9 = .ok (.aload_n 0, 1) := by decide +kernel
theorem dX4_isWild_10 : decode cX4_isWild 10 = .ok (.getfield 18, 3) := by decide +kernel
theorem dX4_isWild_13 : decode cX4_isWild 13 = .ok (.iload_n 1, 1) := by decide +kernel
theorem dX4_isWild_14 : decode cX4_isWild 14 = .ok (.iaload, 1) := by decide +kernel
theorem dX4_isWild_15 : decode cX4_isWild 15 = .ok (.ifCond .ne 7, 3) := by decide +kernel
theorem dX4_isWild_18 : decode cX4_isWild 18 = .ok (.iconst 1, 1) := by decide +kernel
theorem dX4_isWild_19 : decode cX4_isWild 19 = .ok (.goto 4, 3) := by decide +kernel
theorem dX4_isWild_22 : decode cX4_isWild 22 = .ok (.iconst 0, 1) := by decide +kernel
theorem dX4_isWild_23 : decode cX4_isWild 23 = .ok (.ireturn, 1) := by decide +kernel
theorem mX4_isWild (l : Launch) {Y : Nat → ClassId} {D : va_G} {σ : Nat → Nat} {np b0 : Nat} {M : Mc} {N : Md} {g : Nat} {p0 : Int32} {r : Int32} (hg : is4 g) (hf : fX4_isWild M g p0 = some r) : Met l yX4_isWild (.code yX4_isWild cX4_isWild 2 (some .boolean) :: lw_g) (rmD 2) (PR Y D σ np b0 [.ref (σ g), .int p0] M N) (QR Y D σ np b0 (some (.int r)) M N) 0 0 (xA b0) := by
  refine x_met (by decide) (Nat.le_of_ble_eq_true rfl) (fun p e s m args below meth c hE hr => ?_)
  unfold fX4_isWild at hf
  refine x_pick [0, 1] (L' := [(0, .ref (σ g)), (1, .int p0)]) rfl ?_
  refine x_iload_n hE 1 dX4_isWild_0 rfl rfl ?_
  refine x_bipush hE (nI 96) dX4_isWild_1 (by decide) ?_
  obtain ⟨v2, hc1, hf⟩ := bnd_some hf
  refine x_callSN1 hE [.int p0, .int (nI 96)] (rest := []) (v := .int v2) (c1 := M) (d1 := N) rfl yokX11_inside ysX11_inside lk_X4_69 rfl rfl ⟨Nat.le_of_ble_eq_true rfl, Nat.le_of_ble_eq_true rfl⟩ ⟨Nat.zero_le _, Nat.zero_le _⟩ rfl (Nat.le_of_ble_eq_true rfl) dX4_isWild_3 (mX11_inside l hc1) ?_
  refine x_if_eq hE 22 dX4_isWild_6 (by decide) hf (fun hf => ?_) (fun hf => ?_)
  · refine x_iconst hE (0 : Int32) dX4_isWild_22 (by decide) ?_
    replace hf := Option.some.inj hf
    subst hf
    exact x_ireturn hE (v := 0) hr rfl dX4_isWild_23
  · refine x_aload_n hE 0 dX4_isWild_9 rfl rfl ?_
    refine x_getR hE cl_4 (hE.kd (kO_4 hg)) (by decide) 2 (g + 4) rfl (by decide) lk_X4_18 dX4_isWild_10 ?_
    refine x_iload_n hE 1 dX4_isWild_13 rfl rfl ?_
    refine x_iald hE (hE.kd (kB_4_2 hg)) dX4_isWild_14 hf (fun hf => ?_)
    refine x_if_ne hE 22 dX4_isWild_15 (by decide) hf (fun hf => ?_) (fun hf => ?_)
    · refine x_iconst hE (0 : Int32) dX4_isWild_22 (by decide) ?_
      replace hf := Option.some.inj hf
      subst hf
      exact x_ireturn hE (v := 0) hr rfl dX4_isWild_23
    · refine x_iconst hE (nI 1) dX4_isWild_18 (by decide) ?_
      refine x_goto hE 23 dX4_isWild_19 (by decide) ?_
      replace hf := Option.some.inj hf
      subst hf
      exact x_ireturn hE (v := nI 1) hr rfl dX4_isWild_23
theorem yokX4_isWild : YOK yX4_isWild cX4_isWild 2 1 (some .boolean) := ⟨mem_g 858 (by decide +kernel) (by decide +kernel), mem_g 134 (by decide +kernel) (by decide +kernel), by decide +kernel, by decide +kernel, by decide +kernel⟩
theorem yvX4_isWild : YV yX4_isWild := ⟨mem_g 856 (by decide +kernel) (by decide +kernel), mem_g 857 (by decide +kernel) (by decide +kernel)⟩
theorem lk_X4_65 : Cond.methodLink RX4 65 yX4_isWild ∈ lw_g := mem_g 855 (by decide +kernel) (by decide +kernel)
theorem dX4_shape_0 : decode cX4_shape 0 = .ok (.aload_n 0, 1) := by decide +kernel
theorem dX4_shape_1 : decode cX4_shape 1 = .ok (.iload_n 1, 1) := by decide +kernel
theorem dX4_shape_2 : decode cX4_shape 2 = .ok (.invokevirtual 65, 3) := by decide +kernel
theorem dX4_shape_5 : decode cX4_shape 5 = .ok (.ifCond .ne 5, 3) := by decide +kernel
theorem dX4_shape_8 : decode cX4_shape 8 = .ok (.iconst 0, 1) := by decide +kernel
theorem dX4_shape_9 : decode cX4_shape 9 = .ok (.ireturn, 1) := by decide +kernel
theorem dX4_shape_10 : decode cX4_shape 10 = .ok (.aload_n 0, 1) := by decide +kernel
theorem dX4_shape_11 : decode cX4_shape 11 = .ok (.getfield 9, 3) := by decide +kernel
theorem dX4_shape_14 : decode cX4_shape 14 = .ok (.iload_n 1, 1) := by decide +kernel
theorem dX4_shape_15 : decode cX4_shape 15 = .ok (.iload_n 2, 1) := by decide +kernel
theorem dX4_shape_16 : decode cX4_shape 16 = .ok (.iastore, 1) := by decide +kernel
theorem dX4_shape_17 : decode cX4_shape 17 = .ok (.aload_n 0, 1) := by decide +kernel
theorem dX4_shape_18 : decode cX4_shape 18 = .ok (.getfield 15, 3) := by decide +kernel
theorem dX4_shape_21 : decode cX4_shape 21 = .ok (.iload_n 1, 1) := by decide +kernel
theorem dX4_shape_22 : decode cX4_shape 22 = .ok (.bipush 6, 2) := by decide +kernel
theorem dX4_shape_24 : decode cX4_shape 24 = .ok (.iload_n 3, 1) := by decide +kernel
theorem dX4_shape_25 : decode cX4_shape 25 = .ok (.ifCond .eq 7, 3) := by decide +kernel
theorem dX4_shape_28 : decode cX4_shape 28 = .ok (.iconst 3, 1) := by decide +kernel
theorem dX4_shape_29 : decode cX4_shape 29 = .ok (.goto 4, 3) := by decide +kernel
theorem dX4_shape_32 : decode cX4_shape 32 = .ok (.iconst 0, 1) := by decide +kernel
theorem dX4_shape_33 : decode cX4_shape 33 = .ok (.iadd, 1) := by decide +kernel
theorem dX4_shape_34 : decode cX4_shape 34 = .ok (.bipush 9, 2) := by decide +kernel
theorem dX4_shape_36 : decode cX4_shape 36 = .ok (.iload_n 2, 1) := by decide +kernel
theorem dX4_shape_37 : decode cX4_shape 37 = .ok (.isub, 1) := by decide +kernel
theorem dX4_shape_38 : decode cX4_shape 38 = .ok (.iconst 3, 1) := by decide +kernel
theorem dX4_shape_39 : decode cX4_shape 39 = .ok (.idiv, 1) := by decide +kernel
theorem dX4_shape_40 : decode cX4_shape 40 = .ok (.iadd, 1) := by decide +kernel
theorem dX4_shape_41 : decode cX4_shape 41 = .ok (.iastore, 1) := by decide +kernel
theorem dX4_shape_42 : decode cX4_shape 42 = .ok (.iconst 1, 1) := by decide +kernel
theorem dX4_shape_43 : decode cX4_shape 43 = .ok (.ireturn, 1) := by decide +kernel
theorem wX4_shape_J33 {p : Program} {l : Launch} {e : Env} {s : State} {m : MethodId} {args : Array Value} {below : List Frame} {meth : Method} {c : Code} {Y : Nat → ClassId} {D : va_G} {σ : Nat → Nat} {np b0 : Nat} {g : Nat} {r : Int32 × Mc} {M : Mc} {N : Md} {X2 : Int32} {Z0 : Int32} {Z1 : Int32} {Z2 : Int32} (hE : EOK p s m args meth c cX4_shape 4 RX4 Y D σ np b0) (hr : meth.sig.returnType = (some .boolean)) (hg : is4 g) (hf : fX4_shape_J33 g M X2 Z0 Z1 Z2 = some r) : Xw p l e (rmD 3) s m args below meth c 4 Y D σ np b0 0 0 (MQ below (QR Y D σ np b0 (some (.int r.1)) r.2 N) args s 0 0 (xA b0)) 33 [(2, .int X2)] [.int Z0, .int Z1, .int Z2, .ref (σ (g + 3))] M N := by
  unfold fX4_shape_J33 at hf
  refine x_iadd hE dX4_shape_33 ?_
  refine x_bipush hE (nI 9) dX4_shape_34 (by decide) ?_
  refine x_iload_n hE 0 dX4_shape_36 rfl rfl ?_
  refine x_isub hE dX4_shape_37 ?_
  refine x_iconst hE (nI 3) dX4_shape_38 (by decide) ?_
  refine x_idivC hE dX4_shape_39 (by decide) ?_
  refine x_iadd hE dX4_shape_40 ?_
  refine x_iast hE (hE.kd (kB_4_1 hg)) dX4_shape_41 hf (fun M4 hf => ?_)
  refine x_iconst hE (nI 1) dX4_shape_42 (by decide) ?_
  replace hf := Option.some.inj hf
  subst hf
  exact x_ireturn hE (v := nI 1) hr rfl dX4_shape_43
theorem mX4_shape (l : Launch) {Y : Nat → ClassId} {D : va_G} {σ : Nat → Nat} {np b0 : Nat} {M : Mc} {N : Md} {g : Nat} {p0 : Int32} {p1 : Int32} {p2 : Int32} {r : Int32 × Mc} (hg : is4 g) (hf : fX4_shape M g p0 p1 p2 = some r) : Met l yX4_shape (.code yX4_shape cX4_shape 4 (some .boolean) :: lw_g) (rmD 3) (PR Y D σ np b0 [.ref (σ g), .int p0, .int p1, .int p2] M N) (QR Y D σ np b0 (some (.int r.1)) r.2 N) 0 0 (xA b0) := by
  refine x_met (by decide) (Nat.le_of_ble_eq_true rfl) (fun p e s m args below meth c hE hr => ?_)
  unfold fX4_shape at hf
  refine x_pick [0, 1, 2, 3] (L' := [(0, .ref (σ g)), (1, .int p0), (2, .int p1), (3, .int p2)]) rfl ?_
  refine x_aload_n hE 0 dX4_shape_0 rfl rfl ?_
  refine x_iload_n hE 1 dX4_shape_1 rfl rfl ?_
  obtain ⟨v2, hc1, hf⟩ := bnd_some hf
  refine x_callV1 hE [.int p0] (rest := []) (v := .int v2) (c1 := M) (d1 := N) rfl yokX4_isWild yvX4_isWild lk_X4_65 rfl cl_4 (hE.kd (kO_4 hg)) (by decide) rfl rfl ⟨Nat.le_of_ble_eq_true rfl, Nat.le_of_ble_eq_true rfl⟩ ⟨Nat.zero_le _, Nat.zero_le _⟩ rfl (Nat.le_of_ble_eq_true rfl) dX4_shape_2 (mX4_isWild l hg hc1) ?_
  refine x_if_ne hE 10 dX4_shape_5 (by decide) hf (fun hf => ?_) (fun hf => ?_)
  · refine x_aload_n hE 0 dX4_shape_10 rfl rfl ?_
    refine x_getR hE cl_4 (hE.kd (kO_4 hg)) (by decide) 0 (g + 1) rfl (by decide) lk_X4_9 dX4_shape_11 ?_
    refine x_iload_n hE 1 dX4_shape_14 rfl rfl ?_
    refine x_iload_n hE 2 dX4_shape_15 rfl rfl ?_
    refine x_iast hE (hE.kd (kB_4_0 hg)) dX4_shape_16 hf (fun M3 hf => ?_)
    refine x_aload_n hE 0 dX4_shape_17 rfl rfl ?_
    refine x_getR hE cl_4 (hE.kd (kO_4 hg)) (by decide) 1 (g + 3) rfl (by decide) lk_X4_15 dX4_shape_18 ?_
    refine x_iload_n hE 1 dX4_shape_21 rfl rfl ?_
    refine x_bipush hE (nI 6) dX4_shape_22 (by decide) ?_
    refine x_iload_n hE 3 dX4_shape_24 rfl rfl ?_
    refine x_if_eq hE 32 dX4_shape_25 (by decide) hf (fun hf => ?_) (fun hf => ?_)
    · refine x_iconst hE (0 : Int32) dX4_shape_32 (by decide) ?_
      refine x_pick [2] (L' := [(2, .int p1)]) rfl ?_
      exact wX4_shape_J33 hE hr hg hf
    · refine x_iconst hE (nI 3) dX4_shape_28 (by decide) ?_
      refine x_goto hE 33 dX4_shape_29 (by decide) ?_
      refine x_pick [2] (L' := [(2, .int p1)]) rfl ?_
      exact wX4_shape_J33 hE hr hg hf
  · refine x_iconst hE (0 : Int32) dX4_shape_8 (by decide) ?_
    replace hf := Option.some.inj hf
    subst hf
    exact x_ireturn hE (v := 0) hr rfl dX4_shape_9
theorem yokX4_shape : YOK yX4_shape cX4_shape 4 3 (some .boolean) := ⟨mem_g 854 (by decide +kernel) (by decide +kernel), mem_g 134 (by decide +kernel) (by decide +kernel), by decide +kernel, by decide +kernel, by decide +kernel⟩
theorem yvX4_shape : YV yX4_shape := ⟨mem_g 852 (by decide +kernel) (by decide +kernel), mem_g 853 (by decide +kernel) (by decide +kernel)⟩
theorem dX4_holdingOf_0 : decode cX4_holdingOf 0 = .ok (.iload_n 1, 1) := by decide +kernel
theorem dX4_holdingOf_1 : decode cX4_holdingOf 1 = .ok (.bipush 96, 2) := by decide +kernel
theorem dX4_holdingOf_3 : decode cX4_holdingOf 3 = .ok (.invokestatic 69, 3) := by decide +kernel
theorem dX4_holdingOf_6 : decode cX4_holdingOf 6 = .ok (.ifCond .eq 12, 3) := by decide +kernel
theorem dX4_holdingOf_9 : decode cX4_holdingOf 9 = .ok (.aload_n 0, 1) := by decide +kernel
theorem dX4_holdingOf_10 : decode cX4_holdingOf 10 = .ok (.getfield 18, 3) := by decide +kernel
theorem dX4_holdingOf_13 : decode cX4_holdingOf 13 = .ok (.iload_n 1, 1) := by decide +kernel
theorem dX4_holdingOf_14 : decode cX4_holdingOf 14 = .ok (.iaload, 1) := by decide +kernel
theorem dX4_holdingOf_15 : decode cX4_holdingOf 15 = .ok (.goto 4, 3) := by decide +kernel
theorem dX4_holdingOf_18 : decode cX4_holdingOf 18 = .ok (.iconst (-1), 1) := by decide +kernel
theorem dX4_holdingOf_19 : decode cX4_holdingOf 19 = .ok (.ireturn, 1) := by decide +kernel
theorem mX4_holdingOf (l : Launch) {Y : Nat → ClassId} {D : va_G} {σ : Nat → Nat} {np b0 : Nat} {M : Mc} {N : Md} {g : Nat} {p0 : Int32} {r : Int32} (hg : is4 g) (hf : fX4_holdingOf M g p0 = some r) : Met l yX4_holdingOf (.code yX4_holdingOf cX4_holdingOf 2 (some .int) :: lw_g) (rmD 2) (PR Y D σ np b0 [.ref (σ g), .int p0] M N) (QR Y D σ np b0 (some (.int r)) M N) 0 0 (xA b0) := by
  refine x_met (by decide) (Nat.le_of_ble_eq_true rfl) (fun p e s m args below meth c hE hr => ?_)
  unfold fX4_holdingOf at hf
  refine x_pick [0, 1] (L' := [(0, .ref (σ g)), (1, .int p0)]) rfl ?_
  refine x_iload_n hE 1 dX4_holdingOf_0 rfl rfl ?_
  refine x_bipush hE (nI 96) dX4_holdingOf_1 (by decide) ?_
  obtain ⟨v2, hc1, hf⟩ := bnd_some hf
  refine x_callSN1 hE [.int p0, .int (nI 96)] (rest := []) (v := .int v2) (c1 := M) (d1 := N) rfl yokX11_inside ysX11_inside lk_X4_69 rfl rfl ⟨Nat.le_of_ble_eq_true rfl, Nat.le_of_ble_eq_true rfl⟩ ⟨Nat.zero_le _, Nat.zero_le _⟩ rfl (Nat.le_of_ble_eq_true rfl) dX4_holdingOf_3 (mX11_inside l hc1) ?_
  refine x_if_eq hE 18 dX4_holdingOf_6 (by decide) hf (fun hf => ?_) (fun hf => ?_)
  · refine x_iconst hE (-1) dX4_holdingOf_18 (by decide) ?_
    replace hf := Option.some.inj hf
    subst hf
    exact x_ireturn hE (v := (-1)) hr rfl dX4_holdingOf_19
  · refine x_aload_n hE 0 dX4_holdingOf_9 rfl rfl ?_
    refine x_getR hE cl_4 (hE.kd (kO_4 hg)) (by decide) 2 (g + 4) rfl (by decide) lk_X4_18 dX4_holdingOf_10 ?_
    refine x_iload_n hE 1 dX4_holdingOf_13 rfl rfl ?_
    refine x_iald hE (hE.kd (kB_4_2 hg)) dX4_holdingOf_14 hf (fun hf => ?_)
    refine x_goto hE 19 dX4_holdingOf_15 (by decide) ?_
    replace hf := Option.some.inj hf
    subst hf
    exact x_ireturn hE (v := M (g + 4) p0.toNatClampNeg) hr rfl dX4_holdingOf_19
theorem yokX4_holdingOf : YOK yX4_holdingOf cX4_holdingOf 2 1 (some .int) := ⟨mem_g 703 (by decide +kernel) (by decide +kernel), mem_g 134 (by decide +kernel) (by decide +kernel), by decide +kernel, by decide +kernel, by decide +kernel⟩
theorem yvX4_holdingOf : YV yX4_holdingOf := ⟨mem_g 701 (by decide +kernel) (by decide +kernel), mem_g 702 (by decide +kernel) (by decide +kernel)⟩
theorem dX4_soilOf_0 : decode cX4_soilOf 0 = .ok (.iload_n 1, 1) := by decide +kernel
theorem dX4_soilOf_1 : decode cX4_soilOf 1 = .ok (.bipush 96, 2) := by decide +kernel
theorem dX4_soilOf_3 : decode cX4_soilOf 3 = .ok (.invokestatic 69, 3) := by decide +kernel
theorem dX4_soilOf_6 : decode cX4_soilOf 6 = .ok (.ifCond .eq 12, 3) := by decide +kernel
theorem dX4_soilOf_9 : decode cX4_soilOf 9 = .ok (.aload_n 0, 1) := by decide +kernel
theorem dX4_soilOf_10 : decode cX4_soilOf 10 = .ok (.getfield 9, 3) := by decide +kernel
theorem dX4_soilOf_13 : decode cX4_soilOf 13 = .ok (.iload_n 1, 1) := by decide +kernel
theorem dX4_soilOf_14 : decode cX4_soilOf 14 = .ok (.iaload, 1) := by decide +kernel
theorem dX4_soilOf_15 : decode cX4_soilOf 15 = .ok (.goto 4, 3) := by decide +kernel
theorem dX4_soilOf_18 : decode cX4_soilOf 18 = .ok (.iconst 0, 1) := by decide +kernel
theorem dX4_soilOf_19 : decode cX4_soilOf 19 = .ok (.ireturn, 1) := by decide +kernel
theorem mX4_soilOf (l : Launch) {Y : Nat → ClassId} {D : va_G} {σ : Nat → Nat} {np b0 : Nat} {M : Mc} {N : Md} {g : Nat} {p0 : Int32} {r : Int32} (hg : is4 g) (hf : fX4_soilOf M g p0 = some r) : Met l yX4_soilOf (.code yX4_soilOf cX4_soilOf 2 (some .int) :: lw_g) (rmD 2) (PR Y D σ np b0 [.ref (σ g), .int p0] M N) (QR Y D σ np b0 (some (.int r)) M N) 0 0 (xA b0) := by
  refine x_met (by decide) (Nat.le_of_ble_eq_true rfl) (fun p e s m args below meth c hE hr => ?_)
  unfold fX4_soilOf at hf
  refine x_pick [0, 1] (L' := [(0, .ref (σ g)), (1, .int p0)]) rfl ?_
  refine x_iload_n hE 1 dX4_soilOf_0 rfl rfl ?_
  refine x_bipush hE (nI 96) dX4_soilOf_1 (by decide) ?_
  obtain ⟨v2, hc1, hf⟩ := bnd_some hf
  refine x_callSN1 hE [.int p0, .int (nI 96)] (rest := []) (v := .int v2) (c1 := M) (d1 := N) rfl yokX11_inside ysX11_inside lk_X4_69 rfl rfl ⟨Nat.le_of_ble_eq_true rfl, Nat.le_of_ble_eq_true rfl⟩ ⟨Nat.zero_le _, Nat.zero_le _⟩ rfl (Nat.le_of_ble_eq_true rfl) dX4_soilOf_3 (mX11_inside l hc1) ?_
  refine x_if_eq hE 18 dX4_soilOf_6 (by decide) hf (fun hf => ?_) (fun hf => ?_)
  · refine x_iconst hE (0 : Int32) dX4_soilOf_18 (by decide) ?_
    replace hf := Option.some.inj hf
    subst hf
    exact x_ireturn hE (v := 0) hr rfl dX4_soilOf_19
  · refine x_aload_n hE 0 dX4_soilOf_9 rfl rfl ?_
    refine x_getR hE cl_4 (hE.kd (kO_4 hg)) (by decide) 0 (g + 1) rfl (by decide) lk_X4_9 dX4_soilOf_10 ?_
    refine x_iload_n hE 1 dX4_soilOf_13 rfl rfl ?_
    refine x_iald hE (hE.kd (kB_4_0 hg)) dX4_soilOf_14 hf (fun hf => ?_)
    refine x_goto hE 19 dX4_soilOf_15 (by decide) ?_
    replace hf := Option.some.inj hf
    subst hf
    exact x_ireturn hE (v := M (g + 1) p0.toNatClampNeg) hr rfl dX4_soilOf_19
theorem yokX4_soilOf : YOK yX4_soilOf cX4_soilOf 2 1 (some .int) := ⟨mem_g 1171 (by decide +kernel) (by decide +kernel), mem_g 134 (by decide +kernel) (by decide +kernel), by decide +kernel, by decide +kernel, by decide +kernel⟩
theorem yvX4_soilOf : YV yX4_soilOf := ⟨mem_g 1169 (by decide +kernel) (by decide +kernel), mem_g 1170 (by decide +kernel) (by decide +kernel)⟩
theorem dX4_ownerOf_0 : decode cX4_ownerOf 0 = .ok (.iload_n 1, 1) := by decide +kernel
theorem dX4_ownerOf_1 : decode cX4_ownerOf 1 = .ok (.bipush 96, 2) := by decide +kernel
theorem dX4_ownerOf_3 : decode cX4_ownerOf 3 = .ok (.invokestatic 69, 3) := by decide +kernel
theorem dX4_ownerOf_6 : decode cX4_ownerOf 6 = .ok (.ifCond .eq 12, 3) := by decide +kernel
theorem dX4_ownerOf_9 : decode cX4_ownerOf 9 = .ok (.aload_n 0, 1) := by decide +kernel
theorem dX4_ownerOf_10 : decode cX4_ownerOf 10 = .ok (.getfield 21, 3) := by decide +kernel
theorem dX4_ownerOf_13 : decode cX4_ownerOf 13 = .ok (.iload_n 1, 1) := by decide +kernel
theorem dX4_ownerOf_14 : decode cX4_ownerOf 14 = .ok (.iaload, 1) := by decide +kernel
theorem dX4_ownerOf_15 : decode cX4_ownerOf 15 = .ok (.goto 4, 3) := by decide +kernel
theorem dX4_ownerOf_18 : decode cX4_ownerOf 18 = .ok (.iconst (-1), 1) := by decide +kernel
theorem dX4_ownerOf_19 : decode cX4_ownerOf 19 = .ok (.ireturn, 1) := by decide +kernel
theorem mX4_ownerOf (l : Launch) {Y : Nat → ClassId} {D : va_G} {σ : Nat → Nat} {np b0 : Nat} {M : Mc} {N : Md} {g : Nat} {p0 : Int32} {r : Int32} (hg : is4 g) (hf : fX4_ownerOf M g p0 = some r) : Met l yX4_ownerOf (.code yX4_ownerOf cX4_ownerOf 2 (some .int) :: lw_g) (rmD 2) (PR Y D σ np b0 [.ref (σ g), .int p0] M N) (QR Y D σ np b0 (some (.int r)) M N) 0 0 (xA b0) := by
  refine x_met (by decide) (Nat.le_of_ble_eq_true rfl) (fun p e s m args below meth c hE hr => ?_)
  unfold fX4_ownerOf at hf
  refine x_pick [0, 1] (L' := [(0, .ref (σ g)), (1, .int p0)]) rfl ?_
  refine x_iload_n hE 1 dX4_ownerOf_0 rfl rfl ?_
  refine x_bipush hE (nI 96) dX4_ownerOf_1 (by decide) ?_
  obtain ⟨v2, hc1, hf⟩ := bnd_some hf
  refine x_callSN1 hE [.int p0, .int (nI 96)] (rest := []) (v := .int v2) (c1 := M) (d1 := N) rfl yokX11_inside ysX11_inside lk_X4_69 rfl rfl ⟨Nat.le_of_ble_eq_true rfl, Nat.le_of_ble_eq_true rfl⟩ ⟨Nat.zero_le _, Nat.zero_le _⟩ rfl (Nat.le_of_ble_eq_true rfl) dX4_ownerOf_3 (mX11_inside l hc1) ?_
  refine x_if_eq hE 18 dX4_ownerOf_6 (by decide) hf (fun hf => ?_) (fun hf => ?_)
  · refine x_iconst hE (-1) dX4_ownerOf_18 (by decide) ?_
    replace hf := Option.some.inj hf
    subst hf
    exact x_ireturn hE (v := (-1)) hr rfl dX4_ownerOf_19
  · refine x_aload_n hE 0 dX4_ownerOf_9 rfl rfl ?_
    refine x_getR hE cl_4 (hE.kd (kO_4 hg)) (by decide) 3 (g + 5) rfl (by decide) lk_X4_21 dX4_ownerOf_10 ?_
    refine x_iload_n hE 1 dX4_ownerOf_13 rfl rfl ?_
    refine x_iald hE (hE.kd (kB_4_3 hg)) dX4_ownerOf_14 hf (fun hf => ?_)
    refine x_goto hE 19 dX4_ownerOf_15 (by decide) ?_
    replace hf := Option.some.inj hf
    subst hf
    exact x_ireturn hE (v := M (g + 5) p0.toNatClampNeg) hr rfl dX4_ownerOf_19
theorem yokX4_ownerOf : YOK yX4_ownerOf cX4_ownerOf 2 1 (some .int) := ⟨mem_g 708 (by decide +kernel) (by decide +kernel), mem_g 134 (by decide +kernel) (by decide +kernel), by decide +kernel, by decide +kernel, by decide +kernel⟩
theorem yvX4_ownerOf : YV yX4_ownerOf := ⟨mem_g 706 (by decide +kernel) (by decide +kernel), mem_g 707 (by decide +kernel) (by decide +kernel)⟩
theorem dX4_stockOf_0 : decode cX4_stockOf 0 = .ok (.iload_n 1, 1) := by decide +kernel
theorem dX4_stockOf_1 : decode cX4_stockOf 1 = .ok (.bipush 96, 2) := by decide +kernel
theorem dX4_stockOf_3 : decode cX4_stockOf 3 = .ok (.invokestatic 69, 3) := by decide +kernel
theorem dX4_stockOf_6 : decode cX4_stockOf 6 = .ok (.ifCond .eq 12, 3) := by decide +kernel
theorem dX4_stockOf_9 : decode cX4_stockOf 9 = .ok (.aload_n 0, 1) := by decide +kernel
theorem dX4_stockOf_10 : decode cX4_stockOf 10 = .ok (.getfield 27, 3) := by decide +kernel
theorem dX4_stockOf_13 : decode cX4_stockOf 13 = .ok (.iload_n 1, 1) := by decide +kernel
theorem dX4_stockOf_14 : decode cX4_stockOf 14 = .ok (.iaload, 1) := by decide +kernel
theorem dX4_stockOf_15 : decode cX4_stockOf 15 = .ok (.goto 4, 3) := by decide +kernel
theorem dX4_stockOf_18 : decode cX4_stockOf 18 = .ok (.iconst 0, 1) := by decide +kernel
theorem dX4_stockOf_19 : decode cX4_stockOf 19 = .ok (.ireturn, 1) := by decide +kernel
theorem mX4_stockOf (l : Launch) {Y : Nat → ClassId} {D : va_G} {σ : Nat → Nat} {np b0 : Nat} {M : Mc} {N : Md} {g : Nat} {p0 : Int32} {r : Int32} (hg : is4 g) (hf : fX4_stockOf M g p0 = some r) : Met l yX4_stockOf (.code yX4_stockOf cX4_stockOf 2 (some .int) :: lw_g) (rmD 2) (PR Y D σ np b0 [.ref (σ g), .int p0] M N) (QR Y D σ np b0 (some (.int r)) M N) 0 0 (xA b0) := by
  refine x_met (by decide) (Nat.le_of_ble_eq_true rfl) (fun p e s m args below meth c hE hr => ?_)
  unfold fX4_stockOf at hf
  refine x_pick [0, 1] (L' := [(0, .ref (σ g)), (1, .int p0)]) rfl ?_
  refine x_iload_n hE 1 dX4_stockOf_0 rfl rfl ?_
  refine x_bipush hE (nI 96) dX4_stockOf_1 (by decide) ?_
  obtain ⟨v2, hc1, hf⟩ := bnd_some hf
  refine x_callSN1 hE [.int p0, .int (nI 96)] (rest := []) (v := .int v2) (c1 := M) (d1 := N) rfl yokX11_inside ysX11_inside lk_X4_69 rfl rfl ⟨Nat.le_of_ble_eq_true rfl, Nat.le_of_ble_eq_true rfl⟩ ⟨Nat.zero_le _, Nat.zero_le _⟩ rfl (Nat.le_of_ble_eq_true rfl) dX4_stockOf_3 (mX11_inside l hc1) ?_
  refine x_if_eq hE 18 dX4_stockOf_6 (by decide) hf (fun hf => ?_) (fun hf => ?_)
  · refine x_iconst hE (0 : Int32) dX4_stockOf_18 (by decide) ?_
    replace hf := Option.some.inj hf
    subst hf
    exact x_ireturn hE (v := 0) hr rfl dX4_stockOf_19
  · refine x_aload_n hE 0 dX4_stockOf_9 rfl rfl ?_
    refine x_getR hE cl_4 (hE.kd (kO_4 hg)) (by decide) 5 (g + 7) rfl (by decide) lk_X4_27 dX4_stockOf_10 ?_
    refine x_iload_n hE 1 dX4_stockOf_13 rfl rfl ?_
    refine x_iald hE (hE.kd (kB_4_5 hg)) dX4_stockOf_14 hf (fun hf => ?_)
    refine x_goto hE 19 dX4_stockOf_15 (by decide) ?_
    replace hf := Option.some.inj hf
    subst hf
    exact x_ireturn hE (v := M (g + 7) p0.toNatClampNeg) hr rfl dX4_stockOf_19
theorem yokX4_stockOf : YOK yX4_stockOf cX4_stockOf 2 1 (some .int) := ⟨mem_g 1289 (by decide +kernel) (by decide +kernel), mem_g 134 (by decide +kernel) (by decide +kernel), by decide +kernel, by decide +kernel, by decide +kernel⟩
theorem yvX4_stockOf : YV yX4_stockOf := ⟨mem_g 1287 (by decide +kernel) (by decide +kernel), mem_g 1288 (by decide +kernel) (by decide +kernel)⟩
theorem dX4_paidFor_0 : decode cX4_paidFor 0 = .ok (.iload_n 1, 1) := by decide +kernel
theorem dX4_paidFor_1 : decode cX4_paidFor 1 = .ok (.bipush 96, 2) := by decide +kernel
theorem dX4_paidFor_3 : decode cX4_paidFor 3 = .ok (.invokestatic 69, 3) := by decide +kernel
theorem dX4_paidFor_6 : decode cX4_paidFor 6 = .ok (.ifCond .eq 12, 3) := by decide +kernel
theorem dX4_paidFor_9 : decode cX4_paidFor 9 = .ok (.aload_n 0, 1) := by decide +kernel
theorem dX4_paidFor_10 : decode cX4_paidFor 10 = .ok (.getfield 34, 3) := by decide +kernel
theorem dX4_paidFor_13 : decode cX4_paidFor 13 = .ok (.iload_n 1, 1) := by decide +kernel
theorem dX4_paidFor_14 : decode cX4_paidFor 14 = .ok (.iaload, 1) := by decide +kernel
theorem dX4_paidFor_15 : decode cX4_paidFor 15 = .ok (.goto 4, 3) := by decide +kernel
theorem dX4_paidFor_18 : decode cX4_paidFor 18 = .ok (.iconst (-1), 1) := by decide +kernel
theorem dX4_paidFor_19 : decode cX4_paidFor 19 = .ok (.ireturn, 1) := by decide +kernel
theorem mX4_paidFor (l : Launch) {Y : Nat → ClassId} {D : va_G} {σ : Nat → Nat} {np b0 : Nat} {M : Mc} {N : Md} {g : Nat} {p0 : Int32} {r : Int32} (hg : is4 g) (hf : fX4_paidFor M g p0 = some r) : Met l yX4_paidFor (.code yX4_paidFor cX4_paidFor 2 (some .int) :: lw_g) (rmD 2) (PR Y D σ np b0 [.ref (σ g), .int p0] M N) (QR Y D σ np b0 (some (.int r)) M N) 0 0 (xA b0) := by
  refine x_met (by decide) (Nat.le_of_ble_eq_true rfl) (fun p e s m args below meth c hE hr => ?_)
  unfold fX4_paidFor at hf
  refine x_pick [0, 1] (L' := [(0, .ref (σ g)), (1, .int p0)]) rfl ?_
  refine x_iload_n hE 1 dX4_paidFor_0 rfl rfl ?_
  refine x_bipush hE (nI 96) dX4_paidFor_1 (by decide) ?_
  obtain ⟨v2, hc1, hf⟩ := bnd_some hf
  refine x_callSN1 hE [.int p0, .int (nI 96)] (rest := []) (v := .int v2) (c1 := M) (d1 := N) rfl yokX11_inside ysX11_inside lk_X4_69 rfl rfl ⟨Nat.le_of_ble_eq_true rfl, Nat.le_of_ble_eq_true rfl⟩ ⟨Nat.zero_le _, Nat.zero_le _⟩ rfl (Nat.le_of_ble_eq_true rfl) dX4_paidFor_3 (mX11_inside l hc1) ?_
  refine x_if_eq hE 18 dX4_paidFor_6 (by decide) hf (fun hf => ?_) (fun hf => ?_)
  · refine x_iconst hE (-1) dX4_paidFor_18 (by decide) ?_
    replace hf := Option.some.inj hf
    subst hf
    exact x_ireturn hE (v := (-1)) hr rfl dX4_paidFor_19
  · refine x_aload_n hE 0 dX4_paidFor_9 rfl rfl ?_
    refine x_getR hE cl_4 (hE.kd (kO_4 hg)) (by decide) 7 (g + 9) rfl (by decide) lk_X4_34 dX4_paidFor_10 ?_
    refine x_iload_n hE 1 dX4_paidFor_13 rfl rfl ?_
    refine x_iald hE (hE.kd (kB_4_7 hg)) dX4_paidFor_14 hf (fun hf => ?_)
    refine x_goto hE 19 dX4_paidFor_15 (by decide) ?_
    replace hf := Option.some.inj hf
    subst hf
    exact x_ireturn hE (v := M (g + 9) p0.toNatClampNeg) hr rfl dX4_paidFor_19
theorem yokX4_paidFor : YOK yX4_paidFor cX4_paidFor 2 1 (some .int) := ⟨mem_g 1709 (by decide +kernel) (by decide +kernel), mem_g 134 (by decide +kernel) (by decide +kernel), by decide +kernel, by decide +kernel, by decide +kernel⟩
theorem yvX4_paidFor : YV yX4_paidFor := ⟨mem_g 1707 (by decide +kernel) (by decide +kernel), mem_g 1708 (by decide +kernel) (by decide +kernel)⟩
theorem dX4_isLot_0 : decode cX4_isLot 0 = .ok (.iload_n 1, 1) := by decide +kernel
theorem dX4_isLot_1 : decode cX4_isLot 1 = .ok (.bipush 96, 2) := by decide +kernel
theorem dX4_isLot_3 : decode cX4_isLot 3 = .ok (.invokestatic 69, 3) := by decide +kernel
theorem dX4_isLot_6 : decode cX4_isLot 6 = .ok (.ifCond .eq 17, 3) := by decide +kernel
theorem dX4_isLot_9 : decode cX4_isLot 9 = .ok (.aload_n 0, 1) := by decide +kernel
theorem dX4_isLot_10 : decode cX4_isLot 10 = .ok (.getfield 18, 3) := by decide +kernel
theorem dX4_isLot_13 : decode cX4_isLot 13 = .ok (.iload_n 1, 1) := by decide +kernel
theorem dX4_isLot_14 : decode cX4_isLot 14 = .ok (.iaload, 1) := by decide +kernel
theorem dX4_isLot_15 : decode cX4_isLot 15 = .ok (.iconst 1, 1) := by decide +kernel
theorem dX4_isLot_16 : decode cX4_isLot 16 = .ok (.if_icmp .ne 7, 3) := by decide +kernel
theorem dX4_isLot_19 : decode cX4_isLot 19 = .ok (.iconst 1, 1) := by decide +kernel
theorem dX4_isLot_20 : decode cX4_isLot 20 = .ok (.goto 4, 3) := by decide +kernel
theorem dX4_isLot_23 : decode cX4_isLot 23 = .ok (.iconst 0, 1) := by decide +kernel
theorem dX4_isLot_24 : decode cX4_isLot 24 = .ok (.ireturn, 1) := by decide +kernel
theorem mX4_isLot (l : Launch) {Y : Nat → ClassId} {D : va_G} {σ : Nat → Nat} {np b0 : Nat} {M : Mc} {N : Md} {g : Nat} {p0 : Int32} {r : Int32} (hg : is4 g) (hf : fX4_isLot M g p0 = some r) : Met l yX4_isLot (.code yX4_isLot cX4_isLot 2 (some .boolean) :: lw_g) (rmD 2) (PR Y D σ np b0 [.ref (σ g), .int p0] M N) (QR Y D σ np b0 (some (.int r)) M N) 0 0 (xA b0) := by
  refine x_met (by decide) (Nat.le_of_ble_eq_true rfl) (fun p e s m args below meth c hE hr => ?_)
  unfold fX4_isLot at hf
  refine x_pick [0, 1] (L' := [(0, .ref (σ g)), (1, .int p0)]) rfl ?_
  refine x_iload_n hE 1 dX4_isLot_0 rfl rfl ?_
  refine x_bipush hE (nI 96) dX4_isLot_1 (by decide) ?_
  obtain ⟨v2, hc1, hf⟩ := bnd_some hf
  refine x_callSN1 hE [.int p0, .int (nI 96)] (rest := []) (v := .int v2) (c1 := M) (d1 := N) rfl yokX11_inside ysX11_inside lk_X4_69 rfl rfl ⟨Nat.le_of_ble_eq_true rfl, Nat.le_of_ble_eq_true rfl⟩ ⟨Nat.zero_le _, Nat.zero_le _⟩ rfl (Nat.le_of_ble_eq_true rfl) dX4_isLot_3 (mX11_inside l hc1) ?_
  refine x_if_eq hE 23 dX4_isLot_6 (by decide) hf (fun hf => ?_) (fun hf => ?_)
  · refine x_iconst hE (0 : Int32) dX4_isLot_23 (by decide) ?_
    replace hf := Option.some.inj hf
    subst hf
    exact x_ireturn hE (v := 0) hr rfl dX4_isLot_24
  · refine x_aload_n hE 0 dX4_isLot_9 rfl rfl ?_
    refine x_getR hE cl_4 (hE.kd (kO_4 hg)) (by decide) 2 (g + 4) rfl (by decide) lk_X4_18 dX4_isLot_10 ?_
    refine x_iload_n hE 1 dX4_isLot_13 rfl rfl ?_
    refine x_iald hE (hE.kd (kB_4_2 hg)) dX4_isLot_14 hf (fun hf => ?_)
    refine x_iconst hE (nI 1) dX4_isLot_15 (by decide) ?_
    refine x_icmp_ne hE 23 dX4_isLot_16 (by decide) hf (fun hf => ?_) (fun hf => ?_)
    · refine x_iconst hE (0 : Int32) dX4_isLot_23 (by decide) ?_
      replace hf := Option.some.inj hf
      subst hf
      exact x_ireturn hE (v := 0) hr rfl dX4_isLot_24
    · refine x_iconst hE (nI 1) dX4_isLot_19 (by decide) ?_
      refine x_goto hE 24 dX4_isLot_20 (by decide) ?_
      replace hf := Option.some.inj hf
      subst hf
      exact x_ireturn hE (v := nI 1) hr rfl dX4_isLot_24
theorem yokX4_isLot : YOK yX4_isLot cX4_isLot 2 1 (some .boolean) := ⟨mem_g 1163 (by decide +kernel) (by decide +kernel), mem_g 134 (by decide +kernel) (by decide +kernel), by decide +kernel, by decide +kernel, by decide +kernel⟩
theorem yvX4_isLot : YV yX4_isLot := ⟨mem_g 1161 (by decide +kernel) (by decide +kernel), mem_g 1162 (by decide +kernel) (by decide +kernel)⟩
theorem dX4_isFarm_0 : decode cX4_isFarm 0 = .ok (.iload_n 1, 1) := by decide +kernel
theorem dX4_isFarm_1 : decode cX4_isFarm 1 = .ok (.bipush 96, 2) := by decide +kernel
theorem dX4_isFarm_3 : decode cX4_isFarm 3 = .ok (.invokestatic 69, 3) := by decide +kernel
theorem dX4_isFarm_6 : decode cX4_isFarm 6 = .ok (.ifCond .eq 27, 3) := by decide +kernel
theorem dX4_isFarm_9 : decode cX4_isFarm 9 = .ok (.aload_n 0, 1) := by decide +kernel
theorem dX4_isFarm_10 : decode cX4_isFarm 10 = .ok (.getfield 18, 3) := by decide +kernel
theorem dX4_isFarm_13 : decode cX4_isFarm 13 = .ok (.iload_n 1, 1) := by decide +kernel
theorem dX4_isFarm_14 : decode cX4_isFarm 14 = .ok (.iaload, 1) := by decide +kernel
theorem dX4_isFarm_15 : decode cX4_isFarm 15 = .ok (.iconst 3, 1) := by decide +kernel
theorem dX4_isFarm_16 : decode cX4_isFarm 16 = .ok (.if_icmp .eq 13, 3) := by decide +kernel
theorem dX4_isFarm_19 : decode cX4_isFarm 19 = .ok (.aload_n 0, 1) := by decide +kernel
theorem dX4_isFarm_20 : decode cX4_isFarm 20 = .ok (.getfield 18, 3) := by decide +kernel
theorem dX4_isFarm_23 : decode cX4_isFarm 23 = .ok (.iload_n 1, 1) := by decide +kernel
theorem dX4_isFarm_24 : decode cX4_isFarm 24 = .ok (.iaload, 1) := by decide +kernel
theorem dX4_isFarm_25 : decode cX4_isFarm 25 = .ok (.iconst 5, 1) := by decide +kernel
theorem dX4_isFarm_26 : decode cX4_isFarm 26 = .ok (.if_icmp .ne 7, 3) := by decide +kernel
theorem dX4_isFarm_29 : decode cX4_isFarm 29 = .ok (.iconst 1, 1) := by decide +kernel
theorem dX4_isFarm_30 : decode cX4_isFarm 30 = .ok (.goto 4, 3) := by decide +kernel
theorem dX4_isFarm_33 : decode cX4_isFarm 33 = .ok (.iconst 0, 1) := by decide +kernel
theorem dX4_isFarm_34 : decode cX4_isFarm 34 = .ok (.ireturn, 1) := by decide +kernel
theorem mX4_isFarm (l : Launch) {Y : Nat → ClassId} {D : va_G} {σ : Nat → Nat} {np b0 : Nat} {M : Mc} {N : Md} {g : Nat} {p0 : Int32} {r : Int32} (hg : is4 g) (hf : fX4_isFarm M g p0 = some r) : Met l yX4_isFarm (.code yX4_isFarm cX4_isFarm 2 (some .boolean) :: lw_g) (rmD 2) (PR Y D σ np b0 [.ref (σ g), .int p0] M N) (QR Y D σ np b0 (some (.int r)) M N) 0 0 (xA b0) := by
  refine x_met (by decide) (Nat.le_of_ble_eq_true rfl) (fun p e s m args below meth c hE hr => ?_)
  unfold fX4_isFarm at hf
  refine x_pick [0, 1] (L' := [(0, .ref (σ g)), (1, .int p0)]) rfl ?_
  refine x_iload_n hE 1 dX4_isFarm_0 rfl rfl ?_
  refine x_bipush hE (nI 96) dX4_isFarm_1 (by decide) ?_
  obtain ⟨v2, hc1, hf⟩ := bnd_some hf
  refine x_callSN1 hE [.int p0, .int (nI 96)] (rest := []) (v := .int v2) (c1 := M) (d1 := N) rfl yokX11_inside ysX11_inside lk_X4_69 rfl rfl ⟨Nat.le_of_ble_eq_true rfl, Nat.le_of_ble_eq_true rfl⟩ ⟨Nat.zero_le _, Nat.zero_le _⟩ rfl (Nat.le_of_ble_eq_true rfl) dX4_isFarm_3 (mX11_inside l hc1) ?_
  refine x_if_eq hE 33 dX4_isFarm_6 (by decide) hf (fun hf => ?_) (fun hf => ?_)
  · refine x_iconst hE (0 : Int32) dX4_isFarm_33 (by decide) ?_
    replace hf := Option.some.inj hf
    subst hf
    exact x_ireturn hE (v := 0) hr rfl dX4_isFarm_34
  · refine x_aload_n hE 0 dX4_isFarm_9 rfl rfl ?_
    refine x_getR hE cl_4 (hE.kd (kO_4 hg)) (by decide) 2 (g + 4) rfl (by decide) lk_X4_18 dX4_isFarm_10 ?_
    refine x_iload_n hE 1 dX4_isFarm_13 rfl rfl ?_
    refine x_iald hE (hE.kd (kB_4_2 hg)) dX4_isFarm_14 hf (fun hf => ?_)
    refine x_iconst hE (nI 3) dX4_isFarm_15 (by decide) ?_
    refine x_icmp_eq hE 29 dX4_isFarm_16 (by decide) hf (fun hf => ?_) (fun hf => ?_)
    · refine x_iconst hE (nI 1) dX4_isFarm_29 (by decide) ?_
      refine x_goto hE 34 dX4_isFarm_30 (by decide) ?_
      replace hf := Option.some.inj hf
      subst hf
      exact x_ireturn hE (v := nI 1) hr rfl dX4_isFarm_34
    · refine x_aload_n hE 0 dX4_isFarm_19 rfl rfl ?_
      refine x_getR hE cl_4 (hE.kd (kO_4 hg)) (by decide) 2 (g + 4) rfl (by decide) lk_X4_18 dX4_isFarm_20 ?_
      refine x_iload_n hE 1 dX4_isFarm_23 rfl rfl ?_
      refine x_iald hE (hE.kd (kB_4_2 hg)) dX4_isFarm_24 hf (fun hf => ?_)
      refine x_iconst hE (nI 5) dX4_isFarm_25 (by decide) ?_
      refine x_icmp_ne hE 33 dX4_isFarm_26 (by decide) hf (fun hf => ?_) (fun hf => ?_)
      · refine x_iconst hE (0 : Int32) dX4_isFarm_33 (by decide) ?_
        replace hf := Option.some.inj hf
        subst hf
        exact x_ireturn hE (v := 0) hr rfl dX4_isFarm_34
      · refine x_iconst hE (nI 1) dX4_isFarm_29 (by decide) ?_
        refine x_goto hE 34 dX4_isFarm_30 (by decide) ?_
        replace hf := Option.some.inj hf
        subst hf
        exact x_ireturn hE (v := nI 1) hr rfl dX4_isFarm_34
theorem yokX4_isFarm : YOK yX4_isFarm cX4_isFarm 2 1 (some .boolean) := ⟨mem_g 950 (by decide +kernel) (by decide +kernel), mem_g 134 (by decide +kernel) (by decide +kernel), by decide +kernel, by decide +kernel, by decide +kernel⟩
theorem yvX4_isFarm : YV yX4_isFarm := ⟨mem_g 948 (by decide +kernel) (by decide +kernel), mem_g 949 (by decide +kernel) (by decide +kernel)⟩
theorem dX4_isPasture_0 : decode cX4_isPasture 0 = .ok (.iload_n 1, 1) := by decide +kernel
theorem dX4_isPasture_1 : decode cX4_isPasture 1 = .ok (.bipush 96, 2) := by decide +kernel
theorem dX4_isPasture_3 : decode cX4_isPasture 3 = .ok (.invokestatic 69, 3) := by decide +kernel
theorem dX4_isPasture_6 : decode cX4_isPasture 6 = .ok (.ifCond .eq 28, 3) := by decide +kernel
theorem dX4_isPasture_9 : decode cX4_isPasture 9 = .ok (.aload_n 0, 1) := by decide +kernel
theorem dX4_isPasture_10 : decode cX4_isPasture 10 = .ok (.getfield 18, 3) := by decide +kernel
theorem dX4_isPasture_13 : decode cX4_isPasture 13 = .ok (.iload_n 1, 1) := by decide +kernel
theorem dX4_isPasture_14 : decode cX4_isPasture 14 = .ok (.iaload, 1) := by decide +kernel
theorem dX4_isPasture_15 : decode cX4_isPasture 15 = .ok (.iconst 4, 1) := by decide +kernel
theorem dX4_isPasture_16 : decode cX4_isPasture 16 = .ok (.if_icmp .eq 14, 3) := by decide +kernel
theorem dX4_isPasture_19 : decode cX4_isPasture 19 = .ok (.aload_n 0, 1) := by decide +kernel
theorem dX4_isPasture_20 : decode cX4_isPasture 20 = .ok (.getfield 18, 3) := by decide +kernel
theorem dX4_isPasture_23 : decode cX4_isPasture 23 = .ok (.iload_n 1, 1) := by decide +kernel
theorem dX4_isPasture_24 : decode cX4_isPasture 24 = .ok (.iaload, 1) := by decide +kernel
theorem dX4_isPasture_25 : decode cX4_isPasture 25 = .ok (.bipush 6, 2) := by decide +kernel
theorem dX4_isPasture_27 : decode cX4_isPasture 27 = .ok (.if_icmp .ne 7, 3) := by decide +kernel
theorem dX4_isPasture_30 : decode cX4_isPasture 30 = .ok (.iconst 1, 1) := by decide +kernel
theorem dX4_isPasture_31 : decode cX4_isPasture 31 = .ok (.goto 4, 3) := by decide +kernel
theorem dX4_isPasture_34 : decode cX4_isPasture 34 = .ok (.iconst 0, 1) := by decide +kernel
theorem dX4_isPasture_35 : decode cX4_isPasture 35 = .ok (.ireturn, 1) := by decide +kernel
theorem mX4_isPasture (l : Launch) {Y : Nat → ClassId} {D : va_G} {σ : Nat → Nat} {np b0 : Nat} {M : Mc} {N : Md} {g : Nat} {p0 : Int32} {r : Int32} (hg : is4 g) (hf : fX4_isPasture M g p0 = some r) : Met l yX4_isPasture (.code yX4_isPasture cX4_isPasture 2 (some .boolean) :: lw_g) (rmD 2) (PR Y D σ np b0 [.ref (σ g), .int p0] M N) (QR Y D σ np b0 (some (.int r)) M N) 0 0 (xA b0) := by
  refine x_met (by decide) (Nat.le_of_ble_eq_true rfl) (fun p e s m args below meth c hE hr => ?_)
  unfold fX4_isPasture at hf
  refine x_pick [0, 1] (L' := [(0, .ref (σ g)), (1, .int p0)]) rfl ?_
  refine x_iload_n hE 1 dX4_isPasture_0 rfl rfl ?_
  refine x_bipush hE (nI 96) dX4_isPasture_1 (by decide) ?_
  obtain ⟨v2, hc1, hf⟩ := bnd_some hf
  refine x_callSN1 hE [.int p0, .int (nI 96)] (rest := []) (v := .int v2) (c1 := M) (d1 := N) rfl yokX11_inside ysX11_inside lk_X4_69 rfl rfl ⟨Nat.le_of_ble_eq_true rfl, Nat.le_of_ble_eq_true rfl⟩ ⟨Nat.zero_le _, Nat.zero_le _⟩ rfl (Nat.le_of_ble_eq_true rfl) dX4_isPasture_3 (mX11_inside l hc1) ?_
  refine x_if_eq hE 34 dX4_isPasture_6 (by decide) hf (fun hf => ?_) (fun hf => ?_)
  · refine x_iconst hE (0 : Int32) dX4_isPasture_34 (by decide) ?_
    replace hf := Option.some.inj hf
    subst hf
    exact x_ireturn hE (v := 0) hr rfl dX4_isPasture_35
  · refine x_aload_n hE 0 dX4_isPasture_9 rfl rfl ?_
    refine x_getR hE cl_4 (hE.kd (kO_4 hg)) (by decide) 2 (g + 4) rfl (by decide) lk_X4_18 dX4_isPasture_10 ?_
    refine x_iload_n hE 1 dX4_isPasture_13 rfl rfl ?_
    refine x_iald hE (hE.kd (kB_4_2 hg)) dX4_isPasture_14 hf (fun hf => ?_)
    refine x_iconst hE (nI 4) dX4_isPasture_15 (by decide) ?_
    refine x_icmp_eq hE 30 dX4_isPasture_16 (by decide) hf (fun hf => ?_) (fun hf => ?_)
    · refine x_iconst hE (nI 1) dX4_isPasture_30 (by decide) ?_
      refine x_goto hE 35 dX4_isPasture_31 (by decide) ?_
      replace hf := Option.some.inj hf
      subst hf
      exact x_ireturn hE (v := nI 1) hr rfl dX4_isPasture_35
    · refine x_aload_n hE 0 dX4_isPasture_19 rfl rfl ?_
      refine x_getR hE cl_4 (hE.kd (kO_4 hg)) (by decide) 2 (g + 4) rfl (by decide) lk_X4_18 dX4_isPasture_20 ?_
      refine x_iload_n hE 1 dX4_isPasture_23 rfl rfl ?_
      refine x_iald hE (hE.kd (kB_4_2 hg)) dX4_isPasture_24 hf (fun hf => ?_)
      refine x_bipush hE (nI 6) dX4_isPasture_25 (by decide) ?_
      refine x_icmp_ne hE 34 dX4_isPasture_27 (by decide) hf (fun hf => ?_) (fun hf => ?_)
      · refine x_iconst hE (0 : Int32) dX4_isPasture_34 (by decide) ?_
        replace hf := Option.some.inj hf
        subst hf
        exact x_ireturn hE (v := 0) hr rfl dX4_isPasture_35
      · refine x_iconst hE (nI 1) dX4_isPasture_30 (by decide) ?_
        refine x_goto hE 35 dX4_isPasture_31 (by decide) ?_
        replace hf := Option.some.inj hf
        subst hf
        exact x_ireturn hE (v := nI 1) hr rfl dX4_isPasture_35
theorem yokX4_isPasture : YOK yX4_isPasture cX4_isPasture 2 1 (some .boolean) := ⟨mem_g 938 (by decide +kernel) (by decide +kernel), mem_g 134 (by decide +kernel) (by decide +kernel), by decide +kernel, by decide +kernel, by decide +kernel⟩
theorem yvX4_isPasture : YV yX4_isPasture := ⟨mem_g 936 (by decide +kernel) (by decide +kernel), mem_g 937 (by decide +kernel) (by decide +kernel)⟩
theorem lk_X4_73 : Cond.methodLink RX4 73 yX4_isFarm ∈ lw_g := mem_g 956 (by decide +kernel) (by decide +kernel)
theorem lk_X4_76 : Cond.methodLink RX4 76 yX4_isPasture ∈ lw_g := mem_g 935 (by decide +kernel) (by decide +kernel)
theorem dX4_isHeld_0 : decode cX4_isHeld 0 = .ok (.aload_n 0, 1) := by decide +kernel
theorem dX4_isHeld_1 : decode cX4_isHeld 1 = .ok (.iload_n 1, 1) := by decide +kernel
theorem dX4_isHeld_2 : decode cX4_isHeld 2 = .ok (.invokevirtual 73, 3) := by decide +kernel
theorem dX4_isHeld_5 : decode cX4_isHeld 5 = .ok (.ifCond .ne 11, 3) := by decide +kernel
theorem dX4_isHeld_8 : decode cX4_isHeld 8 = .ok (.aload_n 0, 1) := by decide +kernel
theorem dX4_isHeld_9 : decode cX4_isHeld 9 = .ok (.iload_n 1, 1) := by decide +kernel
theorem dX4_isHeld_10 : decode cX4_isHeld 10 = .ok (.invokevirtual 76, 3) := by decide +kernel
theorem dX4_isHeld_13 : decode cX4_isHeld 13 = .ok (.ifCond .eq 7, 3) := by decide +kernel
theorem dX4_isHeld_16 : decode cX4_isHeld 16 = .ok (.iconst 1, 1) := by decide +kernel
theorem dX4_isHeld_17 : decode cX4_isHeld 17 = .ok (.goto 4, 3) := by decide +kernel
theorem dX4_isHeld_20 : decode cX4_isHeld 20 = .ok (.iconst 0, 1) := by decide +kernel
theorem dX4_isHeld_21 : decode cX4_isHeld 21 = .ok (.ireturn, 1) := by decide +kernel
theorem mX4_isHeld (l : Launch) {Y : Nat → ClassId} {D : va_G} {σ : Nat → Nat} {np b0 : Nat} {M : Mc} {N : Md} {g : Nat} {p0 : Int32} {r : Int32} (hg : is4 g) (hf : fX4_isHeld M g p0 = some r) : Met l yX4_isHeld (.code yX4_isHeld cX4_isHeld 2 (some .boolean) :: lw_g) (rmD 3) (PR Y D σ np b0 [.ref (σ g), .int p0] M N) (QR Y D σ np b0 (some (.int r)) M N) 0 0 (xA b0) := by
  refine x_met (by decide) (Nat.le_of_ble_eq_true rfl) (fun p e s m args below meth c hE hr => ?_)
  unfold fX4_isHeld at hf
  refine x_pick [0, 1] (L' := [(0, .ref (σ g)), (1, .int p0)]) rfl ?_
  refine x_aload_n hE 0 dX4_isHeld_0 rfl rfl ?_
  refine x_iload_n hE 1 dX4_isHeld_1 rfl rfl ?_
  obtain ⟨v2, hc1, hf⟩ := bnd_some hf
  refine x_callV1 hE [.int p0] (rest := []) (v := .int v2) (c1 := M) (d1 := N) rfl yokX4_isFarm yvX4_isFarm lk_X4_73 rfl cl_4 (hE.kd (kO_4 hg)) (by decide) rfl rfl ⟨Nat.le_of_ble_eq_true rfl, Nat.le_of_ble_eq_true rfl⟩ ⟨Nat.zero_le _, Nat.zero_le _⟩ rfl (Nat.le_of_ble_eq_true rfl) dX4_isHeld_2 (mX4_isFarm l hg hc1) ?_
  refine x_if_ne hE 16 dX4_isHeld_5 (by decide) hf (fun hf => ?_) (fun hf => ?_)
  · refine x_iconst hE (nI 1) dX4_isHeld_16 (by decide) ?_
    refine x_goto hE 21 dX4_isHeld_17 (by decide) ?_
    replace hf := Option.some.inj hf
    subst hf
    exact x_ireturn hE (v := nI 1) hr rfl dX4_isHeld_21
  · refine x_aload_n hE 0 dX4_isHeld_8 rfl rfl ?_
    refine x_iload_n hE 1 dX4_isHeld_9 rfl rfl ?_
    obtain ⟨v4, hc3, hf⟩ := bnd_some hf
    refine x_callV1 hE [.int p0] (rest := []) (v := .int v4) (c1 := M) (d1 := N) rfl yokX4_isPasture yvX4_isPasture lk_X4_76 rfl cl_4 (hE.kd (kO_4 hg)) (by decide) rfl rfl ⟨Nat.le_of_ble_eq_true rfl, Nat.le_of_ble_eq_true rfl⟩ ⟨Nat.zero_le _, Nat.zero_le _⟩ rfl (Nat.le_of_ble_eq_true rfl) dX4_isHeld_10 (mX4_isPasture l hg hc3) ?_
    refine x_if_eq hE 20 dX4_isHeld_13 (by decide) hf (fun hf => ?_) (fun hf => ?_)
    · refine x_iconst hE (0 : Int32) dX4_isHeld_20 (by decide) ?_
      replace hf := Option.some.inj hf
      subst hf
      exact x_ireturn hE (v := 0) hr rfl dX4_isHeld_21
    · refine x_iconst hE (nI 1) dX4_isHeld_16 (by decide) ?_
      refine x_goto hE 21 dX4_isHeld_17 (by decide) ?_
      replace hf := Option.some.inj hf
      subst hf
      exact x_ireturn hE (v := nI 1) hr rfl dX4_isHeld_21
theorem yokX4_isHeld : YOK yX4_isHeld cX4_isHeld 2 1 (some .boolean) := ⟨mem_g 955 (by decide +kernel) (by decide +kernel), mem_g 134 (by decide +kernel) (by decide +kernel), by decide +kernel, by decide +kernel, by decide +kernel⟩
theorem yvX4_isHeld : YV yX4_isHeld := ⟨mem_g 953 (by decide +kernel) (by decide +kernel), mem_g 954 (by decide +kernel) (by decide +kernel)⟩
theorem lk_X4_79 : Cond.methodLink RX4 79 yX4_ownerOf ∈ lw_g := mem_g 1257 (by decide +kernel) (by decide +kernel)
theorem dX4_isPastureOf_0 : decode cX4_isPastureOf 0 = .ok (.aload_n 0, 1) := by decide +kernel
theorem dX4_isPastureOf_1 : decode cX4_isPastureOf 1 = .ok (.iload_n 1, 1) := by decide +kernel
theorem dX4_isPastureOf_2 : decode cX4_isPastureOf 2 = .ok (.invokevirtual 76, 3) := by decide +kernel
theorem dX4_isPastureOf_5 : decode cX4_isPastureOf 5 = .ok (.ifCond .eq 16, 3) := by decide +kernel
theorem dX4_isPastureOf_8 : decode cX4_isPastureOf 8 = .ok (.aload_n 0, 1) := by decide +kernel
theorem dX4_isPastureOf_9 : decode cX4_isPastureOf 9 = .ok (.iload_n 1, 1) := by decide +kernel
theorem dX4_isPastureOf_10 : decode cX4_isPastureOf 10 = .ok (.invokevirtual 79, 3) := by decide +kernel
theorem dX4_isPastureOf_13 : decode cX4_isPastureOf 13 = .ok (.iload_n 2, 1) := by decide +kernel
theorem dX4_isPastureOf_14 : decode cX4_isPastureOf 14 = .ok (.if_icmp .ne 7, 3) := by decide +kernel
theorem dX4_isPastureOf_17 : decode cX4_isPastureOf 17 = .ok (.iconst 1, 1) := by decide +kernel
theorem dX4_isPastureOf_18 : decode cX4_isPastureOf 18 = .ok (.goto 4, 3) := by decide +kernel
theorem dX4_isPastureOf_21 : decode cX4_isPastureOf 21 = .ok (.iconst 0, 1) := by decide +kernel
theorem dX4_isPastureOf_22 : decode cX4_isPastureOf 22 = .ok (.ireturn, 1) := by decide +kernel
theorem mX4_isPastureOf (l : Launch) {Y : Nat → ClassId} {D : va_G} {σ : Nat → Nat} {np b0 : Nat} {M : Mc} {N : Md} {g : Nat} {p0 : Int32} {p1 : Int32} {r : Int32} (hg : is4 g) (hf : fX4_isPastureOf M g p0 p1 = some r) : Met l yX4_isPastureOf (.code yX4_isPastureOf cX4_isPastureOf 3 (some .boolean) :: lw_g) (rmD 3) (PR Y D σ np b0 [.ref (σ g), .int p0, .int p1] M N) (QR Y D σ np b0 (some (.int r)) M N) 0 0 (xA b0) := by
  refine x_met (by decide) (Nat.le_of_ble_eq_true rfl) (fun p e s m args below meth c hE hr => ?_)
  unfold fX4_isPastureOf at hf
  refine x_pick [0, 1, 2] (L' := [(0, .ref (σ g)), (1, .int p0), (2, .int p1)]) rfl ?_
  refine x_aload_n hE 0 dX4_isPastureOf_0 rfl rfl ?_
  refine x_iload_n hE 1 dX4_isPastureOf_1 rfl rfl ?_
  obtain ⟨v2, hc1, hf⟩ := bnd_some hf
  refine x_callV1 hE [.int p0] (rest := []) (v := .int v2) (c1 := M) (d1 := N) rfl yokX4_isPasture yvX4_isPasture lk_X4_76 rfl cl_4 (hE.kd (kO_4 hg)) (by decide) rfl rfl ⟨Nat.le_of_ble_eq_true rfl, Nat.le_of_ble_eq_true rfl⟩ ⟨Nat.zero_le _, Nat.zero_le _⟩ rfl (Nat.le_of_ble_eq_true rfl) dX4_isPastureOf_2 (mX4_isPasture l hg hc1) ?_
  refine x_if_eq hE 21 dX4_isPastureOf_5 (by decide) hf (fun hf => ?_) (fun hf => ?_)
  · refine x_iconst hE (0 : Int32) dX4_isPastureOf_21 (by decide) ?_
    replace hf := Option.some.inj hf
    subst hf
    exact x_ireturn hE (v := 0) hr rfl dX4_isPastureOf_22
  · refine x_aload_n hE 0 dX4_isPastureOf_8 rfl rfl ?_
    refine x_iload_n hE 1 dX4_isPastureOf_9 rfl rfl ?_
    obtain ⟨v4, hc3, hf⟩ := bnd_some hf
    refine x_callV1 hE [.int p0] (rest := []) (v := .int v4) (c1 := M) (d1 := N) rfl yokX4_ownerOf yvX4_ownerOf lk_X4_79 rfl cl_4 (hE.kd (kO_4 hg)) (by decide) rfl rfl ⟨Nat.le_of_ble_eq_true rfl, Nat.le_of_ble_eq_true rfl⟩ ⟨Nat.zero_le _, Nat.zero_le _⟩ rfl (Nat.le_of_ble_eq_true rfl) dX4_isPastureOf_10 (mX4_ownerOf l hg hc3) ?_
    refine x_iload_n hE 2 dX4_isPastureOf_13 rfl rfl ?_
    refine x_icmp_ne hE 21 dX4_isPastureOf_14 (by decide) hf (fun hf => ?_) (fun hf => ?_)
    · refine x_iconst hE (0 : Int32) dX4_isPastureOf_21 (by decide) ?_
      replace hf := Option.some.inj hf
      subst hf
      exact x_ireturn hE (v := 0) hr rfl dX4_isPastureOf_22
    · refine x_iconst hE (nI 1) dX4_isPastureOf_17 (by decide) ?_
      refine x_goto hE 22 dX4_isPastureOf_18 (by decide) ?_
      replace hf := Option.some.inj hf
      subst hf
      exact x_ireturn hE (v := nI 1) hr rfl dX4_isPastureOf_22
theorem yokX4_isPastureOf : YOK yX4_isPastureOf cX4_isPastureOf 3 2 (some .boolean) := ⟨mem_g 1256 (by decide +kernel) (by decide +kernel), mem_g 134 (by decide +kernel) (by decide +kernel), by decide +kernel, by decide +kernel, by decide +kernel⟩
theorem yvX4_isPastureOf : YV yX4_isPastureOf := ⟨mem_g 1254 (by decide +kernel) (by decide +kernel), mem_g 1255 (by decide +kernel) (by decide +kernel)⟩
theorem dX4_isFenced_0 : decode cX4_isFenced 0 = .ok (.iload_n 1, 1) := by decide +kernel
theorem dX4_isFenced_1 : decode cX4_isFenced 1 = .ok (.bipush 96, 2) := by decide +kernel
theorem dX4_isFenced_3 : decode cX4_isFenced 3 = .ok (.invokestatic 69, 3) := by decide +kernel
theorem dX4_isFenced_6 : decode cX4_isFenced 6 = .ok (.ifCond .eq 16, 3) := by decide +kernel
theorem dX4_isFenced_9 : decode cX4_isFenced 9 = .ok (.aload_n 0, 1) := by decide +kernel
theorem dX4_isFenced_10 : decode cX4_isFenced 10 = .ok (.getfield 30, 3) := by decide +kernel
theorem dX4_isFenced_13 : decode cX4_isFenced 13 = .ok (.iload_n 1, 1) := by decide +kernel
theorem dX4_isFenced_14 : decode cX4_isFenced 14 = .ok (.baload, 1) := by decide +kernel
theorem dX4_isFenced_15 : decode cX4_isFenced 15 = .ok (.ifCond .eq 7, 3) := by decide +kernel
theorem dX4_isFenced_18 : decode cX4_isFenced 18 = .ok (.iconst 1, 1) := by decide +kernel
theorem dX4_isFenced_19 : decode cX4_isFenced 19 = .ok (.goto 4, 3) := by decide +kernel
theorem dX4_isFenced_22 : decode cX4_isFenced 22 = .ok (.iconst 0, 1) := by decide +kernel
theorem dX4_isFenced_23 : decode cX4_isFenced 23 = .ok (.ireturn, 1) := by decide +kernel
theorem mX4_isFenced (l : Launch) {Y : Nat → ClassId} {D : va_G} {σ : Nat → Nat} {np b0 : Nat} {M : Mc} {N : Md} {g : Nat} {p0 : Int32} {r : Int32} (hg : is4 g) (hf : fX4_isFenced M g p0 = some r) : Met l yX4_isFenced (.code yX4_isFenced cX4_isFenced 2 (some .boolean) :: lw_g) (rmD 2) (PR Y D σ np b0 [.ref (σ g), .int p0] M N) (QR Y D σ np b0 (some (.int r)) M N) 0 0 (xA b0) := by
  refine x_met (by decide) (Nat.le_of_ble_eq_true rfl) (fun p e s m args below meth c hE hr => ?_)
  unfold fX4_isFenced at hf
  refine x_pick [0, 1] (L' := [(0, .ref (σ g)), (1, .int p0)]) rfl ?_
  refine x_iload_n hE 1 dX4_isFenced_0 rfl rfl ?_
  refine x_bipush hE (nI 96) dX4_isFenced_1 (by decide) ?_
  obtain ⟨v2, hc1, hf⟩ := bnd_some hf
  refine x_callSN1 hE [.int p0, .int (nI 96)] (rest := []) (v := .int v2) (c1 := M) (d1 := N) rfl yokX11_inside ysX11_inside lk_X4_69 rfl rfl ⟨Nat.le_of_ble_eq_true rfl, Nat.le_of_ble_eq_true rfl⟩ ⟨Nat.zero_le _, Nat.zero_le _⟩ rfl (Nat.le_of_ble_eq_true rfl) dX4_isFenced_3 (mX11_inside l hc1) ?_
  refine x_if_eq hE 22 dX4_isFenced_6 (by decide) hf (fun hf => ?_) (fun hf => ?_)
  · refine x_iconst hE (0 : Int32) dX4_isFenced_22 (by decide) ?_
    replace hf := Option.some.inj hf
    subst hf
    exact x_ireturn hE (v := 0) hr rfl dX4_isFenced_23
  · refine x_aload_n hE 0 dX4_isFenced_9 rfl rfl ?_
    refine x_getR hE cl_4 (hE.kd (kO_4 hg)) (by decide) 6 (g + 8) rfl (by decide) lk_X4_30 dX4_isFenced_10 ?_
    refine x_iload_n hE 1 dX4_isFenced_13 rfl rfl ?_
    refine x_zald hE (hE.kd (kB_4_6 hg)) dX4_isFenced_14 hf (fun hf => ?_)
    refine x_if_eq hE 22 dX4_isFenced_15 (by decide) hf (fun hf => ?_) (fun hf => ?_)
    · refine x_iconst hE (0 : Int32) dX4_isFenced_22 (by decide) ?_
      replace hf := Option.some.inj hf
      subst hf
      exact x_ireturn hE (v := 0) hr rfl dX4_isFenced_23
    · refine x_iconst hE (nI 1) dX4_isFenced_18 (by decide) ?_
      refine x_goto hE 23 dX4_isFenced_19 (by decide) ?_
      replace hf := Option.some.inj hf
      subst hf
      exact x_ireturn hE (v := nI 1) hr rfl dX4_isFenced_23
theorem yokX4_isFenced : YOK yX4_isFenced cX4_isFenced 2 1 (some .boolean) := ⟨mem_g 1304 (by decide +kernel) (by decide +kernel), mem_g 134 (by decide +kernel) (by decide +kernel), by decide +kernel, by decide +kernel, by decide +kernel⟩
theorem yvX4_isFenced : YV yX4_isFenced := ⟨mem_g 1302 (by decide +kernel) (by decide +kernel), mem_g 1303 (by decide +kernel) (by decide +kernel)⟩
theorem dX4_isBoughtBy_0 : decode cX4_isBoughtBy 0 = .ok (.iload_n 1, 1) := by decide +kernel
theorem dX4_isBoughtBy_1 : decode cX4_isBoughtBy 1 = .ok (.bipush 96, 2) := by decide +kernel
theorem dX4_isBoughtBy_3 : decode cX4_isBoughtBy 3 = .ok (.invokestatic 69, 3) := by decide +kernel
theorem dX4_isBoughtBy_6 : decode cX4_isBoughtBy 6 = .ok (.ifCond .eq 27, 3) := by decide +kernel
theorem dX4_isBoughtBy_9 : decode cX4_isBoughtBy 9 = .ok (.aload_n 0, 1) := by decide +kernel
theorem dX4_isBoughtBy_10 : decode cX4_isBoughtBy 10 = .ok (.getfield 18, 3) := by decide +kernel
theorem dX4_isBoughtBy_13 : decode cX4_isBoughtBy 13 = .ok (.iload_n 1, 1) := by decide +kernel
theorem dX4_isBoughtBy_14 : decode cX4_isBoughtBy 14 = .ok (.iaload, 1) := by decide +kernel
theorem dX4_isBoughtBy_15 : decode cX4_isBoughtBy 15 = .ok (.iconst 3, 1) := by decide +kernel
theorem dX4_isBoughtBy_16 : decode cX4_isBoughtBy 16 = .ok (.if_icmp .ne 17, 3) := by decide +kernel
theorem dX4_isBoughtBy_19 : decode cX4_isBoughtBy 19 = .ok (.aload_n 0, 1) := by decide +kernel
theorem dX4_isBoughtBy_20 : decode cX4_isBoughtBy 20 = .ok (.getfield 37, 3) := by decide +kernel
theorem dX4_isBoughtBy_23 : decode cX4_isBoughtBy 23 = .ok (.iload_n 1, 1) := by decide +kernel
theorem dX4_isBoughtBy_24 : decode cX4_isBoughtBy 24 = .ok (.iaload, 1) := by decide +kernel
theorem dX4_isBoughtBy_25 : decode cX4_isBoughtBy 25 = .ok (.iload_n 2, 1) := by decide +kernel
theorem dX4_isBoughtBy_26 : decode cX4_isBoughtBy 26 = .ok (.if_icmp .ne 7, 3) := by decide +kernel
theorem dX4_isBoughtBy_29 : decode cX4_isBoughtBy 29 = .ok (.iconst 1, 1) := by decide +kernel
theorem dX4_isBoughtBy_30 : decode cX4_isBoughtBy 30 = .ok (.goto 4, 3) := by decide +kernel
theorem dX4_isBoughtBy_33 : decode cX4_isBoughtBy 33 = .ok (.iconst 0, 1) := by decide +kernel
theorem dX4_isBoughtBy_34 : decode cX4_isBoughtBy 34 = .ok (.ireturn, 1) := by decide +kernel
theorem mX4_isBoughtBy (l : Launch) {Y : Nat → ClassId} {D : va_G} {σ : Nat → Nat} {np b0 : Nat} {M : Mc} {N : Md} {g : Nat} {p0 : Int32} {p1 : Int32} {r : Int32} (hg : is4 g) (hf : fX4_isBoughtBy M g p0 p1 = some r) : Met l yX4_isBoughtBy (.code yX4_isBoughtBy cX4_isBoughtBy 3 (some .boolean) :: lw_g) (rmD 2) (PR Y D σ np b0 [.ref (σ g), .int p0, .int p1] M N) (QR Y D σ np b0 (some (.int r)) M N) 0 0 (xA b0) := by
  refine x_met (by decide) (Nat.le_of_ble_eq_true rfl) (fun p e s m args below meth c hE hr => ?_)
  unfold fX4_isBoughtBy at hf
  refine x_pick [0, 1, 2] (L' := [(0, .ref (σ g)), (1, .int p0), (2, .int p1)]) rfl ?_
  refine x_iload_n hE 1 dX4_isBoughtBy_0 rfl rfl ?_
  refine x_bipush hE (nI 96) dX4_isBoughtBy_1 (by decide) ?_
  obtain ⟨v2, hc1, hf⟩ := bnd_some hf
  refine x_callSN1 hE [.int p0, .int (nI 96)] (rest := []) (v := .int v2) (c1 := M) (d1 := N) rfl yokX11_inside ysX11_inside lk_X4_69 rfl rfl ⟨Nat.le_of_ble_eq_true rfl, Nat.le_of_ble_eq_true rfl⟩ ⟨Nat.zero_le _, Nat.zero_le _⟩ rfl (Nat.le_of_ble_eq_true rfl) dX4_isBoughtBy_3 (mX11_inside l hc1) ?_
  refine x_if_eq hE 33 dX4_isBoughtBy_6 (by decide) hf (fun hf => ?_) (fun hf => ?_)
  · refine x_iconst hE (0 : Int32) dX4_isBoughtBy_33 (by decide) ?_
    replace hf := Option.some.inj hf
    subst hf
    exact x_ireturn hE (v := 0) hr rfl dX4_isBoughtBy_34
  · refine x_aload_n hE 0 dX4_isBoughtBy_9 rfl rfl ?_
    refine x_getR hE cl_4 (hE.kd (kO_4 hg)) (by decide) 2 (g + 4) rfl (by decide) lk_X4_18 dX4_isBoughtBy_10 ?_
    refine x_iload_n hE 1 dX4_isBoughtBy_13 rfl rfl ?_
    refine x_iald hE (hE.kd (kB_4_2 hg)) dX4_isBoughtBy_14 hf (fun hf => ?_)
    refine x_iconst hE (nI 3) dX4_isBoughtBy_15 (by decide) ?_
    refine x_icmp_ne hE 33 dX4_isBoughtBy_16 (by decide) hf (fun hf => ?_) (fun hf => ?_)
    · refine x_iconst hE (0 : Int32) dX4_isBoughtBy_33 (by decide) ?_
      replace hf := Option.some.inj hf
      subst hf
      exact x_ireturn hE (v := 0) hr rfl dX4_isBoughtBy_34
    · refine x_aload_n hE 0 dX4_isBoughtBy_19 rfl rfl ?_
      refine x_getR hE cl_4 (hE.kd (kO_4 hg)) (by decide) 8 (g + 10) rfl (by decide) lk_X4_37 dX4_isBoughtBy_20 ?_
      refine x_iload_n hE 1 dX4_isBoughtBy_23 rfl rfl ?_
      refine x_iald hE (hE.kd (kB_4_8 hg)) dX4_isBoughtBy_24 hf (fun hf => ?_)
      refine x_iload_n hE 2 dX4_isBoughtBy_25 rfl rfl ?_
      refine x_icmp_ne hE 33 dX4_isBoughtBy_26 (by decide) hf (fun hf => ?_) (fun hf => ?_)
      · refine x_iconst hE (0 : Int32) dX4_isBoughtBy_33 (by decide) ?_
        replace hf := Option.some.inj hf
        subst hf
        exact x_ireturn hE (v := 0) hr rfl dX4_isBoughtBy_34
      · refine x_iconst hE (nI 1) dX4_isBoughtBy_29 (by decide) ?_
        refine x_goto hE 34 dX4_isBoughtBy_30 (by decide) ?_
        replace hf := Option.some.inj hf
        subst hf
        exact x_ireturn hE (v := nI 1) hr rfl dX4_isBoughtBy_34
theorem yokX4_isBoughtBy : YOK yX4_isBoughtBy cX4_isBoughtBy 3 2 (some .boolean) := ⟨mem_g 1700 (by decide +kernel) (by decide +kernel), mem_g 134 (by decide +kernel) (by decide +kernel), by decide +kernel, by decide +kernel, by decide +kernel⟩
theorem yvX4_isBoughtBy : YV yX4_isBoughtBy := ⟨mem_g 1698 (by decide +kernel) (by decide +kernel), mem_g 1699 (by decide +kernel) (by decide +kernel)⟩
theorem dX4_fact_0 : decode cX4_fact 0 = .ok (.iload_n 1, 1) := by decide +kernel
theorem dX4_fact_1 : decode cX4_fact 1 = .ok (.bipush 96, 2) := by decide +kernel
theorem dX4_fact_3 : decode cX4_fact 3 = .ok (.invokestatic 69, 3) := by decide +kernel
theorem dX4_fact_6 : decode cX4_fact 6 = .ok (.ifCond .ne 5, 3) := by decide +kernel
theorem dX4_fact_9 : decode cX4_fact 9 = .ok (.iconst (-1), 1) := by decide +kernel
theorem dX4_fact_10 : decode cX4_fact 10 = .ok (.ireturn, 1) := by decide +kernel
theorem dX4_fact_11 : decode cX4_fact 11 = .ok (.iload_n 2, 1) := by decide +kernel
theorem dX4_fact_12 : decode cX4_fact 12 = .ok (.tableswitch 114 0 5 #[40, 47, 54, 61, 80, 107], 40) := by decide +kernel
theorem dX4_fact_52 : decode cX4_fact 52 = .ok (.aload_n 0, 1) := by decide +kernel
theorem dX4_fact_53 : decode cX4_fact 53 = .ok (.getfield 18, 3) := by decide +kernel
theorem dX4_fact_56 : decode cX4_fact 56 = .ok (.iload_n 1, 1) := by decide +kernel
theorem dX4_fact_57 : decode cX4_fact 57 = .ok (.iaload, 1) := by decide +kernel
theorem dX4_fact_58 : decode cX4_fact 58 = .ok (.ireturn, 1) := by decide +kernel
theorem dX4_fact_59 : decode cX4_fact 59 = .ok (.aload_n 0, 1) := by decide +kernel
theorem dX4_fact_60 : decode cX4_fact 60 = .ok (.getfield 21, 3) := by decide +kernel
theorem dX4_fact_63 : decode cX4_fact 63 = .ok (.iload_n 1, 1) := by decide +kernel
theorem dX4_fact_64 : decode cX4_fact 64 = .ok (.iaload, 1) := by decide +kernel
theorem dX4_fact_65 : decode cX4_fact 65 = .ok (.ireturn, 1) := by decide +kernel
theorem dX4_fact_66 : decode cX4_fact 66 = .ok (.aload_n 0, 1) := by decide +kernel
theorem dX4_fact_67 : decode cX4_fact 67 = .ok (.getfield 24, 3) := by decide +kernel
theorem dX4_fact_70 : decode cX4_fact 70 = .ok (.iload_n 1, 1) := by decide +kernel
theorem dX4_fact_71 : decode cX4_fact 71 = .ok (.iaload, 1) := by decide +kernel
theorem dX4_fact_72 : decode cX4_fact 72 = .ok (.ireturn, 1) := by decide +kernel
theorem dX4_fact_73 : decode cX4_fact 73 = .ok (.aload_n 0, 1) := by decide +kernel
theorem dX4_fact_74 : decode cX4_fact 74 = .ok (.iload_n 1, 1) := by decide +kernel
theorem dX4_fact_75 : decode cX4_fact 75 = .ok (.invokevirtual 76, 3) := by decide +kernel
theorem dX4_fact_78 : decode cX4_fact 78 = .ok (.ifCond .eq 12, 3) := by decide +kernel
theorem dX4_fact_81 : decode cX4_fact 81 = .ok (.aload_n 0, 1) := by decide +kernel
theorem dX4_fact_82 : decode cX4_fact 82 = .ok (.getfield 27, 3) := by decide +kernel
theorem dX4_fact_85 : decode cX4_fact 85 = .ok (.iload_n 1, 1) := by decide +kernel
theorem dX4_fact_86 : decode cX4_fact 86 = .ok (.iaload, 1) := by decide +kernel
theorem dX4_fact_87 : decode cX4_fact 87 = .ok (.goto 4, 3) := by decide +kernel
theorem dX4_fact_90 : decode cX4_fact 90 = .ok (.iconst (-1), 1) := by decide +kernel
theorem dX4_fact_91 : decode cX4_fact 91 = .ok (.ireturn, 1) := by decide +kernel
theorem dX4_fact_92 : decode cX4_fact 92 = .ok (.aload_n 0, 1) := by decide +kernel
theorem dX4_fact_93 : decode cX4_fact 93 = .ok (.iload_n 1, 1) := by decide +kernel
theorem dX4_fact_94 : decode cX4_fact 94 = .ok (.invokevirtual 76, 3) := by decide +kernel
theorem dX4_fact_97 : decode cX4_fact 97 = .ok (.ifCond .eq 20, 3) := by decide +kernel
theorem dX4_fact_100 : decode cX4_fact 100 = .ok (.aload_n 0, 1) := by decide +kernel
theorem dX4_fact_101 : decode cX4_fact 101 = .ok (.getfield 30, 3) := by decide +kernel
theorem dX4_fact_104 : decode cX4_fact 104 = .ok (.iload_n 1, 1) := by decide +kernel
theorem dX4_fact_105 : decode cX4_fact 105 = .ok (.baload, 1) := by decide +kernel
theorem dX4_fact_106 : decode cX4_fact 106 = .ok (.ifCond .eq 7, 3) := by decide +kernel
theorem dX4_fact_109 : decode cX4_fact 109 = .ok (.iconst 1, 1) := by decide +kernel
theorem dX4_fact_110 : decode cX4_fact 110 = .ok (.goto 8, 3) := by decide +kernel
theorem dX4_fact_113 : decode cX4_fact 113 = .ok (.iconst 0, 1) := by decide +kernel
theorem dX4_fact_114 : decode cX4_fact 114 = .ok (.goto 4, 3) := by decide +kernel
theorem dX4_fact_117 : decode cX4_fact 117 = .ok (.iconst (-1), 1) := by decide +kernel
theorem dX4_fact_118 : decode cX4_fact 118 = .ok (.ireturn, 1) := by decide +kernel
theorem dX4_fact_119 : decode cX4_fact 119 = .ok (.aload_n 0, 1) := by decide +kernel
theorem dX4_fact_120 : decode cX4_fact 120 = .ok (.getfield 34, 3) := by decide +kernel
theorem dX4_fact_123 : decode cX4_fact 123 = .ok (.iload_n 1, 1) := by decide +kernel
theorem dX4_fact_124 : decode cX4_fact 124 = .ok (.iaload, 1) := by decide +kernel
theorem dX4_fact_125 : decode cX4_fact 125 = .ok (.ireturn, 1) := by decide +kernel
theorem dX4_fact_126 : decode cX4_fact 126 = .ok (.aload_n 0, 1) := by decide +kernel
theorem dX4_fact_127 : decode cX4_fact 127 = .ok (.iload_n 1, 1) := by decide +kernel
theorem dX4_fact_128 : decode cX4_fact 128 = .ok (.invokevirtual 65, 3) := by decide +kernel
theorem dX4_fact_131 : decode cX4_fact 131 = .ok (.ifCond .eq 12, 3) := by decide +kernel
theorem dX4_fact_134 : decode cX4_fact 134 = .ok (.aload_n 0, 1) := by decide +kernel
theorem dX4_fact_135 : decode cX4_fact 135 = .ok (.getfield 15, 3) := by decide +kernel
theorem dX4_fact_138 : decode cX4_fact 138 = .ok (.iload_n 1, 1) := by decide +kernel
theorem dX4_fact_139 : decode cX4_fact 139 = .ok (.iaload, 1) := by decide +kernel
theorem dX4_fact_140 : decode cX4_fact 140 = .ok (.goto 4, 3) := by decide +kernel
theorem dX4_fact_143 : decode cX4_fact 143 = .ok (.iconst 0, 1) := by decide +kernel
theorem dX4_fact_144 : decode cX4_fact 144 = .ok (.ireturn, 1) := by decide +kernel
theorem mX4_fact (l : Launch) {Y : Nat → ClassId} {D : va_G} {σ : Nat → Nat} {np b0 : Nat} {M : Mc} {N : Md} {g : Nat} {p0 : Int32} {p1 : Int32} {r : Int32} (hg : is4 g) (hf : fX4_fact M g p0 p1 = some r) : Met l yX4_fact (.code yX4_fact cX4_fact 3 (some .int) :: lw_g) (rmD 3) (PR Y D σ np b0 [.ref (σ g), .int p0, .int p1] M N) (QR Y D σ np b0 (some (.int r)) M N) 0 0 (xA b0) := by
  refine x_met (by decide) (Nat.le_of_ble_eq_true rfl) (fun p e s m args below meth c hE hr => ?_)
  unfold fX4_fact at hf
  refine x_pick [0, 1, 2] (L' := [(0, .ref (σ g)), (1, .int p0), (2, .int p1)]) rfl ?_
  refine x_iload_n hE 1 dX4_fact_0 rfl rfl ?_
  refine x_bipush hE (nI 96) dX4_fact_1 (by decide) ?_
  obtain ⟨v2, hc1, hf⟩ := bnd_some hf
  refine x_callSN1 hE [.int p0, .int (nI 96)] (rest := []) (v := .int v2) (c1 := M) (d1 := N) rfl yokX11_inside ysX11_inside lk_X4_69 rfl rfl ⟨Nat.le_of_ble_eq_true rfl, Nat.le_of_ble_eq_true rfl⟩ ⟨Nat.zero_le _, Nat.zero_le _⟩ rfl (Nat.le_of_ble_eq_true rfl) dX4_fact_3 (mX11_inside l hc1) ?_
  refine x_if_ne hE 11 dX4_fact_6 (by decide) hf (fun hf => ?_) (fun hf => ?_)
  · refine x_iload_n hE 2 dX4_fact_11 rfl rfl ?_
    refine x_swi (0) hf (fun hsw hf => ?_) (fun hsw0 hf => ?_)
    · refine x_tabI hE 52 dX4_fact_12 hsw (by decide) (by decide) rfl (by decide) ?_
      refine x_aload_n hE 0 dX4_fact_52 rfl rfl ?_
      refine x_getR hE cl_4 (hE.kd (kO_4 hg)) (by decide) 2 (g + 4) rfl (by decide) lk_X4_18 dX4_fact_53 ?_
      refine x_iload_n hE 1 dX4_fact_56 rfl rfl ?_
      refine x_iald hE (hE.kd (kB_4_2 hg)) dX4_fact_57 hf (fun hf => ?_)
      replace hf := Option.some.inj hf
      subst hf
      exact x_ireturn hE (v := M (g + 4) p0.toNatClampNeg) hr rfl dX4_fact_58
    refine x_swi (nI 1) hf (fun hsw hf => ?_) (fun hsw1 hf => ?_)
    · refine x_tabI hE 59 dX4_fact_12 hsw (by decide) (by decide) rfl (by decide) ?_
      refine x_aload_n hE 0 dX4_fact_59 rfl rfl ?_
      refine x_getR hE cl_4 (hE.kd (kO_4 hg)) (by decide) 3 (g + 5) rfl (by decide) lk_X4_21 dX4_fact_60 ?_
      refine x_iload_n hE 1 dX4_fact_63 rfl rfl ?_
      refine x_iald hE (hE.kd (kB_4_3 hg)) dX4_fact_64 hf (fun hf => ?_)
      replace hf := Option.some.inj hf
      subst hf
      exact x_ireturn hE (v := M (g + 5) p0.toNatClampNeg) hr rfl dX4_fact_65
    refine x_swi (nI 2) hf (fun hsw hf => ?_) (fun hsw2 hf => ?_)
    · refine x_tabI hE 66 dX4_fact_12 hsw (by decide) (by decide) rfl (by decide) ?_
      refine x_aload_n hE 0 dX4_fact_66 rfl rfl ?_
      refine x_getR hE cl_4 (hE.kd (kO_4 hg)) (by decide) 4 (g + 6) rfl (by decide) lk_X4_24 dX4_fact_67 ?_
      refine x_iload_n hE 1 dX4_fact_70 rfl rfl ?_
      refine x_iald hE (hE.kd (kB_4_4 hg)) dX4_fact_71 hf (fun hf => ?_)
      replace hf := Option.some.inj hf
      subst hf
      exact x_ireturn hE (v := M (g + 6) p0.toNatClampNeg) hr rfl dX4_fact_72
    refine x_swi (nI 3) hf (fun hsw hf => ?_) (fun hsw3 hf => ?_)
    · refine x_tabI hE 73 dX4_fact_12 hsw (by decide) (by decide) rfl (by decide) ?_
      refine x_aload_n hE 0 dX4_fact_73 rfl rfl ?_
      refine x_iload_n hE 1 dX4_fact_74 rfl rfl ?_
      obtain ⟨v4, hc3, hf⟩ := bnd_some hf
      refine x_callV1 hE [.int p0] (rest := []) (v := .int v4) (c1 := M) (d1 := N) rfl yokX4_isPasture yvX4_isPasture lk_X4_76 rfl cl_4 (hE.kd (kO_4 hg)) (by decide) rfl rfl ⟨Nat.le_of_ble_eq_true rfl, Nat.le_of_ble_eq_true rfl⟩ ⟨Nat.zero_le _, Nat.zero_le _⟩ rfl (Nat.le_of_ble_eq_true rfl) dX4_fact_75 (mX4_isPasture l hg hc3) ?_
      refine x_if_eq hE 90 dX4_fact_78 (by decide) hf (fun hf => ?_) (fun hf => ?_)
      · refine x_iconst hE (-1) dX4_fact_90 (by decide) ?_
        replace hf := Option.some.inj hf
        subst hf
        exact x_ireturn hE (v := (-1)) hr rfl dX4_fact_91
      · refine x_aload_n hE 0 dX4_fact_81 rfl rfl ?_
        refine x_getR hE cl_4 (hE.kd (kO_4 hg)) (by decide) 5 (g + 7) rfl (by decide) lk_X4_27 dX4_fact_82 ?_
        refine x_iload_n hE 1 dX4_fact_85 rfl rfl ?_
        refine x_iald hE (hE.kd (kB_4_5 hg)) dX4_fact_86 hf (fun hf => ?_)
        refine x_goto hE 91 dX4_fact_87 (by decide) ?_
        replace hf := Option.some.inj hf
        subst hf
        exact x_ireturn hE (v := M (g + 7) p0.toNatClampNeg) hr rfl dX4_fact_91
    refine x_swi (nI 4) hf (fun hsw hf => ?_) (fun hsw4 hf => ?_)
    · refine x_tabI hE 92 dX4_fact_12 hsw (by decide) (by decide) rfl (by decide) ?_
      refine x_aload_n hE 0 dX4_fact_92 rfl rfl ?_
      refine x_iload_n hE 1 dX4_fact_93 rfl rfl ?_
      obtain ⟨v6, hc5, hf⟩ := bnd_some hf
      refine x_callV1 hE [.int p0] (rest := []) (v := .int v6) (c1 := M) (d1 := N) rfl yokX4_isPasture yvX4_isPasture lk_X4_76 rfl cl_4 (hE.kd (kO_4 hg)) (by decide) rfl rfl ⟨Nat.le_of_ble_eq_true rfl, Nat.le_of_ble_eq_true rfl⟩ ⟨Nat.zero_le _, Nat.zero_le _⟩ rfl (Nat.le_of_ble_eq_true rfl) dX4_fact_94 (mX4_isPasture l hg hc5) ?_
      refine x_if_eq hE 117 dX4_fact_97 (by decide) hf (fun hf => ?_) (fun hf => ?_)
      · refine x_iconst hE (-1) dX4_fact_117 (by decide) ?_
        replace hf := Option.some.inj hf
        subst hf
        exact x_ireturn hE (v := (-1)) hr rfl dX4_fact_118
      · refine x_aload_n hE 0 dX4_fact_100 rfl rfl ?_
        refine x_getR hE cl_4 (hE.kd (kO_4 hg)) (by decide) 6 (g + 8) rfl (by decide) lk_X4_30 dX4_fact_101 ?_
        refine x_iload_n hE 1 dX4_fact_104 rfl rfl ?_
        refine x_zald hE (hE.kd (kB_4_6 hg)) dX4_fact_105 hf (fun hf => ?_)
        refine x_if_eq hE 113 dX4_fact_106 (by decide) hf (fun hf => ?_) (fun hf => ?_)
        · refine x_iconst hE (0 : Int32) dX4_fact_113 (by decide) ?_
          refine x_goto hE 118 dX4_fact_114 (by decide) ?_
          replace hf := Option.some.inj hf
          subst hf
          exact x_ireturn hE (v := 0) hr rfl dX4_fact_118
        · refine x_iconst hE (nI 1) dX4_fact_109 (by decide) ?_
          refine x_goto hE 118 dX4_fact_110 (by decide) ?_
          replace hf := Option.some.inj hf
          subst hf
          exact x_ireturn hE (v := nI 1) hr rfl dX4_fact_118
    refine x_swi (nI 5) hf (fun hsw hf => ?_) (fun hsw5 hf => ?_)
    · refine x_tabI hE 119 dX4_fact_12 hsw (by decide) (by decide) rfl (by decide) ?_
      refine x_aload_n hE 0 dX4_fact_119 rfl rfl ?_
      refine x_getR hE cl_4 (hE.kd (kO_4 hg)) (by decide) 7 (g + 9) rfl (by decide) lk_X4_34 dX4_fact_120 ?_
      refine x_iload_n hE 1 dX4_fact_123 rfl rfl ?_
      refine x_iald hE (hE.kd (kB_4_7 hg)) dX4_fact_124 hf (fun hf => ?_)
      replace hf := Option.some.inj hf
      subst hf
      exact x_ireturn hE (v := M (g + 9) p0.toNatClampNeg) hr rfl dX4_fact_125
    refine x_tabO hE 126 dX4_fact_12 (x_out 6 rfl (fun k hk => match k, hk with | 0, _ => x_ne hsw0 (by decide) | 1, _ => x_ne hsw1 (by decide) | 2, _ => x_ne hsw2 (by decide) | 3, _ => x_ne hsw3 (by decide) | 4, _ => x_ne hsw4 (by decide) | 5, _ => x_ne hsw5 (by decide) | k + 6, hk => absurd hk (by omega))) (by decide) ?_
    refine x_aload_n hE 0 dX4_fact_126 rfl rfl ?_
    refine x_iload_n hE 1 dX4_fact_127 rfl rfl ?_
    obtain ⟨v8, hc7, hf⟩ := bnd_some hf
    refine x_callV1 hE [.int p0] (rest := []) (v := .int v8) (c1 := M) (d1 := N) rfl yokX4_isWild yvX4_isWild lk_X4_65 rfl cl_4 (hE.kd (kO_4 hg)) (by decide) rfl rfl ⟨Nat.le_of_ble_eq_true rfl, Nat.le_of_ble_eq_true rfl⟩ ⟨Nat.zero_le _, Nat.zero_le _⟩ rfl (Nat.le_of_ble_eq_true rfl) dX4_fact_128 (mX4_isWild l hg hc7) ?_
    refine x_if_eq hE 143 dX4_fact_131 (by decide) hf (fun hf => ?_) (fun hf => ?_)
    · refine x_iconst hE (0 : Int32) dX4_fact_143 (by decide) ?_
      replace hf := Option.some.inj hf
      subst hf
      exact x_ireturn hE (v := 0) hr rfl dX4_fact_144
    · refine x_aload_n hE 0 dX4_fact_134 rfl rfl ?_
      refine x_getR hE cl_4 (hE.kd (kO_4 hg)) (by decide) 1 (g + 3) rfl (by decide) lk_X4_15 dX4_fact_135 ?_
      refine x_iload_n hE 1 dX4_fact_138 rfl rfl ?_
      refine x_iald hE (hE.kd (kB_4_1 hg)) dX4_fact_139 hf (fun hf => ?_)
      refine x_goto hE 144 dX4_fact_140 (by decide) ?_
      replace hf := Option.some.inj hf
      subst hf
      exact x_ireturn hE (v := M (g + 3) p0.toNatClampNeg) hr rfl dX4_fact_144
  · refine x_iconst hE (-1) dX4_fact_9 (by decide) ?_
    replace hf := Option.some.inj hf
    subst hf
    exact x_ireturn hE (v := (-1)) hr rfl dX4_fact_10
theorem yokX4_fact : YOK yX4_fact cX4_fact 3 2 (some .int) := ⟨mem_g 934 (by decide +kernel) (by decide +kernel), mem_g 134 (by decide +kernel) (by decide +kernel), by decide +kernel, by decide +kernel, by decide +kernel⟩
theorem yvX4_fact : YV yX4_fact := ⟨mem_g 932 (by decide +kernel) (by decide +kernel), mem_g 933 (by decide +kernel) (by decide +kernel)⟩
theorem dX4_open_0 : decode cX4_open 0 = .ok (.iload_n 1, 1) := by decide +kernel
theorem dX4_open_1 : decode cX4_open 1 = .ok (.ifCond .lt 9, 3) := by decide +kernel
theorem dX4_open_4 : decode cX4_open 4 = .ok (.iload_n 1, 1) := by decide +kernel
theorem dX4_open_5 : decode cX4_open 5 = .ok (.bipush 96, 2) := by decide +kernel
theorem dX4_open_7 : decode cX4_open 7 = .ok (.if_icmp .lt 4, 3) := by decide +kernel
theorem dX4_open_10 : decode cX4_open 10 = .ok (.return_, 1) := by decide +kernel
theorem dX4_open_11 : decode cX4_open 11 = .ok (.aload_n 0, 1) := by decide +kernel
theorem dX4_open_12 : decode cX4_open 12 = .ok (.getfield 18, 3) := by decide +kernel
theorem dX4_open_15 : decode cX4_open 15 = .ok (.iload_n 1, 1) := by decide +kernel
theorem dX4_open_16 : decode cX4_open 16 = .ok (.iaload, 1) := by decide +kernel
theorem dX4_open_17 : decode cX4_open 17 = .ok (.iconst 3, 1) := by decide +kernel
theorem dX4_open_18 : decode cX4_open 18 = .ok (.if_icmp .eq 13, 3) := by decide +kernel
theorem dX4_open_21 : decode cX4_open 21 = .ok (.aload_n 0, 1) := by decide +kernel
theorem dX4_open_22 : decode cX4_open 22 = .ok (.getfield 18, 3) := by decide +kernel
theorem dX4_open_25 : decode cX4_open 25 = .ok (.iload_n 1, 1) := by decide +kernel
theorem dX4_open_26 : decode cX4_open 26 = .ok (.iaload, 1) := by decide +kernel
theorem dX4_open_27 : decode cX4_open 27 = .ok (.iconst 5, 1) := by decide +kernel
theorem dX4_open_28 : decode cX4_open 28 = .ok (.if_icmp .ne 13, 3) := by decide +kernel
theorem dX4_open_31 : decode cX4_open 31 = .ok (.aload_n 0, 1) := by decide +kernel
theorem dX4_open_32 : decode cX4_open 32 = .ok (.dup, 1) := by decide +kernel
theorem dX4_open_33 : decode cX4_open 33 = .ok (.getfield 61, 3) := by decide +kernel
theorem dX4_open_36 : decode cX4_open 36 = .ok (.iconst 1, 1) := by decide +kernel
theorem dX4_open_37 : decode cX4_open 37 = .ok (.isub, 1) := by decide +kernel
theorem dX4_open_38 : decode cX4_open 38 = .ok (.putfield 61, 3) := by decide +kernel
theorem dX4_open_41 : decode cX4_open 41 = .ok (.aload_n 0, 1) := by decide +kernel
theorem dX4_open_42 : decode cX4_open 42 = .ok (.getfield 18, 3) := by decide +kernel
theorem dX4_open_45 : decode cX4_open 45 = .ok (.iload_n 1, 1) := by decide +kernel
theorem dX4_open_46 : decode cX4_open 46 = .ok (.iconst 1, 1) := by decide +kernel
theorem dX4_open_47 : decode cX4_open 47 = .ok (.iastore, 1) := by decide +kernel
theorem dX4_open_48 : decode cX4_open 48 = .ok (.aload_n 0, 1) := by decide +kernel
theorem dX4_open_49 : decode cX4_open 49 = .ok (.getfield 21, 3) := by decide +kernel
theorem dX4_open_52 : decode cX4_open 52 = .ok (.iload_n 1, 1) := by decide +kernel
theorem dX4_open_53 : decode cX4_open 53 = .ok (.iconst (-1), 1) := by decide +kernel
theorem dX4_open_54 : decode cX4_open 54 = .ok (.iastore, 1) := by decide +kernel
theorem dX4_open_55 : decode cX4_open 55 = .ok (.aload_n 0, 1) := by decide +kernel
theorem dX4_open_56 : decode cX4_open 56 = .ok (.getfield 24, 3) := by decide +kernel
theorem dX4_open_59 : decode cX4_open 59 = .ok (.iload_n 1, 1) := by decide +kernel
theorem dX4_open_60 : decode cX4_open 60 = .ok (.iconst (-1), 1) := by decide +kernel
theorem dX4_open_61 : decode cX4_open 61 = .ok (.iastore, 1) := by decide +kernel
theorem dX4_open_62 : decode cX4_open 62 = .ok (.aload_n 0, 1) := by decide +kernel
theorem dX4_open_63 : decode cX4_open 63 = .ok (.getfield 27, 3) := by decide +kernel
theorem dX4_open_66 : decode cX4_open 66 = .ok (.iload_n 1, 1) := by decide +kernel
theorem dX4_open_67 : decode cX4_open 67 = .ok (.iconst 0, 1) := by decide +kernel
theorem dX4_open_68 : decode cX4_open 68 = .ok (.iastore, 1) := by decide +kernel
theorem dX4_open_69 : decode cX4_open 69 = .ok (.aload_n 0, 1) := by decide +kernel
theorem dX4_open_70 : decode cX4_open 70 = .ok (.getfield 30, 3) := by decide +kernel
theorem dX4_open_73 : decode cX4_open 73 = .ok (.iload_n 1, 1) := by decide +kernel
theorem dX4_open_74 : decode cX4_open 74 = .ok (.iconst 0, 1) := by decide +kernel
theorem dX4_open_75 : decode cX4_open 75 = .ok (.bastore, 1) := by decide +kernel
theorem dX4_open_76 : decode cX4_open 76 = .ok (.aload_n 0, 1) := by decide +kernel
theorem dX4_open_77 : decode cX4_open 77 = .ok (.getfield 34, 3) := by decide +kernel
theorem dX4_open_80 : decode cX4_open 80 = .ok (.iload_n 1, 1) := by decide +kernel
theorem dX4_open_81 : decode cX4_open 81 = .ok (.iconst (-1), 1) := by decide +kernel
theorem dX4_open_82 : decode cX4_open 82 = .ok (.iastore, 1) := by decide +kernel
theorem dX4_open_83 : decode cX4_open 83 = .ok (.aload_n 0, 1) := by decide +kernel
theorem dX4_open_84 : decode cX4_open 84 = .ok (.getfield 37, 3) := by decide +kernel
theorem dX4_open_87 : decode cX4_open 87 = .ok (.iload_n 1, 1) := by decide +kernel
theorem dX4_open_88 : decode cX4_open 88 = .ok (.iconst (-1), 1) := by decide +kernel
theorem dX4_open_89 : decode cX4_open 89 = .ok (.iastore, 1) := by decide +kernel
theorem dX4_open_90 : decode cX4_open 90 = .ok (.return_, 1) := by decide +kernel
theorem wX4_open_J41 {p : Program} {l : Launch} {e : Env} {s : State} {m : MethodId} {args : Array Value} {below : List Frame} {meth : Method} {c : Code} {Y : Nat → ClassId} {D : va_G} {σ : Nat → Nat} {np b0 : Nat} {g : Nat} {r : Mc} {M : Mc} {N : Md} {X1 : Int32} (hE : EOK p s m args meth c cX4_open 2 RX4 Y D σ np b0) (hr : meth.sig.returnType = none) (hg : is4 g) (hf : fX4_open_J41 g M X1 = some r) : Xw p l e (rmD 1) s m args below meth c 2 Y D σ np b0 0 0 (MQ below (QR Y D σ np b0 none r N) args s 0 0 (xA b0)) 41 [(0, .ref (σ g)), (1, .int X1)] [] M N := by
  unfold fX4_open_J41 at hf
  refine x_aload_n hE 0 dX4_open_41 rfl rfl ?_
  refine x_getR hE cl_4 (hE.kd (kO_4 hg)) (by decide) 2 (g + 4) rfl (by decide) lk_X4_18 dX4_open_42 ?_
  refine x_iload_n hE 1 dX4_open_45 rfl rfl ?_
  refine x_iconst hE (nI 1) dX4_open_46 (by decide) ?_
  refine x_iast hE (hE.kd (kB_4_2 hg)) dX4_open_47 hf (fun M2 hf => ?_)
  refine x_aload_n hE 0 dX4_open_48 rfl rfl ?_
  refine x_getR hE cl_4 (hE.kd (kO_4 hg)) (by decide) 3 (g + 5) rfl (by decide) lk_X4_21 dX4_open_49 ?_
  refine x_iload_n hE 1 dX4_open_52 rfl rfl ?_
  refine x_iconst hE (-1) dX4_open_53 (by decide) ?_
  refine x_iast hE (hE.kd (kB_4_3 hg)) dX4_open_54 hf (fun M3 hf => ?_)
  refine x_aload_n hE 0 dX4_open_55 rfl rfl ?_
  refine x_getR hE cl_4 (hE.kd (kO_4 hg)) (by decide) 4 (g + 6) rfl (by decide) lk_X4_24 dX4_open_56 ?_
  refine x_iload_n hE 1 dX4_open_59 rfl rfl ?_
  refine x_iconst hE (-1) dX4_open_60 (by decide) ?_
  refine x_iast hE (hE.kd (kB_4_4 hg)) dX4_open_61 hf (fun M4 hf => ?_)
  refine x_aload_n hE 0 dX4_open_62 rfl rfl ?_
  refine x_getR hE cl_4 (hE.kd (kO_4 hg)) (by decide) 5 (g + 7) rfl (by decide) lk_X4_27 dX4_open_63 ?_
  refine x_iload_n hE 1 dX4_open_66 rfl rfl ?_
  refine x_iconst hE (0 : Int32) dX4_open_67 (by decide) ?_
  refine x_iast hE (hE.kd (kB_4_5 hg)) dX4_open_68 hf (fun M5 hf => ?_)
  refine x_aload_n hE 0 dX4_open_69 rfl rfl ?_
  refine x_getR hE cl_4 (hE.kd (kO_4 hg)) (by decide) 6 (g + 8) rfl (by decide) lk_X4_30 dX4_open_70 ?_
  refine x_iload_n hE 1 dX4_open_73 rfl rfl ?_
  refine x_iconst hE (0 : Int32) dX4_open_74 (by decide) ?_
  refine x_zast hE (hE.kd (kB_4_6 hg)) dX4_open_75 hf (fun M6 hf => ?_)
  refine x_aload_n hE 0 dX4_open_76 rfl rfl ?_
  refine x_getR hE cl_4 (hE.kd (kO_4 hg)) (by decide) 7 (g + 9) rfl (by decide) lk_X4_34 dX4_open_77 ?_
  refine x_iload_n hE 1 dX4_open_80 rfl rfl ?_
  refine x_iconst hE (-1) dX4_open_81 (by decide) ?_
  refine x_iast hE (hE.kd (kB_4_7 hg)) dX4_open_82 hf (fun M7 hf => ?_)
  refine x_aload_n hE 0 dX4_open_83 rfl rfl ?_
  refine x_getR hE cl_4 (hE.kd (kO_4 hg)) (by decide) 8 (g + 10) rfl (by decide) lk_X4_37 dX4_open_84 ?_
  refine x_iload_n hE 1 dX4_open_87 rfl rfl ?_
  refine x_iconst hE (-1) dX4_open_88 (by decide) ?_
  refine x_iast hE (hE.kd (kB_4_8 hg)) dX4_open_89 hf (fun M8 hf => ?_)
  replace hf := Option.some.inj hf
  subst hf
  exact x_vreturn hE hr dX4_open_90
theorem wX4_open_J31 {p : Program} {l : Launch} {e : Env} {s : State} {m : MethodId} {args : Array Value} {below : List Frame} {meth : Method} {c : Code} {Y : Nat → ClassId} {D : va_G} {σ : Nat → Nat} {np b0 : Nat} {g : Nat} {r : Mc} {M : Mc} {N : Md} {X1 : Int32} (hE : EOK p s m args meth c cX4_open 2 RX4 Y D σ np b0) (hr : meth.sig.returnType = none) (hg : is4 g) (hf : fX4_open_J31 g M X1 = some r) : Xw p l e (rmD 1) s m args below meth c 2 Y D σ np b0 0 0 (MQ below (QR Y D σ np b0 none r N) args s 0 0 (xA b0)) 31 [(0, .ref (σ g)), (1, .int X1)] [] M N := by
  unfold fX4_open_J31 at hf
  refine x_aload_n hE 0 dX4_open_31 rfl rfl ?_
  refine x_dup hE dX4_open_32 rfl ?_
  refine x_getI hE cl_4 (hE.kd (kO_4 hg)) (by decide) 9 rfl (by decide) lk_X4_61 dX4_open_33 ?_
  refine x_iconst hE (nI 1) dX4_open_36 (by decide) ?_
  refine x_isub hE dX4_open_37 ?_
  refine x_putI hE cl_4 (hE.kd (kO_4 hg)) (by decide) 9 rfl (by decide) lk_X4_61 rfl rfl rfl rfl dX4_open_38 hf (fun M1 hf => ?_)
  exact wX4_open_J41 hE hr hg hf
theorem mX4_open (l : Launch) {Y : Nat → ClassId} {D : va_G} {σ : Nat → Nat} {np b0 : Nat} {M : Mc} {N : Md} {g : Nat} {p0 : Int32} {r : Mc} (hg : is4 g) (hf : fX4_open M g p0 = some r) : Met l yX4_open (.code yX4_open cX4_open 2 none :: lw_g) (rmD 1) (PR Y D σ np b0 [.ref (σ g), .int p0] M N) (QR Y D σ np b0 none r N) 0 0 (xA b0) := by
  refine x_met (by decide) (Nat.le_of_ble_eq_true rfl) (fun p e s m args below meth c hE hr => ?_)
  unfold fX4_open at hf
  refine x_pick [0, 1] (L' := [(0, .ref (σ g)), (1, .int p0)]) rfl ?_
  refine x_iload_n hE 1 dX4_open_0 rfl rfl ?_
  refine x_if_lt hE 10 dX4_open_1 (by decide) hf (fun hf => ?_) (fun hf => ?_)
  · replace hf := Option.some.inj hf
    subst hf
    exact x_vreturn hE hr dX4_open_10
  · refine x_iload_n hE 1 dX4_open_4 rfl rfl ?_
    refine x_bipush hE (nI 96) dX4_open_5 (by decide) ?_
    refine x_icmp_lt hE 11 dX4_open_7 (by decide) hf (fun hf => ?_) (fun hf => ?_)
    · refine x_aload_n hE 0 dX4_open_11 rfl rfl ?_
      refine x_getR hE cl_4 (hE.kd (kO_4 hg)) (by decide) 2 (g + 4) rfl (by decide) lk_X4_18 dX4_open_12 ?_
      refine x_iload_n hE 1 dX4_open_15 rfl rfl ?_
      refine x_iald hE (hE.kd (kB_4_2 hg)) dX4_open_16 hf (fun hf => ?_)
      refine x_iconst hE (nI 3) dX4_open_17 (by decide) ?_
      refine x_icmp_eq hE 31 dX4_open_18 (by decide) hf (fun hf => ?_) (fun hf => ?_)
      · exact wX4_open_J31 hE hr hg hf
      · refine x_aload_n hE 0 dX4_open_21 rfl rfl ?_
        refine x_getR hE cl_4 (hE.kd (kO_4 hg)) (by decide) 2 (g + 4) rfl (by decide) lk_X4_18 dX4_open_22 ?_
        refine x_iload_n hE 1 dX4_open_25 rfl rfl ?_
        refine x_iald hE (hE.kd (kB_4_2 hg)) dX4_open_26 hf (fun hf => ?_)
        refine x_iconst hE (nI 5) dX4_open_27 (by decide) ?_
        refine x_icmp_ne hE 41 dX4_open_28 (by decide) hf (fun hf => ?_) (fun hf => ?_)
        · exact wX4_open_J41 hE hr hg hf
        · exact wX4_open_J31 hE hr hg hf
    · replace hf := Option.some.inj hf
      subst hf
      exact x_vreturn hE hr dX4_open_10
theorem yokX4_open : YOK yX4_open cX4_open 2 1 none := ⟨mem_g 1094 (by decide +kernel) (by decide +kernel), mem_g 134 (by decide +kernel) (by decide +kernel), by decide +kernel, by decide +kernel, by decide +kernel⟩
theorem yvX4_open : YV yX4_open := ⟨mem_g 1092 (by decide +kernel) (by decide +kernel), mem_g 1093 (by decide +kernel) (by decide +kernel)⟩
theorem lk_X4_83 : Cond.methodLink RX4 83 yX4_open ∈ lw_g := mem_g 1091 (by decide +kernel) (by decide +kernel)
theorem dX4_dig_0 : decode cX4_dig 0 = .ok (.aload_n 0, 1) := by decide +kernel
theorem dX4_dig_1 : decode cX4_dig 1 = .ok (.iload_n 1, 1) := by decide +kernel
theorem dX4_dig_2 : decode cX4_dig 2 = .ok (.invokevirtual 65, 3) := by decide +kernel
theorem dX4_dig_5 : decode cX4_dig 5 = .ok (.ifCond .ne 4, 3) := by decide +kernel
theorem dX4_dig_8 : decode cX4_dig 8 = .ok (.return_, 1) := by decide +kernel
theorem dX4_dig_9 : decode cX4_dig 9 = .ok (.aload_n 0, 1) := by decide +kernel
theorem dX4_dig_10 : decode cX4_dig 10 = .ok (.getfield 15, 3) := by decide +kernel
theorem dX4_dig_13 : decode cX4_dig 13 = .ok (.iload_n 1, 1) := by decide +kernel
theorem dX4_dig_14 : decode cX4_dig 14 = .ok (.dup2, 1) := by decide +kernel
theorem dX4_dig_15 : decode cX4_dig 15 = .ok (.iaload, 1) := by decide +kernel
theorem dX4_dig_16 : decode cX4_dig 16 = .ok (.iconst 1, 1) := by decide +kernel
theorem dX4_dig_17 : decode cX4_dig 17 = .ok (.isub, 1) := by decide +kernel
theorem dX4_dig_18 : decode cX4_dig 18 = .ok (.iastore, 1) := by decide +kernel
theorem dX4_dig_19 : decode cX4_dig 19 = .ok (.aload_n 0, 1) := by decide +kernel
theorem dX4_dig_20 : decode cX4_dig 20 = .ok (.getfield 15, 3) := by decide +kernel
theorem dX4_dig_23 : decode cX4_dig 23 = .ok (.iload_n 1, 1) := by decide +kernel
theorem dX4_dig_24 : decode cX4_dig 24 = .ok (.iaload, 1) := by decide +kernel
theorem dX4_dig_25 : decode cX4_dig 25 = .ok (.ifCond .gt 8, 3) := by decide +kernel
theorem dX4_dig_28 : decode cX4_dig 28 = .ok (.aload_n 0, 1) := by decide +kernel
theorem dX4_dig_29 : decode cX4_dig 29 = .ok (.iload_n 1, 1) := by decide +kernel
theorem dX4_dig_30 : decode cX4_dig 30 = .ok (.invokevirtual 83, 3) := by decide +kernel
theorem dX4_dig_33 : decode cX4_dig 33 = .ok (.return_, 1) := by decide +kernel
theorem mX4_dig (l : Launch) {Y : Nat → ClassId} {D : va_G} {σ : Nat → Nat} {np b0 : Nat} {M : Mc} {N : Md} {g : Nat} {p0 : Int32} {r : Mc} (hg : is4 g) (hf : fX4_dig M g p0 = some r) : Met l yX4_dig (.code yX4_dig cX4_dig 2 none :: lw_g) (rmD 3) (PR Y D σ np b0 [.ref (σ g), .int p0] M N) (QR Y D σ np b0 none r N) 0 0 (xA b0) := by
  refine x_met (by decide) (Nat.le_of_ble_eq_true rfl) (fun p e s m args below meth c hE hr => ?_)
  unfold fX4_dig at hf
  refine x_pick [0, 1] (L' := [(0, .ref (σ g)), (1, .int p0)]) rfl ?_
  refine x_aload_n hE 0 dX4_dig_0 rfl rfl ?_
  refine x_iload_n hE 1 dX4_dig_1 rfl rfl ?_
  obtain ⟨v2, hc1, hf⟩ := bnd_some hf
  refine x_callV1 hE [.int p0] (rest := []) (v := .int v2) (c1 := M) (d1 := N) rfl yokX4_isWild yvX4_isWild lk_X4_65 rfl cl_4 (hE.kd (kO_4 hg)) (by decide) rfl rfl ⟨Nat.le_of_ble_eq_true rfl, Nat.le_of_ble_eq_true rfl⟩ ⟨Nat.zero_le _, Nat.zero_le _⟩ rfl (Nat.le_of_ble_eq_true rfl) dX4_dig_2 (mX4_isWild l hg hc1) ?_
  refine x_if_ne hE 9 dX4_dig_5 (by decide) hf (fun hf => ?_) (fun hf => ?_)
  · refine x_aload_n hE 0 dX4_dig_9 rfl rfl ?_
    refine x_getR hE cl_4 (hE.kd (kO_4 hg)) (by decide) 1 (g + 3) rfl (by decide) lk_X4_15 dX4_dig_10 ?_
    refine x_iload_n hE 1 dX4_dig_13 rfl rfl ?_
    refine x_dup2 hE dX4_dig_14 rfl rfl ?_
    refine x_iald hE (hE.kd (kB_4_1 hg)) dX4_dig_15 hf (fun hf => ?_)
    refine x_iconst hE (nI 1) dX4_dig_16 (by decide) ?_
    refine x_isub hE dX4_dig_17 ?_
    refine x_iast hE (hE.kd (kB_4_1 hg)) dX4_dig_18 hf (fun M3 hf => ?_)
    refine x_aload_n hE 0 dX4_dig_19 rfl rfl ?_
    refine x_getR hE cl_4 (hE.kd (kO_4 hg)) (by decide) 1 (g + 3) rfl (by decide) lk_X4_15 dX4_dig_20 ?_
    refine x_iload_n hE 1 dX4_dig_23 rfl rfl ?_
    refine x_iald hE (hE.kd (kB_4_1 hg)) dX4_dig_24 hf (fun hf => ?_)
    refine x_if_gt hE 33 dX4_dig_25 (by decide) hf (fun hf => ?_) (fun hf => ?_)
    · replace hf := Option.some.inj hf
      subst hf
      exact x_vreturn hE hr dX4_dig_33
    · refine x_aload_n hE 0 dX4_dig_28 rfl rfl ?_
      refine x_iload_n hE 1 dX4_dig_29 rfl rfl ?_
      obtain ⟨M5, hc4, hf⟩ := bnd_some hf
      refine x_callV0 hE [.int p0] (rest := []) (c1 := M5) (d1 := N) rfl yokX4_open yvX4_open lk_X4_83 rfl cl_4 (hE.kd (kO_4 hg)) (by decide) rfl rfl ⟨Nat.le_of_ble_eq_true rfl, Nat.le_of_ble_eq_true rfl⟩ ⟨Nat.zero_le _, Nat.zero_le _⟩ rfl (Nat.le_of_ble_eq_true rfl) dX4_dig_30 (mX4_open l hg hc4) ?_
      replace hf := Option.some.inj hf
      subst hf
      exact x_vreturn hE hr dX4_dig_33
  · replace hf := Option.some.inj hf
    subst hf
    exact x_vreturn hE hr dX4_dig_8
theorem yokX4_dig : YOK yX4_dig cX4_dig 2 1 none := ⟨mem_g 1090 (by decide +kernel) (by decide +kernel), mem_g 134 (by decide +kernel) (by decide +kernel), by decide +kernel, by decide +kernel, by decide +kernel⟩
theorem yvX4_dig : YV yX4_dig := ⟨mem_g 1088 (by decide +kernel) (by decide +kernel), mem_g 1089 (by decide +kernel) (by decide +kernel)⟩
theorem dX4_giveFarm_0 : decode cX4_giveFarm 0 = .ok (.iload_n 1, 1) := by decide +kernel
theorem dX4_giveFarm_1 : decode cX4_giveFarm 1 = .ok (.bipush 96, 2) := by decide +kernel
theorem dX4_giveFarm_3 : decode cX4_giveFarm 3 = .ok (.invokestatic 69, 3) := by decide +kernel
theorem dX4_giveFarm_6 : decode cX4_giveFarm 6 = .ok (.ifCond .ne 4, 3) := by decide +kernel
theorem dX4_giveFarm_9 : decode cX4_giveFarm 9 = .ok (.return_, 1) := by decide +kernel
theorem dX4_giveFarm_10 : decode cX4_giveFarm 10 = .ok (.aload_n 0, 1) := by decide +kernel
theorem dX4_giveFarm_11 : decode cX4_giveFarm 11 = .ok (.iload_n 1, 1) := by decide +kernel
theorem dX4_giveFarm_12 : decode cX4_giveFarm 12 = .ok (.invokevirtual 83, 3) := by decide +kernel
theorem dX4_giveFarm_15 : decode cX4_giveFarm 15 = .ok (.aload_n 0, 1) := by decide +kernel
theorem dX4_giveFarm_16 : decode cX4_giveFarm 16 = .ok (.getfield 18, 3) := by decide +kernel
theorem dX4_giveFarm_19 : decode cX4_giveFarm 19 = .ok (.iload_n 1, 1) := by decide +kernel
theorem dX4_giveFarm_20 : decode cX4_giveFarm 20 = .ok (.iload_n 2, 1) := by decide +kernel
theorem dX4_giveFarm_21 : decode cX4_giveFarm 21 = .ok (.iastore, 1) := by decide +kernel
theorem dX4_giveFarm_22 : decode cX4_giveFarm 22 = .ok (.aload_n 0, 1) := by decide +kernel
theorem dX4_giveFarm_23 : decode cX4_giveFarm 23 = .ok (.getfield 21, 3) := by decide +kernel
theorem dX4_giveFarm_26 : decode cX4_giveFarm 26 = .ok (.iload_n 1, 1) := by decide +kernel
theorem dX4_giveFarm_27 : decode cX4_giveFarm 27 = .ok (.iload_n 3, 1) := by decide +kernel
theorem dX4_giveFarm_28 : decode cX4_giveFarm 28 = .ok (.iastore, 1) := by decide +kernel
theorem dX4_giveFarm_29 : decode cX4_giveFarm 29 = .ok (.aload_n 0, 1) := by decide +kernel
theorem dX4_giveFarm_30 : decode cX4_giveFarm 30 = .ok (.getfield 34, 3) := by decide +kernel
theorem dX4_giveFarm_33 : decode cX4_giveFarm 33 = .ok (.iload_n 1, 1) := by decide +kernel
theorem dX4_giveFarm_34 : decode cX4_giveFarm 34 = .ok (.iload 4, 2) := by decide +kernel
theorem dX4_giveFarm_36 : decode cX4_giveFarm 36 = .ok (.iastore, 1) := by decide +kernel
theorem dX4_giveFarm_37 : decode cX4_giveFarm 37 = .ok (.aload_n 0, 1) := by decide +kernel
theorem dX4_giveFarm_38 : decode cX4_giveFarm 38 = .ok (.getfield 37, 3) := by decide +kernel
theorem dX4_giveFarm_41 : decode cX4_giveFarm 41 = .ok (.iload_n 1, 1) := by decide +kernel
theorem dX4_giveFarm_42 : decode cX4_giveFarm 42 = .ok (.iload 5, 2) := by decide +kernel
theorem dX4_giveFarm_44 : decode cX4_giveFarm 44 = .ok (.iastore, 1) := by decide +kernel
theorem dX4_giveFarm_45 : decode cX4_giveFarm 45 = .ok (.aload_n 0, 1) := by decide +kernel
theorem dX4_giveFarm_46 : decode cX4_giveFarm 46 = .ok (.dup, 1) := by decide +kernel
theorem dX4_giveFarm_47 : decode cX4_giveFarm 47 = .ok (.getfield 61, 3) := by decide +kernel
theorem dX4_giveFarm_50 : decode cX4_giveFarm 50 = .ok (.iconst 1, 1) := by decide +kernel
theorem dX4_giveFarm_51 : decode cX4_giveFarm 51 = .ok (.iadd, 1) := by decide +kernel
theorem dX4_giveFarm_52 : decode cX4_giveFarm 52 = .ok (.putfield 61, 3) := by decide +kernel
theorem dX4_giveFarm_55 : decode cX4_giveFarm 55 = .ok (.return_, 1) := by decide +kernel
theorem mX4_giveFarm (l : Launch) {Y : Nat → ClassId} {D : va_G} {σ : Nat → Nat} {np b0 : Nat} {M : Mc} {N : Md} {g : Nat} {p0 : Int32} {p1 : Int32} {p2 : Int32} {p3 : Int32} {p4 : Int32} {r : Mc} (hg : is4 g) (hf : fX4_giveFarm M g p0 p1 p2 p3 p4 = some r) : Met l yX4_giveFarm (.code yX4_giveFarm cX4_giveFarm 6 none :: lw_g) (rmD 2) (PR Y D σ np b0 [.ref (σ g), .int p0, .int p1, .int p2, .int p3, .int p4] M N) (QR Y D σ np b0 none r N) 0 0 (xA b0) := by
  refine x_met (by decide) (Nat.le_of_ble_eq_true rfl) (fun p e s m args below meth c hE hr => ?_)
  unfold fX4_giveFarm at hf
  refine x_pick [0, 1, 2, 3, 4, 5] (L' := [(0, .ref (σ g)), (1, .int p0), (2, .int p1), (3, .int p2), (4, .int p3), (5, .int p4)]) rfl ?_
  refine x_iload_n hE 1 dX4_giveFarm_0 rfl rfl ?_
  refine x_bipush hE (nI 96) dX4_giveFarm_1 (by decide) ?_
  obtain ⟨v2, hc1, hf⟩ := bnd_some hf
  refine x_callSN1 hE [.int p0, .int (nI 96)] (rest := []) (v := .int v2) (c1 := M) (d1 := N) rfl yokX11_inside ysX11_inside lk_X4_69 rfl rfl ⟨Nat.le_of_ble_eq_true rfl, Nat.le_of_ble_eq_true rfl⟩ ⟨Nat.zero_le _, Nat.zero_le _⟩ rfl (Nat.le_of_ble_eq_true rfl) dX4_giveFarm_3 (mX11_inside l hc1) ?_
  refine x_if_ne hE 10 dX4_giveFarm_6 (by decide) hf (fun hf => ?_) (fun hf => ?_)
  · refine x_aload_n hE 0 dX4_giveFarm_10 rfl rfl ?_
    refine x_iload_n hE 1 dX4_giveFarm_11 rfl rfl ?_
    obtain ⟨M4, hc3, hf⟩ := bnd_some hf
    refine x_callV0 hE [.int p0] (rest := []) (c1 := M4) (d1 := N) rfl yokX4_open yvX4_open lk_X4_83 rfl cl_4 (hE.kd (kO_4 hg)) (by decide) rfl rfl ⟨Nat.le_of_ble_eq_true rfl, Nat.le_of_ble_eq_true rfl⟩ ⟨Nat.zero_le _, Nat.zero_le _⟩ rfl (Nat.le_of_ble_eq_true rfl) dX4_giveFarm_12 (mX4_open l hg hc3) ?_
    refine x_aload_n hE 0 dX4_giveFarm_15 rfl rfl ?_
    refine x_getR hE cl_4 (hE.kd (kO_4 hg)) (by decide) 2 (g + 4) rfl (by decide) lk_X4_18 dX4_giveFarm_16 ?_
    refine x_iload_n hE 1 dX4_giveFarm_19 rfl rfl ?_
    refine x_iload_n hE 2 dX4_giveFarm_20 rfl rfl ?_
    refine x_iast hE (hE.kd (kB_4_2 hg)) dX4_giveFarm_21 hf (fun M5 hf => ?_)
    refine x_aload_n hE 0 dX4_giveFarm_22 rfl rfl ?_
    refine x_getR hE cl_4 (hE.kd (kO_4 hg)) (by decide) 3 (g + 5) rfl (by decide) lk_X4_21 dX4_giveFarm_23 ?_
    refine x_iload_n hE 1 dX4_giveFarm_26 rfl rfl ?_
    refine x_iload_n hE 3 dX4_giveFarm_27 rfl rfl ?_
    refine x_iast hE (hE.kd (kB_4_3 hg)) dX4_giveFarm_28 hf (fun M6 hf => ?_)
    refine x_aload_n hE 0 dX4_giveFarm_29 rfl rfl ?_
    refine x_getR hE cl_4 (hE.kd (kO_4 hg)) (by decide) 7 (g + 9) rfl (by decide) lk_X4_34 dX4_giveFarm_30 ?_
    refine x_iload_n hE 1 dX4_giveFarm_33 rfl rfl ?_
    refine x_iload hE 4 dX4_giveFarm_34 rfl ?_
    refine x_iast hE (hE.kd (kB_4_7 hg)) dX4_giveFarm_36 hf (fun M7 hf => ?_)
    refine x_aload_n hE 0 dX4_giveFarm_37 rfl rfl ?_
    refine x_getR hE cl_4 (hE.kd (kO_4 hg)) (by decide) 8 (g + 10) rfl (by decide) lk_X4_37 dX4_giveFarm_38 ?_
    refine x_iload_n hE 1 dX4_giveFarm_41 rfl rfl ?_
    refine x_iload hE 5 dX4_giveFarm_42 rfl ?_
    refine x_iast hE (hE.kd (kB_4_8 hg)) dX4_giveFarm_44 hf (fun M8 hf => ?_)
    refine x_aload_n hE 0 dX4_giveFarm_45 rfl rfl ?_
    refine x_dup hE dX4_giveFarm_46 rfl ?_
    refine x_getI hE cl_4 (hE.kd (kO_4 hg)) (by decide) 9 rfl (by decide) lk_X4_61 dX4_giveFarm_47 ?_
    refine x_iconst hE (nI 1) dX4_giveFarm_50 (by decide) ?_
    refine x_iadd hE dX4_giveFarm_51 ?_
    refine x_putI hE cl_4 (hE.kd (kO_4 hg)) (by decide) 9 rfl (by decide) lk_X4_61 rfl rfl rfl rfl dX4_giveFarm_52 hf (fun M9 hf => ?_)
    replace hf := Option.some.inj hf
    subst hf
    exact x_vreturn hE hr dX4_giveFarm_55
  · replace hf := Option.some.inj hf
    subst hf
    exact x_vreturn hE hr dX4_giveFarm_9
theorem yokX4_giveFarm : YOK yX4_giveFarm cX4_giveFarm 6 5 none := ⟨mem_g 1193 (by decide +kernel) (by decide +kernel), mem_g 134 (by decide +kernel) (by decide +kernel), by decide +kernel, by decide +kernel, by decide +kernel⟩
theorem yvX4_giveFarm : YV yX4_giveFarm := ⟨mem_g 1191 (by decide +kernel) (by decide +kernel), mem_g 1192 (by decide +kernel) (by decide +kernel)⟩
theorem dX4_giveSquat_0 : decode cX4_giveSquat 0 = .ok (.iload_n 1, 1) := by decide +kernel
theorem dX4_giveSquat_1 : decode cX4_giveSquat 1 = .ok (.bipush 96, 2) := by decide +kernel
theorem dX4_giveSquat_3 : decode cX4_giveSquat 3 = .ok (.invokestatic 69, 3) := by decide +kernel
theorem dX4_giveSquat_6 : decode cX4_giveSquat 6 = .ok (.ifCond .ne 4, 3) := by decide +kernel
theorem dX4_giveSquat_9 : decode cX4_giveSquat 9 = .ok (.return_, 1) := by decide +kernel
theorem dX4_giveSquat_10 : decode cX4_giveSquat 10 = .ok (.aload_n 0, 1) := by decide +kernel
theorem dX4_giveSquat_11 : decode cX4_giveSquat 11 = .ok (.iload_n 1, 1) := by decide +kernel
theorem dX4_giveSquat_12 : decode cX4_giveSquat 12 = .ok (.invokevirtual 83, 3) := by decide +kernel
theorem dX4_giveSquat_15 : decode cX4_giveSquat 15 = .ok (.aload_n 0, 1) := by decide +kernel
theorem dX4_giveSquat_16 : decode cX4_giveSquat 16 = .ok (.getfield 18, 3) := by decide +kernel
theorem dX4_giveSquat_19 : decode cX4_giveSquat 19 = .ok (.iload_n 1, 1) := by decide +kernel
theorem dX4_giveSquat_20 : decode cX4_giveSquat 20 = .ok (.bipush 6, 2) := by decide +kernel
theorem dX4_giveSquat_22 : decode cX4_giveSquat 22 = .ok (.iastore, 1) := by decide +kernel
theorem dX4_giveSquat_23 : decode cX4_giveSquat 23 = .ok (.aload_n 0, 1) := by decide +kernel
theorem dX4_giveSquat_24 : decode cX4_giveSquat 24 = .ok (.getfield 21, 3) := by decide +kernel
theorem dX4_giveSquat_27 : decode cX4_giveSquat 27 = .ok (.iload_n 1, 1) := by decide +kernel
theorem dX4_giveSquat_28 : decode cX4_giveSquat 28 = .ok (.iload_n 2, 1) := by decide +kernel
theorem dX4_giveSquat_29 : decode cX4_giveSquat 29 = .ok (.iastore, 1) := by decide +kernel
theorem dX4_giveSquat_30 : decode cX4_giveSquat 30 = .ok (.return_, 1) := by decide +kernel
theorem mX4_giveSquat (l : Launch) {Y : Nat → ClassId} {D : va_G} {σ : Nat → Nat} {np b0 : Nat} {M : Mc} {N : Md} {g : Nat} {p0 : Int32} {p1 : Int32} {r : Mc} (hg : is4 g) (hf : fX4_giveSquat M g p0 p1 = some r) : Met l yX4_giveSquat (.code yX4_giveSquat cX4_giveSquat 3 none :: lw_g) (rmD 2) (PR Y D σ np b0 [.ref (σ g), .int p0, .int p1] M N) (QR Y D σ np b0 none r N) 0 0 (xA b0) := by
  refine x_met (by decide) (Nat.le_of_ble_eq_true rfl) (fun p e s m args below meth c hE hr => ?_)
  unfold fX4_giveSquat at hf
  refine x_pick [0, 1, 2] (L' := [(0, .ref (σ g)), (1, .int p0), (2, .int p1)]) rfl ?_
  refine x_iload_n hE 1 dX4_giveSquat_0 rfl rfl ?_
  refine x_bipush hE (nI 96) dX4_giveSquat_1 (by decide) ?_
  obtain ⟨v2, hc1, hf⟩ := bnd_some hf
  refine x_callSN1 hE [.int p0, .int (nI 96)] (rest := []) (v := .int v2) (c1 := M) (d1 := N) rfl yokX11_inside ysX11_inside lk_X4_69 rfl rfl ⟨Nat.le_of_ble_eq_true rfl, Nat.le_of_ble_eq_true rfl⟩ ⟨Nat.zero_le _, Nat.zero_le _⟩ rfl (Nat.le_of_ble_eq_true rfl) dX4_giveSquat_3 (mX11_inside l hc1) ?_
  refine x_if_ne hE 10 dX4_giveSquat_6 (by decide) hf (fun hf => ?_) (fun hf => ?_)
  · refine x_aload_n hE 0 dX4_giveSquat_10 rfl rfl ?_
    refine x_iload_n hE 1 dX4_giveSquat_11 rfl rfl ?_
    obtain ⟨M4, hc3, hf⟩ := bnd_some hf
    refine x_callV0 hE [.int p0] (rest := []) (c1 := M4) (d1 := N) rfl yokX4_open yvX4_open lk_X4_83 rfl cl_4 (hE.kd (kO_4 hg)) (by decide) rfl rfl ⟨Nat.le_of_ble_eq_true rfl, Nat.le_of_ble_eq_true rfl⟩ ⟨Nat.zero_le _, Nat.zero_le _⟩ rfl (Nat.le_of_ble_eq_true rfl) dX4_giveSquat_12 (mX4_open l hg hc3) ?_
    refine x_aload_n hE 0 dX4_giveSquat_15 rfl rfl ?_
    refine x_getR hE cl_4 (hE.kd (kO_4 hg)) (by decide) 2 (g + 4) rfl (by decide) lk_X4_18 dX4_giveSquat_16 ?_
    refine x_iload_n hE 1 dX4_giveSquat_19 rfl rfl ?_
    refine x_bipush hE (nI 6) dX4_giveSquat_20 (by decide) ?_
    refine x_iast hE (hE.kd (kB_4_2 hg)) dX4_giveSquat_22 hf (fun M5 hf => ?_)
    refine x_aload_n hE 0 dX4_giveSquat_23 rfl rfl ?_
    refine x_getR hE cl_4 (hE.kd (kO_4 hg)) (by decide) 3 (g + 5) rfl (by decide) lk_X4_21 dX4_giveSquat_24 ?_
    refine x_iload_n hE 1 dX4_giveSquat_27 rfl rfl ?_
    refine x_iload_n hE 2 dX4_giveSquat_28 rfl rfl ?_
    refine x_iast hE (hE.kd (kB_4_3 hg)) dX4_giveSquat_29 hf (fun M6 hf => ?_)
    replace hf := Option.some.inj hf
    subst hf
    exact x_vreturn hE hr dX4_giveSquat_30
  · replace hf := Option.some.inj hf
    subst hf
    exact x_vreturn hE hr dX4_giveSquat_9
theorem yokX4_giveSquat : YOK yX4_giveSquat cX4_giveSquat 3 2 none := ⟨mem_g 1274 (by decide +kernel) (by decide +kernel), mem_g 134 (by decide +kernel) (by decide +kernel), by decide +kernel, by decide +kernel, by decide +kernel⟩
theorem yvX4_giveSquat : YV yX4_giveSquat := ⟨mem_g 1272 (by decide +kernel) (by decide +kernel), mem_g 1273 (by decide +kernel) (by decide +kernel)⟩
theorem lk_X4_87 : Cond.methodLink RX4 87 yX4_isPastureOf ∈ lw_g := mem_g 1263 (by decide +kernel) (by decide +kernel)
theorem dX4_lease_0 : decode cX4_lease 0 = .ok (.iload_n 1, 1) := by decide +kernel
theorem dX4_lease_1 : decode cX4_lease 1 = .ok (.bipush 96, 2) := by decide +kernel
theorem dX4_lease_3 : decode cX4_lease 3 = .ok (.invokestatic 69, 3) := by decide +kernel
theorem dX4_lease_6 : decode cX4_lease 6 = .ok (.ifCond .ne 4, 3) := by decide +kernel
theorem dX4_lease_9 : decode cX4_lease 9 = .ok (.return_, 1) := by decide +kernel
theorem dX4_lease_10 : decode cX4_lease 10 = .ok (.aload_n 0, 1) := by decide +kernel
theorem dX4_lease_11 : decode cX4_lease 11 = .ok (.iload_n 1, 1) := by decide +kernel
theorem dX4_lease_12 : decode cX4_lease 12 = .ok (.iload_n 2, 1) := by decide +kernel
theorem dX4_lease_13 : decode cX4_lease 13 = .ok (.invokevirtual 87, 3) := by decide +kernel
theorem dX4_lease_16 : decode cX4_lease 16 = .ok (.ifCond .ne 8, 3) := by decide +kernel
theorem dX4_lease_19 : decode cX4_lease 19 = .ok (.aload_n 0, 1) := by decide +kernel
theorem dX4_lease_20 : decode cX4_lease 20 = .ok (.iload_n 1, 1) := by decide +kernel
theorem dX4_lease_21 : decode cX4_lease 21 = .ok (.invokevirtual 83, 3) := by decide +kernel
theorem dX4_lease_24 : decode cX4_lease 24 = .ok (.aload_n 0, 1) := by decide +kernel
theorem dX4_lease_25 : decode cX4_lease 25 = .ok (.getfield 18, 3) := by decide +kernel
theorem dX4_lease_28 : decode cX4_lease 28 = .ok (.iload_n 1, 1) := by decide +kernel
theorem dX4_lease_29 : decode cX4_lease 29 = .ok (.iconst 4, 1) := by decide +kernel
theorem dX4_lease_30 : decode cX4_lease 30 = .ok (.iastore, 1) := by decide +kernel
theorem dX4_lease_31 : decode cX4_lease 31 = .ok (.aload_n 0, 1) := by decide +kernel
theorem dX4_lease_32 : decode cX4_lease 32 = .ok (.getfield 21, 3) := by decide +kernel
theorem dX4_lease_35 : decode cX4_lease 35 = .ok (.iload_n 1, 1) := by decide +kernel
theorem dX4_lease_36 : decode cX4_lease 36 = .ok (.iload_n 2, 1) := by decide +kernel
theorem dX4_lease_37 : decode cX4_lease 37 = .ok (.iastore, 1) := by decide +kernel
theorem dX4_lease_38 : decode cX4_lease 38 = .ok (.aload_n 0, 1) := by decide +kernel
theorem dX4_lease_39 : decode cX4_lease 39 = .ok (.getfield 24, 3) := by decide +kernel
theorem dX4_lease_42 : decode cX4_lease 42 = .ok (.iload_n 1, 1) := by decide +kernel
theorem dX4_lease_43 : decode cX4_lease 43 = .ok (.iload_n 3, 1) := by decide +kernel
theorem dX4_lease_44 : decode cX4_lease 44 = .ok (.iastore, 1) := by decide +kernel
theorem dX4_lease_45 : decode cX4_lease 45 = .ok (.return_, 1) := by decide +kernel
theorem wX4_lease_J24 {p : Program} {l : Launch} {e : Env} {s : State} {m : MethodId} {args : Array Value} {below : List Frame} {meth : Method} {c : Code} {Y : Nat → ClassId} {D : va_G} {σ : Nat → Nat} {np b0 : Nat} {g : Nat} {r : Mc} {M : Mc} {N : Md} {X1 : Int32} {X2 : Int32} {X3 : Int32} (hE : EOK p s m args meth c cX4_lease 4 RX4 Y D σ np b0) (hr : meth.sig.returnType = none) (hg : is4 g) (hf : fX4_lease_J24 g M X1 X2 X3 = some r) : Xw p l e (rmD 4) s m args below meth c 4 Y D σ np b0 0 0 (MQ below (QR Y D σ np b0 none r N) args s 0 0 (xA b0)) 24 [(0, .ref (σ g)), (1, .int X1), (2, .int X2), (3, .int X3)] [] M N := by
  unfold fX4_lease_J24 at hf
  refine x_aload_n hE 0 dX4_lease_24 rfl rfl ?_
  refine x_getR hE cl_4 (hE.kd (kO_4 hg)) (by decide) 2 (g + 4) rfl (by decide) lk_X4_18 dX4_lease_25 ?_
  refine x_iload_n hE 1 dX4_lease_28 rfl rfl ?_
  refine x_iconst hE (nI 4) dX4_lease_29 (by decide) ?_
  refine x_iast hE (hE.kd (kB_4_2 hg)) dX4_lease_30 hf (fun M7 hf => ?_)
  refine x_aload_n hE 0 dX4_lease_31 rfl rfl ?_
  refine x_getR hE cl_4 (hE.kd (kO_4 hg)) (by decide) 3 (g + 5) rfl (by decide) lk_X4_21 dX4_lease_32 ?_
  refine x_iload_n hE 1 dX4_lease_35 rfl rfl ?_
  refine x_iload_n hE 2 dX4_lease_36 rfl rfl ?_
  refine x_iast hE (hE.kd (kB_4_3 hg)) dX4_lease_37 hf (fun M8 hf => ?_)
  refine x_aload_n hE 0 dX4_lease_38 rfl rfl ?_
  refine x_getR hE cl_4 (hE.kd (kO_4 hg)) (by decide) 4 (g + 6) rfl (by decide) lk_X4_24 dX4_lease_39 ?_
  refine x_iload_n hE 1 dX4_lease_42 rfl rfl ?_
  refine x_iload_n hE 3 dX4_lease_43 rfl rfl ?_
  refine x_iast hE (hE.kd (kB_4_4 hg)) dX4_lease_44 hf (fun M9 hf => ?_)
  replace hf := Option.some.inj hf
  subst hf
  exact x_vreturn hE hr dX4_lease_45
theorem mX4_lease (l : Launch) {Y : Nat → ClassId} {D : va_G} {σ : Nat → Nat} {np b0 : Nat} {M : Mc} {N : Md} {g : Nat} {p0 : Int32} {p1 : Int32} {p2 : Int32} {r : Mc} (hg : is4 g) (hf : fX4_lease M g p0 p1 p2 = some r) : Met l yX4_lease (.code yX4_lease cX4_lease 4 none :: lw_g) (rmD 4) (PR Y D σ np b0 [.ref (σ g), .int p0, .int p1, .int p2] M N) (QR Y D σ np b0 none r N) 0 0 (xA b0) := by
  refine x_met (by decide) (Nat.le_of_ble_eq_true rfl) (fun p e s m args below meth c hE hr => ?_)
  unfold fX4_lease at hf
  refine x_pick [0, 1, 2, 3] (L' := [(0, .ref (σ g)), (1, .int p0), (2, .int p1), (3, .int p2)]) rfl ?_
  refine x_iload_n hE 1 dX4_lease_0 rfl rfl ?_
  refine x_bipush hE (nI 96) dX4_lease_1 (by decide) ?_
  obtain ⟨v2, hc1, hf⟩ := bnd_some hf
  refine x_callSN1 hE [.int p0, .int (nI 96)] (rest := []) (v := .int v2) (c1 := M) (d1 := N) rfl yokX11_inside ysX11_inside lk_X4_69 rfl rfl ⟨Nat.le_of_ble_eq_true rfl, Nat.le_of_ble_eq_true rfl⟩ ⟨Nat.zero_le _, Nat.zero_le _⟩ rfl (Nat.le_of_ble_eq_true rfl) dX4_lease_3 (mX11_inside l hc1) ?_
  refine x_if_ne hE 10 dX4_lease_6 (by decide) hf (fun hf => ?_) (fun hf => ?_)
  · refine x_aload_n hE 0 dX4_lease_10 rfl rfl ?_
    refine x_iload_n hE 1 dX4_lease_11 rfl rfl ?_
    refine x_iload_n hE 2 dX4_lease_12 rfl rfl ?_
    obtain ⟨v4, hc3, hf⟩ := bnd_some hf
    refine x_callV1 hE [.int p0, .int p1] (rest := []) (v := .int v4) (c1 := M) (d1 := N) rfl yokX4_isPastureOf yvX4_isPastureOf lk_X4_87 rfl cl_4 (hE.kd (kO_4 hg)) (by decide) rfl rfl ⟨Nat.le_of_ble_eq_true rfl, Nat.le_of_ble_eq_true rfl⟩ ⟨Nat.zero_le _, Nat.zero_le _⟩ rfl (Nat.le_of_ble_eq_true rfl) dX4_lease_13 (mX4_isPastureOf l hg hc3) ?_
    refine x_if_ne hE 24 dX4_lease_16 (by decide) hf (fun hf => ?_) (fun hf => ?_)
    · exact wX4_lease_J24 hE hr hg hf
    · refine x_aload_n hE 0 dX4_lease_19 rfl rfl ?_
      refine x_iload_n hE 1 dX4_lease_20 rfl rfl ?_
      obtain ⟨M6, hc5, hf⟩ := bnd_some hf
      refine x_callV0 hE [.int p0] (rest := []) (c1 := M6) (d1 := N) rfl yokX4_open yvX4_open lk_X4_83 rfl cl_4 (hE.kd (kO_4 hg)) (by decide) rfl rfl ⟨Nat.le_of_ble_eq_true rfl, Nat.le_of_ble_eq_true rfl⟩ ⟨Nat.zero_le _, Nat.zero_le _⟩ rfl (Nat.le_of_ble_eq_true rfl) dX4_lease_21 (mX4_open l hg hc5) ?_
      exact wX4_lease_J24 hE hr hg hf
  · replace hf := Option.some.inj hf
    subst hf
    exact x_vreturn hE hr dX4_lease_9
theorem yokX4_lease : YOK yX4_lease cX4_lease 4 3 none := ⟨mem_g 1262 (by decide +kernel) (by decide +kernel), mem_g 134 (by decide +kernel) (by decide +kernel), by decide +kernel, by decide +kernel, by decide +kernel⟩
theorem yvX4_lease : YV yX4_lease := ⟨mem_g 1260 (by decide +kernel) (by decide +kernel), mem_g 1261 (by decide +kernel) (by decide +kernel)⟩
theorem lk_X4_90 : Cond.methodLink RX4 90 yX4_stockOf ∈ lw_g := mem_g 1286 (by decide +kernel) (by decide +kernel)
theorem dX4_hasRoomFor_0 : decode cX4_hasRoomFor 0 = .ok (.aload_n 0, 1) := by decide +kernel
theorem dX4_hasRoomFor_1 : decode cX4_hasRoomFor 1 = .ok (.iload_n 1, 1) := by decide +kernel
theorem dX4_hasRoomFor_2 : decode cX4_hasRoomFor 2 = .ok (.invokevirtual 90, 3) := by decide +kernel
theorem dX4_hasRoomFor_5 : decode cX4_hasRoomFor 5 = .ok (.iload_n 2, 1) := by decide +kernel
theorem dX4_hasRoomFor_6 : decode cX4_hasRoomFor 6 = .ok (.iadd, 1) := by decide +kernel
theorem dX4_hasRoomFor_7 : decode cX4_hasRoomFor 7 = .ok (.sipush 1000, 3) := by decide +kernel
theorem dX4_hasRoomFor_10 : decode cX4_hasRoomFor 10 = .ok (.if_icmp .gt 7, 3) := by decide +kernel
theorem dX4_hasRoomFor_13 : decode cX4_hasRoomFor 13 = .ok (.iconst 1, 1) := by decide +kernel
theorem dX4_hasRoomFor_14 : decode cX4_hasRoomFor 14 = .ok (.goto 4, 3) := by decide +kernel
theorem dX4_hasRoomFor_17 : decode cX4_hasRoomFor 17 = .ok (.iconst 0, 1) := by decide +kernel
theorem dX4_hasRoomFor_18 : decode cX4_hasRoomFor 18 = .ok (.ireturn, 1) := by decide +kernel
theorem mX4_hasRoomFor (l : Launch) {Y : Nat → ClassId} {D : va_G} {σ : Nat → Nat} {np b0 : Nat} {M : Mc} {N : Md} {g : Nat} {p0 : Int32} {p1 : Int32} {r : Int32} (hg : is4 g) (hf : fX4_hasRoomFor M g p0 p1 = some r) : Met l yX4_hasRoomFor (.code yX4_hasRoomFor cX4_hasRoomFor 3 (some .boolean) :: lw_g) (rmD 3) (PR Y D σ np b0 [.ref (σ g), .int p0, .int p1] M N) (QR Y D σ np b0 (some (.int r)) M N) 0 0 (xA b0) := by
  refine x_met (by decide) (Nat.le_of_ble_eq_true rfl) (fun p e s m args below meth c hE hr => ?_)
  unfold fX4_hasRoomFor at hf
  refine x_pick [0, 1, 2] (L' := [(0, .ref (σ g)), (1, .int p0), (2, .int p1)]) rfl ?_
  refine x_aload_n hE 0 dX4_hasRoomFor_0 rfl rfl ?_
  refine x_iload_n hE 1 dX4_hasRoomFor_1 rfl rfl ?_
  obtain ⟨v2, hc1, hf⟩ := bnd_some hf
  refine x_callV1 hE [.int p0] (rest := []) (v := .int v2) (c1 := M) (d1 := N) rfl yokX4_stockOf yvX4_stockOf lk_X4_90 rfl cl_4 (hE.kd (kO_4 hg)) (by decide) rfl rfl ⟨Nat.le_of_ble_eq_true rfl, Nat.le_of_ble_eq_true rfl⟩ ⟨Nat.zero_le _, Nat.zero_le _⟩ rfl (Nat.le_of_ble_eq_true rfl) dX4_hasRoomFor_2 (mX4_stockOf l hg hc1) ?_
  refine x_iload_n hE 2 dX4_hasRoomFor_5 rfl rfl ?_
  refine x_iadd hE dX4_hasRoomFor_6 ?_
  refine x_sipush hE (nI 1000) dX4_hasRoomFor_7 (by decide) ?_
  refine x_icmp_gt hE 17 dX4_hasRoomFor_10 (by decide) hf (fun hf => ?_) (fun hf => ?_)
  · refine x_iconst hE (0 : Int32) dX4_hasRoomFor_17 (by decide) ?_
    replace hf := Option.some.inj hf
    subst hf
    exact x_ireturn hE (v := 0) hr rfl dX4_hasRoomFor_18
  · refine x_iconst hE (nI 1) dX4_hasRoomFor_13 (by decide) ?_
    refine x_goto hE 18 dX4_hasRoomFor_14 (by decide) ?_
    replace hf := Option.some.inj hf
    subst hf
    exact x_ireturn hE (v := nI 1) hr rfl dX4_hasRoomFor_18
theorem yokX4_hasRoomFor : YOK yX4_hasRoomFor cX4_hasRoomFor 3 2 (some .boolean) := ⟨mem_g 1285 (by decide +kernel) (by decide +kernel), mem_g 134 (by decide +kernel) (by decide +kernel), by decide +kernel, by decide +kernel, by decide +kernel⟩
theorem yvX4_hasRoomFor : YV yX4_hasRoomFor := ⟨mem_g 1283 (by decide +kernel) (by decide +kernel), mem_g 1284 (by decide +kernel) (by decide +kernel)⟩
theorem dX4_addStock_0 : decode cX4_addStock 0 = .ok (.iload_n 1, 1) := by decide +kernel
theorem dX4_addStock_1 : decode cX4_addStock 1 = .ok (.bipush 96, 2) := by decide +kernel
theorem dX4_addStock_3 : decode cX4_addStock 3 = .ok (.invokestatic 69, 3) := by decide +kernel
theorem dX4_addStock_6 : decode cX4_addStock 6 = .ok (.ifCond .eq 13, 3) := by decide +kernel
theorem dX4_addStock_9 : decode cX4_addStock 9 = .ok (.aload_n 0, 1) := by decide +kernel
theorem dX4_addStock_10 : decode cX4_addStock 10 = .ok (.getfield 27, 3) := by decide +kernel
theorem dX4_addStock_13 : decode cX4_addStock 13 = .ok (.iload_n 1, 1) := by decide +kernel
theorem dX4_addStock_14 : decode cX4_addStock 14 = .ok (.dup2, 1) := by decide +kernel
theorem dX4_addStock_15 : decode cX4_addStock 15 = .ok (.iaload, 1) := by decide +kernel
theorem dX4_addStock_16 : decode cX4_addStock 16 = .ok (.iload_n 2, 1) := by decide +kernel
theorem dX4_addStock_17 : decode cX4_addStock 17 = .ok (.iadd, 1) := by decide +kernel
theorem dX4_addStock_18 : decode cX4_addStock 18 = .ok (.iastore, 1) := by decide +kernel
theorem dX4_addStock_19 : decode cX4_addStock 19 = .ok (.aload_n 0, 1) := by decide +kernel
theorem dX4_addStock_20 : decode cX4_addStock 20 = .ok (.iload_n 1, 1) := by decide +kernel
theorem dX4_addStock_21 : decode cX4_addStock 21 = .ok (.invokevirtual 90, 3) := by decide +kernel
theorem dX4_addStock_24 : decode cX4_addStock 24 = .ok (.ireturn, 1) := by decide +kernel
theorem wX4_addStock_J19 {p : Program} {l : Launch} {e : Env} {s : State} {m : MethodId} {args : Array Value} {below : List Frame} {meth : Method} {c : Code} {Y : Nat → ClassId} {D : va_G} {σ : Nat → Nat} {np b0 : Nat} {g : Nat} {r : Int32 × Mc} {M : Mc} {N : Md} {X1 : Int32} (hE : EOK p s m args meth c cX4_addStock 3 RX4 Y D σ np b0) (hr : meth.sig.returnType = (some .int)) (hg : is4 g) (hf : fX4_addStock_J19 g M X1 = some r) : Xw p l e (rmD 3) s m args below meth c 3 Y D σ np b0 0 0 (MQ below (QR Y D σ np b0 (some (.int r.1)) r.2 N) args s 0 0 (xA b0)) 19 [(0, .ref (σ g)), (1, .int X1)] [] M N := by
  unfold fX4_addStock_J19 at hf
  refine x_aload_n hE 0 dX4_addStock_19 rfl rfl ?_
  refine x_iload_n hE 1 dX4_addStock_20 rfl rfl ?_
  obtain ⟨v5, hc4, hf⟩ := bnd_some hf
  refine x_callV1 hE [.int X1] (rest := []) (v := .int v5) (c1 := M) (d1 := N) rfl yokX4_stockOf yvX4_stockOf lk_X4_90 rfl cl_4 (hE.kd (kO_4 hg)) (by decide) rfl rfl ⟨Nat.le_of_ble_eq_true rfl, Nat.le_of_ble_eq_true rfl⟩ ⟨Nat.zero_le _, Nat.zero_le _⟩ rfl (Nat.le_of_ble_eq_true rfl) dX4_addStock_21 (mX4_stockOf l hg hc4) ?_
  replace hf := Option.some.inj hf
  subst hf
  exact x_ireturn hE (v := v5) hr rfl dX4_addStock_24
theorem mX4_addStock (l : Launch) {Y : Nat → ClassId} {D : va_G} {σ : Nat → Nat} {np b0 : Nat} {M : Mc} {N : Md} {g : Nat} {p0 : Int32} {p1 : Int32} {r : Int32 × Mc} (hg : is4 g) (hf : fX4_addStock M g p0 p1 = some r) : Met l yX4_addStock (.code yX4_addStock cX4_addStock 3 (some .int) :: lw_g) (rmD 3) (PR Y D σ np b0 [.ref (σ g), .int p0, .int p1] M N) (QR Y D σ np b0 (some (.int r.1)) r.2 N) 0 0 (xA b0) := by
  refine x_met (by decide) (Nat.le_of_ble_eq_true rfl) (fun p e s m args below meth c hE hr => ?_)
  unfold fX4_addStock at hf
  refine x_pick [0, 1, 2] (L' := [(0, .ref (σ g)), (1, .int p0), (2, .int p1)]) rfl ?_
  refine x_iload_n hE 1 dX4_addStock_0 rfl rfl ?_
  refine x_bipush hE (nI 96) dX4_addStock_1 (by decide) ?_
  obtain ⟨v2, hc1, hf⟩ := bnd_some hf
  refine x_callSN1 hE [.int p0, .int (nI 96)] (rest := []) (v := .int v2) (c1 := M) (d1 := N) rfl yokX11_inside ysX11_inside lk_X4_69 rfl rfl ⟨Nat.le_of_ble_eq_true rfl, Nat.le_of_ble_eq_true rfl⟩ ⟨Nat.zero_le _, Nat.zero_le _⟩ rfl (Nat.le_of_ble_eq_true rfl) dX4_addStock_3 (mX11_inside l hc1) ?_
  refine x_if_eq hE 19 dX4_addStock_6 (by decide) hf (fun hf => ?_) (fun hf => ?_)
  · refine x_pick [0, 1] (L' := [(0, .ref (σ g)), (1, .int p0)]) rfl ?_
    exact wX4_addStock_J19 hE hr hg hf
  · refine x_aload_n hE 0 dX4_addStock_9 rfl rfl ?_
    refine x_getR hE cl_4 (hE.kd (kO_4 hg)) (by decide) 5 (g + 7) rfl (by decide) lk_X4_27 dX4_addStock_10 ?_
    refine x_iload_n hE 1 dX4_addStock_13 rfl rfl ?_
    refine x_dup2 hE dX4_addStock_14 rfl rfl ?_
    refine x_iald hE (hE.kd (kB_4_5 hg)) dX4_addStock_15 hf (fun hf => ?_)
    refine x_iload_n hE 2 dX4_addStock_16 rfl rfl ?_
    refine x_iadd hE dX4_addStock_17 ?_
    refine x_iast hE (hE.kd (kB_4_5 hg)) dX4_addStock_18 hf (fun M3 hf => ?_)
    refine x_pick [0, 1] (L' := [(0, .ref (σ g)), (1, .int p0)]) rfl ?_
    exact wX4_addStock_J19 hE hr hg hf
theorem yokX4_addStock : YOK yX4_addStock cX4_addStock 3 2 (some .int) := ⟨mem_g 1293 (by decide +kernel) (by decide +kernel), mem_g 134 (by decide +kernel) (by decide +kernel), by decide +kernel, by decide +kernel, by decide +kernel⟩
theorem yvX4_addStock : YV yX4_addStock := ⟨mem_g 1291 (by decide +kernel) (by decide +kernel), mem_g 1292 (by decide +kernel) (by decide +kernel)⟩
theorem dX4_putFence_0 : decode cX4_putFence 0 = .ok (.iload_n 1, 1) := by decide +kernel
theorem dX4_putFence_1 : decode cX4_putFence 1 = .ok (.bipush 96, 2) := by decide +kernel
theorem dX4_putFence_3 : decode cX4_putFence 3 = .ok (.invokestatic 69, 3) := by decide +kernel
theorem dX4_putFence_6 : decode cX4_putFence 6 = .ok (.ifCond .eq 10, 3) := by decide +kernel
theorem dX4_putFence_9 : decode cX4_putFence 9 = .ok (.aload_n 0, 1) := by decide +kernel
theorem dX4_putFence_10 : decode cX4_putFence 10 = .ok (.getfield 30, 3) := by decide +kernel
theorem dX4_putFence_13 : decode cX4_putFence 13 = .ok (.iload_n 1, 1) := by decide +kernel
theorem dX4_putFence_14 : decode cX4_putFence 14 = .ok (.iconst 1, 1) := by decide +kernel
theorem dX4_putFence_15 : decode cX4_putFence 15 = .ok (.bastore, 1) := by decide +kernel
theorem dX4_putFence_16 : decode cX4_putFence 16 = .ok (.return_, 1) := by decide +kernel
theorem mX4_putFence (l : Launch) {Y : Nat → ClassId} {D : va_G} {σ : Nat → Nat} {np b0 : Nat} {M : Mc} {N : Md} {g : Nat} {p0 : Int32} {r : Mc} (hg : is4 g) (hf : fX4_putFence M g p0 = some r) : Met l yX4_putFence (.code yX4_putFence cX4_putFence 2 none :: lw_g) (rmD 2) (PR Y D σ np b0 [.ref (σ g), .int p0] M N) (QR Y D σ np b0 none r N) 0 0 (xA b0) := by
  refine x_met (by decide) (Nat.le_of_ble_eq_true rfl) (fun p e s m args below meth c hE hr => ?_)
  unfold fX4_putFence at hf
  refine x_pick [0, 1] (L' := [(0, .ref (σ g)), (1, .int p0)]) rfl ?_
  refine x_iload_n hE 1 dX4_putFence_0 rfl rfl ?_
  refine x_bipush hE (nI 96) dX4_putFence_1 (by decide) ?_
  obtain ⟨v2, hc1, hf⟩ := bnd_some hf
  refine x_callSN1 hE [.int p0, .int (nI 96)] (rest := []) (v := .int v2) (c1 := M) (d1 := N) rfl yokX11_inside ysX11_inside lk_X4_69 rfl rfl ⟨Nat.le_of_ble_eq_true rfl, Nat.le_of_ble_eq_true rfl⟩ ⟨Nat.zero_le _, Nat.zero_le _⟩ rfl (Nat.le_of_ble_eq_true rfl) dX4_putFence_3 (mX11_inside l hc1) ?_
  refine x_if_eq hE 16 dX4_putFence_6 (by decide) hf (fun hf => ?_) (fun hf => ?_)
  · replace hf := Option.some.inj hf
    subst hf
    exact x_vreturn hE hr dX4_putFence_16
  · refine x_aload_n hE 0 dX4_putFence_9 rfl rfl ?_
    refine x_getR hE cl_4 (hE.kd (kO_4 hg)) (by decide) 6 (g + 8) rfl (by decide) lk_X4_30 dX4_putFence_10 ?_
    refine x_iload_n hE 1 dX4_putFence_13 rfl rfl ?_
    refine x_iconst hE (nI 1) dX4_putFence_14 (by decide) ?_
    refine x_zast hE (hE.kd (kB_4_6 hg)) dX4_putFence_15 hf (fun M3 hf => ?_)
    replace hf := Option.some.inj hf
    subst hf
    exact x_vreturn hE hr dX4_putFence_16
theorem yokX4_putFence : YOK yX4_putFence cX4_putFence 2 1 none := ⟨mem_g 1312 (by decide +kernel) (by decide +kernel), mem_g 134 (by decide +kernel) (by decide +kernel), by decide +kernel, by decide +kernel, by decide +kernel⟩
theorem yvX4_putFence : YV yX4_putFence := ⟨mem_g 1310 (by decide +kernel) (by decide +kernel), mem_g 1311 (by decide +kernel) (by decide +kernel)⟩
theorem dX4_isStraying_0 : decode cX4_isStraying 0 = .ok (.aload_n 0, 1) := by decide +kernel
theorem dX4_isStraying_1 : decode cX4_isStraying 1 = .ok (.iload_n 1, 1) := by decide +kernel
theorem dX4_isStraying_2 : decode cX4_isStraying 2 = .ok (.invokevirtual 76, 3) := by decide +kernel
theorem dX4_isStraying_5 : decode cX4_isStraying 5 = .ok (.ifCond .eq 27, 3) := by decide +kernel
theorem dX4_isStraying_8 : decode cX4_isStraying 8 = .ok (.aload_n 0, 1) := by decide +kernel
theorem dX4_isStraying_9 : decode cX4_isStraying 9 = .ok (.getfield 27, 3) := by decide +kernel
theorem dX4_isStraying_12 : decode cX4_isStraying 12 = .ok (.iload_n 1, 1) := by decide +kernel
theorem dX4_isStraying_13 : decode cX4_isStraying 13 = .ok (.iaload, 1) := by decide +kernel
theorem dX4_isStraying_14 : decode cX4_isStraying 14 = .ok (.bipush 8, 2) := by decide +kernel
theorem dX4_isStraying_16 : decode cX4_isStraying 16 = .ok (.if_icmp .lt 16, 3) := by decide +kernel
theorem dX4_isStraying_19 : decode cX4_isStraying 19 = .ok (.aload_n 0, 1) := by decide +kernel
theorem dX4_isStraying_20 : decode cX4_isStraying 20 = .ok (.getfield 30, 3) := by decide +kernel
theorem dX4_isStraying_23 : decode cX4_isStraying 23 = .ok (.iload_n 1, 1) := by decide +kernel
theorem dX4_isStraying_24 : decode cX4_isStraying 24 = .ok (.baload, 1) := by decide +kernel
theorem dX4_isStraying_25 : decode cX4_isStraying 25 = .ok (.ifCond .ne 7, 3) := by decide +kernel
theorem dX4_isStraying_28 : decode cX4_isStraying 28 = .ok (.iconst 1, 1) := by decide +kernel
theorem dX4_isStraying_29 : decode cX4_isStraying 29 = .ok (.goto 4, 3) := by decide +kernel
theorem dX4_isStraying_32 : decode cX4_isStraying 32 = .ok (.iconst 0, 1) := by decide +kernel
theorem dX4_isStraying_33 : decode cX4_isStraying 33 = .ok (.ireturn, 1) := by decide +kernel
theorem mX4_isStraying (l : Launch) {Y : Nat → ClassId} {D : va_G} {σ : Nat → Nat} {np b0 : Nat} {M : Mc} {N : Md} {g : Nat} {p0 : Int32} {r : Int32} (hg : is4 g) (hf : fX4_isStraying M g p0 = some r) : Met l yX4_isStraying (.code yX4_isStraying cX4_isStraying 2 (some .boolean) :: lw_g) (rmD 3) (PR Y D σ np b0 [.ref (σ g), .int p0] M N) (QR Y D σ np b0 (some (.int r)) M N) 0 0 (xA b0) := by
  refine x_met (by decide) (Nat.le_of_ble_eq_true rfl) (fun p e s m args below meth c hE hr => ?_)
  unfold fX4_isStraying at hf
  refine x_pick [0, 1] (L' := [(0, .ref (σ g)), (1, .int p0)]) rfl ?_
  refine x_aload_n hE 0 dX4_isStraying_0 rfl rfl ?_
  refine x_iload_n hE 1 dX4_isStraying_1 rfl rfl ?_
  obtain ⟨v2, hc1, hf⟩ := bnd_some hf
  refine x_callV1 hE [.int p0] (rest := []) (v := .int v2) (c1 := M) (d1 := N) rfl yokX4_isPasture yvX4_isPasture lk_X4_76 rfl cl_4 (hE.kd (kO_4 hg)) (by decide) rfl rfl ⟨Nat.le_of_ble_eq_true rfl, Nat.le_of_ble_eq_true rfl⟩ ⟨Nat.zero_le _, Nat.zero_le _⟩ rfl (Nat.le_of_ble_eq_true rfl) dX4_isStraying_2 (mX4_isPasture l hg hc1) ?_
  refine x_if_eq hE 32 dX4_isStraying_5 (by decide) hf (fun hf => ?_) (fun hf => ?_)
  · refine x_iconst hE (0 : Int32) dX4_isStraying_32 (by decide) ?_
    replace hf := Option.some.inj hf
    subst hf
    exact x_ireturn hE (v := 0) hr rfl dX4_isStraying_33
  · refine x_aload_n hE 0 dX4_isStraying_8 rfl rfl ?_
    refine x_getR hE cl_4 (hE.kd (kO_4 hg)) (by decide) 5 (g + 7) rfl (by decide) lk_X4_27 dX4_isStraying_9 ?_
    refine x_iload_n hE 1 dX4_isStraying_12 rfl rfl ?_
    refine x_iald hE (hE.kd (kB_4_5 hg)) dX4_isStraying_13 hf (fun hf => ?_)
    refine x_bipush hE (nI 8) dX4_isStraying_14 (by decide) ?_
    refine x_icmp_lt hE 32 dX4_isStraying_16 (by decide) hf (fun hf => ?_) (fun hf => ?_)
    · refine x_iconst hE (0 : Int32) dX4_isStraying_32 (by decide) ?_
      replace hf := Option.some.inj hf
      subst hf
      exact x_ireturn hE (v := 0) hr rfl dX4_isStraying_33
    · refine x_aload_n hE 0 dX4_isStraying_19 rfl rfl ?_
      refine x_getR hE cl_4 (hE.kd (kO_4 hg)) (by decide) 6 (g + 8) rfl (by decide) lk_X4_30 dX4_isStraying_20 ?_
      refine x_iload_n hE 1 dX4_isStraying_23 rfl rfl ?_
      refine x_zald hE (hE.kd (kB_4_6 hg)) dX4_isStraying_24 hf (fun hf => ?_)
      refine x_if_ne hE 32 dX4_isStraying_25 (by decide) hf (fun hf => ?_) (fun hf => ?_)
      · refine x_iconst hE (0 : Int32) dX4_isStraying_32 (by decide) ?_
        replace hf := Option.some.inj hf
        subst hf
        exact x_ireturn hE (v := 0) hr rfl dX4_isStraying_33
      · refine x_iconst hE (nI 1) dX4_isStraying_28 (by decide) ?_
        refine x_goto hE 33 dX4_isStraying_29 (by decide) ?_
        replace hf := Option.some.inj hf
        subst hf
        exact x_ireturn hE (v := nI 1) hr rfl dX4_isStraying_33
theorem yokX4_isStraying : YOK yX4_isStraying cX4_isStraying 2 1 (some .boolean) := ⟨mem_g 1785 (by decide +kernel) (by decide +kernel), mem_g 134 (by decide +kernel) (by decide +kernel), by decide +kernel, by decide +kernel, by decide +kernel⟩
theorem yvX4_isStraying : YV yX4_isStraying := ⟨mem_g 1783 (by decide +kernel) (by decide +kernel), mem_g 1784 (by decide +kernel) (by decide +kernel)⟩
theorem dX4_isStrangersFarm_0 : decode cX4_isStrangersFarm 0 = .ok (.iload_n 1, 1) := by decide +kernel
theorem dX4_isStrangersFarm_1 : decode cX4_isStrangersFarm 1 = .ok (.bipush 96, 2) := by decide +kernel
theorem dX4_isStrangersFarm_3 : decode cX4_isStrangersFarm 3 = .ok (.invokestatic 69, 3) := by decide +kernel
theorem dX4_isStrangersFarm_6 : decode cX4_isStrangersFarm 6 = .ok (.ifCond .eq 12, 3) := by decide +kernel
theorem dX4_isStrangersFarm_9 : decode cX4_isStrangersFarm 9 = .ok (.iload_n 2, 1) := by decide +kernel
theorem dX4_isStrangersFarm_10 : decode cX4_isStrangersFarm 10 = .ok (.bipush 96, 2) := by decide +kernel
theorem dX4_isStrangersFarm_12 : decode cX4_isStrangersFarm 12 = .ok (.invokestatic 69, 3) := by decide +kernel
theorem dX4_isStrangersFarm_15 : decode cX4_isStrangersFarm 15 = .ok (.ifCond .ne 5, 3) := by decide +kernel
theorem dX4_isStrangersFarm_18 : decode cX4_isStrangersFarm 18 = .ok (.iconst 0, 1) := by decide +kernel
theorem dX4_isStrangersFarm_19 : decode cX4_isStrangersFarm 19 = .ok (.ireturn, 1) := by decide +kernel
theorem dX4_isStrangersFarm_20 : decode cX4_isStrangersFarm 20 = .ok (.aload_n 0, 1) := by decide +kernel
theorem dX4_isStrangersFarm_21 : decode cX4_isStrangersFarm 21 = .ok (.getfield 18, 3) := by decide +kernel
theorem dX4_isStrangersFarm_24 : decode cX4_isStrangersFarm 24 = .ok (.iload_n 1, 1) := by decide +kernel
theorem dX4_isStrangersFarm_25 : decode cX4_isStrangersFarm 25 = .ok (.iaload, 1) := by decide +kernel
theorem dX4_isStrangersFarm_26 : decode cX4_isStrangersFarm 26 = .ok (.iconst 3, 1) := by decide +kernel
theorem dX4_isStrangersFarm_27 : decode cX4_isStrangersFarm 27 = .ok (.if_icmp .eq 13, 3) := by decide +kernel
theorem dX4_isStrangersFarm_30 : decode cX4_isStrangersFarm 30 = .ok (.aload_n 0, 1) := by decide +kernel
theorem dX4_isStrangersFarm_31 : decode cX4_isStrangersFarm 31 = .ok (.getfield 18, 3) := by decide +kernel
theorem dX4_isStrangersFarm_34 : decode cX4_isStrangersFarm 34 = .ok (.iload_n 1, 1) := by decide +kernel
theorem dX4_isStrangersFarm_35 : decode cX4_isStrangersFarm 35 = .ok (.iaload, 1) := by decide +kernel
theorem dX4_isStrangersFarm_36 : decode cX4_isStrangersFarm 36 = .ok (.iconst 5, 1) := by decide +kernel
theorem dX4_isStrangersFarm_37 : decode cX4_isStrangersFarm 37 = .ok (.if_icmp .ne 22, 3) := by decide +kernel
theorem dX4_isStrangersFarm_40 : decode cX4_isStrangersFarm 40 = .ok (.aload_n 0, 1) := by decide +kernel
theorem dX4_isStrangersFarm_41 : decode cX4_isStrangersFarm 41 = .ok (.getfield 21, 3) := by decide +kernel
theorem dX4_isStrangersFarm_44 : decode cX4_isStrangersFarm 44 = .ok (.iload_n 1, 1) := by decide +kernel
theorem dX4_isStrangersFarm_45 : decode cX4_isStrangersFarm 45 = .ok (.iaload, 1) := by decide +kernel
theorem dX4_isStrangersFarm_46 : decode cX4_isStrangersFarm 46 = .ok (.aload_n 0, 1) := by decide +kernel
theorem dX4_isStrangersFarm_47 : decode cX4_isStrangersFarm 47 = .ok (.getfield 21, 3) := by decide +kernel
theorem dX4_isStrangersFarm_50 : decode cX4_isStrangersFarm 50 = .ok (.iload_n 2, 1) := by decide +kernel
theorem dX4_isStrangersFarm_51 : decode cX4_isStrangersFarm 51 = .ok (.iaload, 1) := by decide +kernel
theorem dX4_isStrangersFarm_52 : decode cX4_isStrangersFarm 52 = .ok (.if_icmp .eq 7, 3) := by decide +kernel
theorem dX4_isStrangersFarm_55 : decode cX4_isStrangersFarm 55 = .ok (.iconst 1, 1) := by decide +kernel
theorem dX4_isStrangersFarm_56 : decode cX4_isStrangersFarm 56 = .ok (.goto 4, 3) := by decide +kernel
theorem dX4_isStrangersFarm_59 : decode cX4_isStrangersFarm 59 = .ok (.iconst 0, 1) := by decide +kernel
theorem dX4_isStrangersFarm_60 : decode cX4_isStrangersFarm 60 = .ok (.ireturn, 1) := by decide +kernel
theorem wX4_isStrangersFarm_J40 {p : Program} {l : Launch} {e : Env} {s : State} {m : MethodId} {args : Array Value} {below : List Frame} {meth : Method} {c : Code} {Y : Nat → ClassId} {D : va_G} {σ : Nat → Nat} {np b0 : Nat} {g : Nat} {r : Int32} {M : Mc} {N : Md} {X1 : Int32} {X2 : Int32} (hE : EOK p s m args meth c cX4_isStrangersFarm 3 RX4 Y D σ np b0) (hr : meth.sig.returnType = (some .boolean)) (hg : is4 g) (hf : fX4_isStrangersFarm_J40 g M X1 X2 = some r) : Xw p l e (rmD 2) s m args below meth c 3 Y D σ np b0 0 0 (MQ below (QR Y D σ np b0 (some (.int r)) M N) args s 0 0 (xA b0)) 40 [(0, .ref (σ g)), (1, .int X1), (2, .int X2)] [] M N := by
  unfold fX4_isStrangersFarm_J40 at hf
  refine x_aload_n hE 0 dX4_isStrangersFarm_40 rfl rfl ?_
  refine x_getR hE cl_4 (hE.kd (kO_4 hg)) (by decide) 3 (g + 5) rfl (by decide) lk_X4_21 dX4_isStrangersFarm_41 ?_
  refine x_iload_n hE 1 dX4_isStrangersFarm_44 rfl rfl ?_
  refine x_iald hE (hE.kd (kB_4_3 hg)) dX4_isStrangersFarm_45 hf (fun hf => ?_)
  refine x_aload_n hE 0 dX4_isStrangersFarm_46 rfl rfl ?_
  refine x_getR hE cl_4 (hE.kd (kO_4 hg)) (by decide) 3 (g + 5) rfl (by decide) lk_X4_21 dX4_isStrangersFarm_47 ?_
  refine x_iload_n hE 2 dX4_isStrangersFarm_50 rfl rfl ?_
  refine x_iald hE (hE.kd (kB_4_3 hg)) dX4_isStrangersFarm_51 hf (fun hf => ?_)
  refine x_icmp_eq hE 59 dX4_isStrangersFarm_52 (by decide) hf (fun hf => ?_) (fun hf => ?_)
  · refine x_iconst hE (0 : Int32) dX4_isStrangersFarm_59 (by decide) ?_
    replace hf := Option.some.inj hf
    subst hf
    exact x_ireturn hE (v := 0) hr rfl dX4_isStrangersFarm_60
  · refine x_iconst hE (nI 1) dX4_isStrangersFarm_55 (by decide) ?_
    refine x_goto hE 60 dX4_isStrangersFarm_56 (by decide) ?_
    replace hf := Option.some.inj hf
    subst hf
    exact x_ireturn hE (v := nI 1) hr rfl dX4_isStrangersFarm_60
theorem mX4_isStrangersFarm (l : Launch) {Y : Nat → ClassId} {D : va_G} {σ : Nat → Nat} {np b0 : Nat} {M : Mc} {N : Md} {g : Nat} {p0 : Int32} {p1 : Int32} {r : Int32} (hg : is4 g) (hf : fX4_isStrangersFarm M g p0 p1 = some r) : Met l yX4_isStrangersFarm (.code yX4_isStrangersFarm cX4_isStrangersFarm 3 (some .boolean) :: lw_g) (rmD 2) (PR Y D σ np b0 [.ref (σ g), .int p0, .int p1] M N) (QR Y D σ np b0 (some (.int r)) M N) 0 0 (xA b0) := by
  refine x_met (by decide) (Nat.le_of_ble_eq_true rfl) (fun p e s m args below meth c hE hr => ?_)
  unfold fX4_isStrangersFarm at hf
  refine x_pick [0, 1, 2] (L' := [(0, .ref (σ g)), (1, .int p0), (2, .int p1)]) rfl ?_
  refine x_iload_n hE 1 dX4_isStrangersFarm_0 rfl rfl ?_
  refine x_bipush hE (nI 96) dX4_isStrangersFarm_1 (by decide) ?_
  obtain ⟨v2, hc1, hf⟩ := bnd_some hf
  refine x_callSN1 hE [.int p0, .int (nI 96)] (rest := []) (v := .int v2) (c1 := M) (d1 := N) rfl yokX11_inside ysX11_inside lk_X4_69 rfl rfl ⟨Nat.le_of_ble_eq_true rfl, Nat.le_of_ble_eq_true rfl⟩ ⟨Nat.zero_le _, Nat.zero_le _⟩ rfl (Nat.le_of_ble_eq_true rfl) dX4_isStrangersFarm_3 (mX11_inside l hc1) ?_
  refine x_if_eq hE 18 dX4_isStrangersFarm_6 (by decide) hf (fun hf => ?_) (fun hf => ?_)
  · refine x_iconst hE (0 : Int32) dX4_isStrangersFarm_18 (by decide) ?_
    replace hf := Option.some.inj hf
    subst hf
    exact x_ireturn hE (v := 0) hr rfl dX4_isStrangersFarm_19
  · refine x_iload_n hE 2 dX4_isStrangersFarm_9 rfl rfl ?_
    refine x_bipush hE (nI 96) dX4_isStrangersFarm_10 (by decide) ?_
    obtain ⟨v4, hc3, hf⟩ := bnd_some hf
    refine x_callSN1 hE [.int p1, .int (nI 96)] (rest := []) (v := .int v4) (c1 := M) (d1 := N) rfl yokX11_inside ysX11_inside lk_X4_69 rfl rfl ⟨Nat.le_of_ble_eq_true rfl, Nat.le_of_ble_eq_true rfl⟩ ⟨Nat.zero_le _, Nat.zero_le _⟩ rfl (Nat.le_of_ble_eq_true rfl) dX4_isStrangersFarm_12 (mX11_inside l hc3) ?_
    refine x_if_ne hE 20 dX4_isStrangersFarm_15 (by decide) hf (fun hf => ?_) (fun hf => ?_)
    · refine x_aload_n hE 0 dX4_isStrangersFarm_20 rfl rfl ?_
      refine x_getR hE cl_4 (hE.kd (kO_4 hg)) (by decide) 2 (g + 4) rfl (by decide) lk_X4_18 dX4_isStrangersFarm_21 ?_
      refine x_iload_n hE 1 dX4_isStrangersFarm_24 rfl rfl ?_
      refine x_iald hE (hE.kd (kB_4_2 hg)) dX4_isStrangersFarm_25 hf (fun hf => ?_)
      refine x_iconst hE (nI 3) dX4_isStrangersFarm_26 (by decide) ?_
      refine x_icmp_eq hE 40 dX4_isStrangersFarm_27 (by decide) hf (fun hf => ?_) (fun hf => ?_)
      · exact wX4_isStrangersFarm_J40 hE hr hg hf
      · refine x_aload_n hE 0 dX4_isStrangersFarm_30 rfl rfl ?_
        refine x_getR hE cl_4 (hE.kd (kO_4 hg)) (by decide) 2 (g + 4) rfl (by decide) lk_X4_18 dX4_isStrangersFarm_31 ?_
        refine x_iload_n hE 1 dX4_isStrangersFarm_34 rfl rfl ?_
        refine x_iald hE (hE.kd (kB_4_2 hg)) dX4_isStrangersFarm_35 hf (fun hf => ?_)
        refine x_iconst hE (nI 5) dX4_isStrangersFarm_36 (by decide) ?_
        refine x_icmp_ne hE 59 dX4_isStrangersFarm_37 (by decide) hf (fun hf => ?_) (fun hf => ?_)
        · refine x_iconst hE (0 : Int32) dX4_isStrangersFarm_59 (by decide) ?_
          replace hf := Option.some.inj hf
          subst hf
          exact x_ireturn hE (v := 0) hr rfl dX4_isStrangersFarm_60
        · exact wX4_isStrangersFarm_J40 hE hr hg hf
    · refine x_iconst hE (0 : Int32) dX4_isStrangersFarm_18 (by decide) ?_
      replace hf := Option.some.inj hf
      subst hf
      exact x_ireturn hE (v := 0) hr rfl dX4_isStrangersFarm_19
theorem yokX4_isStrangersFarm : YOK yX4_isStrangersFarm cX4_isStrangersFarm 3 2 (some .boolean) := ⟨mem_g 1798 (by decide +kernel) (by decide +kernel), mem_g 134 (by decide +kernel) (by decide +kernel), by decide +kernel, by decide +kernel, by decide +kernel⟩
theorem yvX4_isStrangersFarm : YV yX4_isStrangersFarm := ⟨mem_g 1797 (by decide +kernel) (by decide +kernel), mem_g 49 (by decide +kernel) (by decide +kernel)⟩
theorem lk_X4_93 : Cond.methodLink RX4 93 yX4_isStrangersFarm ∈ lw_g := mem_g 1795 (by decide +kernel) (by decide +kernel)
theorem dX4_strangersFarmBeside_0 : decode cX4_strangersFarmBeside 0 = .ok (.iload_n 1, 1) := by decide +kernel
theorem dX4_strangersFarmBeside_1 : decode cX4_strangersFarmBeside 1 = .ok (.bipush 12, 2) := by decide +kernel
theorem dX4_strangersFarmBeside_3 : decode cX4_strangersFarmBeside 3 = .ok (.if_icmp .lt 20, 3) := by decide +kernel
theorem dX4_strangersFarmBeside_6 : decode cX4_strangersFarmBeside 6 = .ok (.aload_n 0, 1) := by decide +kernel
theorem dX4_strangersFarmBeside_7 : decode cX4_strangersFarmBeside 7 = .ok (.iload_n 1, 1) := by decide +kernel
theorem dX4_strangersFarmBeside_8 : decode cX4_strangersFarmBeside 8 = .ok (.bipush 12, 2) := by decide +kernel
theorem dX4_strangersFarmBeside_10 : decode cX4_strangersFarmBeside 10 = .ok (.isub, 1) := by decide +kernel
theorem dX4_strangersFarmBeside_11 : decode cX4_strangersFarmBeside 11 = .ok (.iload_n 1, 1) := by decide +kernel
theorem dX4_strangersFarmBeside_12 : decode cX4_strangersFarmBeside 12 = .ok (.invokevirtual 93, 3) := by decide +kernel
theorem dX4_strangersFarmBeside_15 : decode cX4_strangersFarmBeside 15 = .ok (.ifCond .eq 8, 3) := by decide +kernel
theorem dX4_strangersFarmBeside_18 : decode cX4_strangersFarmBeside 18 = .ok (.iload_n 1, 1) := by decide +kernel
theorem dX4_strangersFarmBeside_19 : decode cX4_strangersFarmBeside 19 = .ok (.bipush 12, 2) := by decide +kernel
theorem dX4_strangersFarmBeside_21 : decode cX4_strangersFarmBeside 21 = .ok (.isub, 1) := by decide +kernel
theorem dX4_strangersFarmBeside_22 : decode cX4_strangersFarmBeside 22 = .ok (.ireturn, 1) := by decide +kernel
theorem dX4_strangersFarmBeside_23 : decode cX4_strangersFarmBeside 23 = .ok (.iload_n 1, 1) := by decide +kernel
theorem dX4_strangersFarmBeside_24 : decode cX4_strangersFarmBeside 24 = .ok (.bipush 12, 2) := by decide +kernel
theorem dX4_strangersFarmBeside_26 : decode cX4_strangersFarmBeside 26 = .ok (.irem, 1) := by decide +kernel
theorem dX4_strangersFarmBeside_27 : decode cX4_strangersFarmBeside 27 = .ok (.ifCond .le 18, 3) := by decide +kernel
theorem dX4_strangersFarmBeside_30 : decode cX4_strangersFarmBeside 30 = .ok (.aload_n 0, 1) := by decide +kernel
theorem dX4_strangersFarmBeside_31 : decode cX4_strangersFarmBeside 31 = .ok (.iload_n 1, 1) := by decide +kernel
theorem dX4_strangersFarmBeside_32 : decode cX4_strangersFarmBeside 32 = .ok (.iconst 1, 1) := by decide +kernel
theorem dX4_strangersFarmBeside_33 : decode cX4_strangersFarmBeside 33 = .ok (.isub, 1) := by decide +kernel
theorem dX4_strangersFarmBeside_34 : decode cX4_strangersFarmBeside 34 = .ok (.iload_n 1, 1) := by decide +kernel
theorem dX4_strangersFarmBeside_35 : decode cX4_strangersFarmBeside 35 = .ok (.invokevirtual 93, 3) := by decide +kernel
theorem dX4_strangersFarmBeside_38 : decode cX4_strangersFarmBeside 38 = .ok (.ifCond .eq 7, 3) := by decide +kernel
theorem dX4_strangersFarmBeside_41 : decode cX4_strangersFarmBeside 41 = .ok (.iload_n 1, 1) := by decide +kernel
theorem dX4_strangersFarmBeside_42 : decode cX4_strangersFarmBeside 42 = .ok (.iconst 1, 1) := by decide +kernel
theorem dX4_strangersFarmBeside_43 : decode cX4_strangersFarmBeside 43 = .ok (.isub, 1) := by decide +kernel
theorem dX4_strangersFarmBeside_44 : decode cX4_strangersFarmBeside 44 = .ok (.ireturn, 1) := by decide +kernel
theorem dX4_strangersFarmBeside_45 : decode cX4_strangersFarmBeside 45 = .ok (.iload_n 1, 1) := by decide +kernel
theorem dX4_strangersFarmBeside_46 : decode cX4_strangersFarmBeside 46 = .ok (.bipush 12, 2) := by decide +kernel
theorem dX4_strangersFarmBeside_48 : decode cX4_strangersFarmBeside 48 = .ok (.irem, 1) := by decide +kernel
theorem dX4_strangersFarmBeside_49 : decode cX4_strangersFarmBeside 49 = .ok (.bipush 11, 2) := by decide +kernel
theorem dX4_strangersFarmBeside_51 : decode cX4_strangersFarmBeside 51 = .ok (.if_icmp .ge 18, 3) := by decide +kernel
theorem dX4_strangersFarmBeside_54 : decode cX4_strangersFarmBeside 54 = .ok (.aload_n 0, 1) := by decide +kernel
theorem dX4_strangersFarmBeside_55 : decode cX4_strangersFarmBeside 55 = .ok (.iload_n 1, 1) := by decide +kernel
theorem dX4_strangersFarmBeside_56 : decode cX4_strangersFarmBeside 56 = .ok (.iconst 1, 1) := by decide +kernel
theorem dX4_strangersFarmBeside_57 : decode cX4_strangersFarmBeside 57 = .ok (.iadd, 1) := by decide +kernel
theorem dX4_strangersFarmBeside_58 : decode cX4_strangersFarmBeside 58 = .ok (.iload_n 1, 1) := by decide +kernel
theorem dX4_strangersFarmBeside_59 : decode cX4_strangersFarmBeside 59 = .ok (.invokevirtual 93, 3) := by decide +kernel
theorem dX4_strangersFarmBeside_62 : decode cX4_strangersFarmBeside 62 = .ok (.ifCond .eq 7, 3) := by decide +kernel
theorem dX4_strangersFarmBeside_65 : decode cX4_strangersFarmBeside 65 = .ok (.iload_n 1, 1) := by decide +kernel
theorem dX4_strangersFarmBeside_66 : decode cX4_strangersFarmBeside 66 = .ok (.iconst 1, 1) := by decide +kernel
theorem dX4_strangersFarmBeside_67 : decode cX4_strangersFarmBeside 67 = .ok (.iadd, 1) := by decide +kernel
theorem dX4_strangersFarmBeside_68 : decode cX4_strangersFarmBeside 68 = .ok (.ireturn, 1) := by decide +kernel
theorem dX4_strangersFarmBeside_69 : decode cX4_strangersFarmBeside 69 = .ok (.aload_n 0, 1) := by decide +kernel
theorem dX4_strangersFarmBeside_70 : decode cX4_strangersFarmBeside 70 = .ok (.iload_n 1, 1) := by decide +kernel
theorem dX4_strangersFarmBeside_71 : decode cX4_strangersFarmBeside 71 = .ok (.bipush 12, 2) := by decide +kernel
theorem dX4_strangersFarmBeside_73 : decode cX4_strangersFarmBeside 73 = .ok (.iadd, 1) := by decide +kernel
theorem dX4_strangersFarmBeside_74 : decode cX4_strangersFarmBeside 74 = .ok (.iload_n 1, 1) := by decide +kernel
theorem dX4_strangersFarmBeside_75 : decode cX4_strangersFarmBeside 75 = .ok (.invokevirtual 93, 3) := by decide +kernel
theorem dX4_strangersFarmBeside_78 : decode cX4_strangersFarmBeside 78 = .ok (.ifCond .eq 10, 3) := by decide +kernel
theorem dX4_strangersFarmBeside_81 : decode cX4_strangersFarmBeside 81 = .ok (.iload_n 1, 1) := by decide +kernel
theorem dX4_strangersFarmBeside_82 : decode cX4_strangersFarmBeside 82 = .ok (.bipush 12, 2) := by decide +kernel
theorem dX4_strangersFarmBeside_84 : decode cX4_strangersFarmBeside 84 = .ok (.iadd, 1) := by decide +kernel
theorem dX4_strangersFarmBeside_85 : decode cX4_strangersFarmBeside 85 = .ok (.goto 4, 3) := by decide +kernel
theorem dX4_strangersFarmBeside_88 : decode cX4_strangersFarmBeside 88 = .ok (.iconst (-1), 1) := by decide +kernel
theorem dX4_strangersFarmBeside_89 : decode cX4_strangersFarmBeside 89 = .ok (.ireturn, 1) := by decide +kernel
theorem wX4_strangersFarmBeside_J69 {p : Program} {l : Launch} {e : Env} {s : State} {m : MethodId} {args : Array Value} {below : List Frame} {meth : Method} {c : Code} {Y : Nat → ClassId} {D : va_G} {σ : Nat → Nat} {np b0 : Nat} {g : Nat} {r : Int32} {M : Mc} {N : Md} {X1 : Int32} (hE : EOK p s m args meth c cX4_strangersFarmBeside 2 RX4 Y D σ np b0) (hr : meth.sig.returnType = (some .int)) (hg : is4 g) (hf : fX4_strangersFarmBeside_J69 g M X1 = some r) : Xw p l e (rmD 3) s m args below meth c 2 Y D σ np b0 0 0 (MQ below (QR Y D σ np b0 (some (.int r)) M N) args s 0 0 (xA b0)) 69 [(0, .ref (σ g)), (1, .int X1)] [] M N := by
  unfold fX4_strangersFarmBeside_J69 at hf
  refine x_aload_n hE 0 dX4_strangersFarmBeside_69 rfl rfl ?_
  refine x_iload_n hE 1 dX4_strangersFarmBeside_70 rfl rfl ?_
  refine x_bipush hE (nI 12) dX4_strangersFarmBeside_71 (by decide) ?_
  refine x_iadd hE dX4_strangersFarmBeside_73 ?_
  refine x_iload_n hE 1 dX4_strangersFarmBeside_74 rfl rfl ?_
  obtain ⟨v8, hc7, hf⟩ := bnd_some hf
  refine x_callV1 hE [.int (X1 + (nI 12)), .int X1] (rest := []) (v := .int v8) (c1 := M) (d1 := N) rfl yokX4_isStrangersFarm yvX4_isStrangersFarm lk_X4_93 rfl cl_4 (hE.kd (kO_4 hg)) (by decide) rfl rfl ⟨Nat.le_of_ble_eq_true rfl, Nat.le_of_ble_eq_true rfl⟩ ⟨Nat.zero_le _, Nat.zero_le _⟩ rfl (Nat.le_of_ble_eq_true rfl) dX4_strangersFarmBeside_75 (mX4_isStrangersFarm l hg hc7) ?_
  refine x_if_eq hE 88 dX4_strangersFarmBeside_78 (by decide) hf (fun hf => ?_) (fun hf => ?_)
  · refine x_iconst hE (-1) dX4_strangersFarmBeside_88 (by decide) ?_
    replace hf := Option.some.inj hf
    subst hf
    exact x_ireturn hE (v := (-1)) hr rfl dX4_strangersFarmBeside_89
  · refine x_iload_n hE 1 dX4_strangersFarmBeside_81 rfl rfl ?_
    refine x_bipush hE (nI 12) dX4_strangersFarmBeside_82 (by decide) ?_
    refine x_iadd hE dX4_strangersFarmBeside_84 ?_
    refine x_goto hE 89 dX4_strangersFarmBeside_85 (by decide) ?_
    replace hf := Option.some.inj hf
    subst hf
    exact x_ireturn hE (v := X1 + (nI 12)) hr rfl dX4_strangersFarmBeside_89
theorem wX4_strangersFarmBeside_J45 {p : Program} {l : Launch} {e : Env} {s : State} {m : MethodId} {args : Array Value} {below : List Frame} {meth : Method} {c : Code} {Y : Nat → ClassId} {D : va_G} {σ : Nat → Nat} {np b0 : Nat} {g : Nat} {r : Int32} {M : Mc} {N : Md} {X1 : Int32} (hE : EOK p s m args meth c cX4_strangersFarmBeside 2 RX4 Y D σ np b0) (hr : meth.sig.returnType = (some .int)) (hg : is4 g) (hf : fX4_strangersFarmBeside_J45 g M X1 = some r) : Xw p l e (rmD 3) s m args below meth c 2 Y D σ np b0 0 0 (MQ below (QR Y D σ np b0 (some (.int r)) M N) args s 0 0 (xA b0)) 45 [(0, .ref (σ g)), (1, .int X1)] [] M N := by
  unfold fX4_strangersFarmBeside_J45 at hf
  refine x_iload_n hE 1 dX4_strangersFarmBeside_45 rfl rfl ?_
  refine x_bipush hE (nI 12) dX4_strangersFarmBeside_46 (by decide) ?_
  refine x_iremC hE dX4_strangersFarmBeside_48 (by decide) ?_
  refine x_bipush hE (nI 11) dX4_strangersFarmBeside_49 (by decide) ?_
  refine x_icmp_ge hE 69 dX4_strangersFarmBeside_51 (by decide) hf (fun hf => ?_) (fun hf => ?_)
  · exact wX4_strangersFarmBeside_J69 hE hr hg hf
  · refine x_aload_n hE 0 dX4_strangersFarmBeside_54 rfl rfl ?_
    refine x_iload_n hE 1 dX4_strangersFarmBeside_55 rfl rfl ?_
    refine x_iconst hE (nI 1) dX4_strangersFarmBeside_56 (by decide) ?_
    refine x_iadd hE dX4_strangersFarmBeside_57 ?_
    refine x_iload_n hE 1 dX4_strangersFarmBeside_58 rfl rfl ?_
    obtain ⟨v6, hc5, hf⟩ := bnd_some hf
    refine x_callV1 hE [.int (X1 + (nI 1)), .int X1] (rest := []) (v := .int v6) (c1 := M) (d1 := N) rfl yokX4_isStrangersFarm yvX4_isStrangersFarm lk_X4_93 rfl cl_4 (hE.kd (kO_4 hg)) (by decide) rfl rfl ⟨Nat.le_of_ble_eq_true rfl, Nat.le_of_ble_eq_true rfl⟩ ⟨Nat.zero_le _, Nat.zero_le _⟩ rfl (Nat.le_of_ble_eq_true rfl) dX4_strangersFarmBeside_59 (mX4_isStrangersFarm l hg hc5) ?_
    refine x_if_eq hE 69 dX4_strangersFarmBeside_62 (by decide) hf (fun hf => ?_) (fun hf => ?_)
    · exact wX4_strangersFarmBeside_J69 hE hr hg hf
    · refine x_iload_n hE 1 dX4_strangersFarmBeside_65 rfl rfl ?_
      refine x_iconst hE (nI 1) dX4_strangersFarmBeside_66 (by decide) ?_
      refine x_iadd hE dX4_strangersFarmBeside_67 ?_
      replace hf := Option.some.inj hf
      subst hf
      exact x_ireturn hE (v := X1 + (nI 1)) hr rfl dX4_strangersFarmBeside_68
theorem wX4_strangersFarmBeside_J23 {p : Program} {l : Launch} {e : Env} {s : State} {m : MethodId} {args : Array Value} {below : List Frame} {meth : Method} {c : Code} {Y : Nat → ClassId} {D : va_G} {σ : Nat → Nat} {np b0 : Nat} {g : Nat} {r : Int32} {M : Mc} {N : Md} {X1 : Int32} (hE : EOK p s m args meth c cX4_strangersFarmBeside 2 RX4 Y D σ np b0) (hr : meth.sig.returnType = (some .int)) (hg : is4 g) (hf : fX4_strangersFarmBeside_J23 g M X1 = some r) : Xw p l e (rmD 3) s m args below meth c 2 Y D σ np b0 0 0 (MQ below (QR Y D σ np b0 (some (.int r)) M N) args s 0 0 (xA b0)) 23 [(0, .ref (σ g)), (1, .int X1)] [] M N := by
  unfold fX4_strangersFarmBeside_J23 at hf
  refine x_iload_n hE 1 dX4_strangersFarmBeside_23 rfl rfl ?_
  refine x_bipush hE (nI 12) dX4_strangersFarmBeside_24 (by decide) ?_
  refine x_iremC hE dX4_strangersFarmBeside_26 (by decide) ?_
  refine x_if_le hE 45 dX4_strangersFarmBeside_27 (by decide) hf (fun hf => ?_) (fun hf => ?_)
  · exact wX4_strangersFarmBeside_J45 hE hr hg hf
  · refine x_aload_n hE 0 dX4_strangersFarmBeside_30 rfl rfl ?_
    refine x_iload_n hE 1 dX4_strangersFarmBeside_31 rfl rfl ?_
    refine x_iconst hE (nI 1) dX4_strangersFarmBeside_32 (by decide) ?_
    refine x_isub hE dX4_strangersFarmBeside_33 ?_
    refine x_iload_n hE 1 dX4_strangersFarmBeside_34 rfl rfl ?_
    obtain ⟨v4, hc3, hf⟩ := bnd_some hf
    refine x_callV1 hE [.int (X1 - (nI 1)), .int X1] (rest := []) (v := .int v4) (c1 := M) (d1 := N) rfl yokX4_isStrangersFarm yvX4_isStrangersFarm lk_X4_93 rfl cl_4 (hE.kd (kO_4 hg)) (by decide) rfl rfl ⟨Nat.le_of_ble_eq_true rfl, Nat.le_of_ble_eq_true rfl⟩ ⟨Nat.zero_le _, Nat.zero_le _⟩ rfl (Nat.le_of_ble_eq_true rfl) dX4_strangersFarmBeside_35 (mX4_isStrangersFarm l hg hc3) ?_
    refine x_if_eq hE 45 dX4_strangersFarmBeside_38 (by decide) hf (fun hf => ?_) (fun hf => ?_)
    · exact wX4_strangersFarmBeside_J45 hE hr hg hf
    · refine x_iload_n hE 1 dX4_strangersFarmBeside_41 rfl rfl ?_
      refine x_iconst hE (nI 1) dX4_strangersFarmBeside_42 (by decide) ?_
      refine x_isub hE dX4_strangersFarmBeside_43 ?_
      replace hf := Option.some.inj hf
      subst hf
      exact x_ireturn hE (v := X1 - (nI 1)) hr rfl dX4_strangersFarmBeside_44
theorem mX4_strangersFarmBeside (l : Launch) {Y : Nat → ClassId} {D : va_G} {σ : Nat → Nat} {np b0 : Nat} {M : Mc} {N : Md} {g : Nat} {p0 : Int32} {r : Int32} (hg : is4 g) (hf : fX4_strangersFarmBeside M g p0 = some r) : Met l yX4_strangersFarmBeside (.code yX4_strangersFarmBeside cX4_strangersFarmBeside 2 (some .int) :: lw_g) (rmD 3) (PR Y D σ np b0 [.ref (σ g), .int p0] M N) (QR Y D σ np b0 (some (.int r)) M N) 0 0 (xA b0) := by
  refine x_met (by decide) (Nat.le_of_ble_eq_true rfl) (fun p e s m args below meth c hE hr => ?_)
  unfold fX4_strangersFarmBeside at hf
  refine x_pick [0, 1] (L' := [(0, .ref (σ g)), (1, .int p0)]) rfl ?_
  refine x_iload_n hE 1 dX4_strangersFarmBeside_0 rfl rfl ?_
  refine x_bipush hE (nI 12) dX4_strangersFarmBeside_1 (by decide) ?_
  refine x_icmp_lt hE 23 dX4_strangersFarmBeside_3 (by decide) hf (fun hf => ?_) (fun hf => ?_)
  · exact wX4_strangersFarmBeside_J23 hE hr hg hf
  · refine x_aload_n hE 0 dX4_strangersFarmBeside_6 rfl rfl ?_
    refine x_iload_n hE 1 dX4_strangersFarmBeside_7 rfl rfl ?_
    refine x_bipush hE (nI 12) dX4_strangersFarmBeside_8 (by decide) ?_
    refine x_isub hE dX4_strangersFarmBeside_10 ?_
    refine x_iload_n hE 1 dX4_strangersFarmBeside_11 rfl rfl ?_
    obtain ⟨v2, hc1, hf⟩ := bnd_some hf
    refine x_callV1 hE [.int (p0 - (nI 12)), .int p0] (rest := []) (v := .int v2) (c1 := M) (d1 := N) rfl yokX4_isStrangersFarm yvX4_isStrangersFarm lk_X4_93 rfl cl_4 (hE.kd (kO_4 hg)) (by decide) rfl rfl ⟨Nat.le_of_ble_eq_true rfl, Nat.le_of_ble_eq_true rfl⟩ ⟨Nat.zero_le _, Nat.zero_le _⟩ rfl (Nat.le_of_ble_eq_true rfl) dX4_strangersFarmBeside_12 (mX4_isStrangersFarm l hg hc1) ?_
    refine x_if_eq hE 23 dX4_strangersFarmBeside_15 (by decide) hf (fun hf => ?_) (fun hf => ?_)
    · exact wX4_strangersFarmBeside_J23 hE hr hg hf
    · refine x_iload_n hE 1 dX4_strangersFarmBeside_18 rfl rfl ?_
      refine x_bipush hE (nI 12) dX4_strangersFarmBeside_19 (by decide) ?_
      refine x_isub hE dX4_strangersFarmBeside_21 ?_
      replace hf := Option.some.inj hf
      subst hf
      exact x_ireturn hE (v := p0 - (nI 12)) hr rfl dX4_strangersFarmBeside_22
theorem yokX4_strangersFarmBeside : YOK yX4_strangersFarmBeside cX4_strangersFarmBeside 2 1 (some .int) := ⟨mem_g 1794 (by decide +kernel) (by decide +kernel), mem_g 134 (by decide +kernel) (by decide +kernel), by decide +kernel, by decide +kernel, by decide +kernel⟩
theorem yvX4_strangersFarmBeside : YV yX4_strangersFarmBeside := ⟨mem_g 1792 (by decide +kernel) (by decide +kernel), mem_g 1793 (by decide +kernel) (by decide +kernel)⟩
theorem dX4_endRuns_0 : decode cX4_endRuns 0 = .ok (.iconst 0, 1) := by decide +kernel
theorem dX4_endRuns_1 : decode cX4_endRuns 1 = .ok (.istore_n 2, 1) := by decide +kernel
theorem dX4_endRuns_2 : decode cX4_endRuns 2 = .ok (.iload_n 2, 1) := by decide +kernel
theorem dX4_endRuns_3 : decode cX4_endRuns 3 = .ok (.bipush 96, 2) := by decide +kernel
theorem dX4_endRuns_5 : decode cX4_endRuns 5 = .ok (.if_icmp .ge 34, 3) := by decide +kernel
theorem dX4_endRuns_8 : decode cX4_endRuns 8 = .ok (.aload_n 0, 1) := by decide +kernel
theorem dX4_endRuns_9 : decode cX4_endRuns 9 = .ok (.getfield 18, 3) := by decide +kernel
theorem dX4_endRuns_12 : decode cX4_endRuns 12 = .ok (.iload_n 2, 1) := by decide +kernel
theorem dX4_endRuns_13 : decode cX4_endRuns 13 = .ok (.iaload, 1) := by decide +kernel
theorem dX4_endRuns_14 : decode cX4_endRuns 14 = .ok (.iconst 4, 1) := by decide +kernel
theorem dX4_endRuns_15 : decode cX4_endRuns 15 = .ok (.if_icmp .ne 18, 3) := by decide +kernel
theorem dX4_endRuns_18 : decode cX4_endRuns 18 = .ok (.aload_n 0, 1) := by decide +kernel
theorem dX4_endRuns_19 : decode cX4_endRuns 19 = .ok (.getfield 24, 3) := by decide +kernel
theorem dX4_endRuns_22 : decode cX4_endRuns 22 = .ok (.iload_n 2, 1) := by decide +kernel
theorem dX4_endRuns_23 : decode cX4_endRuns 23 = .ok (.iaload, 1) := by decide +kernel
theorem dX4_endRuns_24 : decode cX4_endRuns 24 = .ok (.iload_n 1, 1) := by decide +kernel
theorem dX4_endRuns_25 : decode cX4_endRuns 25 = .ok (.if_icmp .ne 8, 3) := by decide +kernel
theorem dX4_endRuns_28 : decode cX4_endRuns 28 = .ok (.aload_n 0, 1) := by decide +kernel
theorem dX4_endRuns_29 : decode cX4_endRuns 29 = .ok (.iload_n 2, 1) := by decide +kernel
theorem dX4_endRuns_30 : decode cX4_endRuns 30 = .ok (.invokevirtual 83, 3) := by decide +kernel
theorem dX4_endRuns_33 : decode cX4_endRuns 33 = .ok (.iinc 2 1, 3) := by decide +kernel
theorem dX4_endRuns_36 : decode cX4_endRuns 36 = .ok (.goto (-34), 3) := by decide +kernel
theorem dX4_endRuns_39 : decode cX4_endRuns 39 = .ok (.return_, 1) := by decide +kernel
theorem wX4_endRuns_J33 {p : Program} {l : Launch} {e : Env} {s : State} {m : MethodId} {args : Array Value} {below : List Frame} {meth : Method} {c : Code} {Y : Nat → ClassId} {D : va_G} {σ : Nat → Nat} {np b0 : Nat} {g : Nat} {r : Mc} {K2 : Mc → Int32 → Int32 → Option (Mc)} {M : Mc} {N : Md} {X1 : Int32} {X2 : Int32} (hE : EOK p s m args meth c cX4_endRuns 3 RX4 Y D σ np b0) (hr : meth.sig.returnType = none) (hg : is4 g) (hK2 : ∀ (M : Mc) (N : Md) (X1 : Int32) (X2 : Int32), K2 M X1 X2 = some r → Xw p l e (rmD 2) s m args below meth c 3 Y D σ np b0 0 0 (MQ below (QR Y D σ np b0 none r N) args s 0 0 (xA b0)) 2 [(0, .ref (σ g)), (1, .int X1), (2, .int X2)] [] M N) (hf : fX4_endRuns_J33 g K2 M X1 X2 = some r) : Xw p l e (rmD 2) s m args below meth c 3 Y D σ np b0 0 0 (MQ below (QR Y D σ np b0 none r N) args s 0 0 (xA b0)) 33 [(0, .ref (σ g)), (1, .int X1), (2, .int X2)] [] M N := by
  unfold fX4_endRuns_J33 at hf
  refine x_iinc hE 2 (X2 + nI 1) (L' := [(2, .int (X2 + nI 1)), (0, .ref (σ g)), (1, .int X1)]) dX4_endRuns_33 rfl rfl (by decide) rfl ?_
  refine x_pick [1, 2, 0] (L' := [(0, .ref (σ g)), (1, .int X1), (2, .int (X2 + nI 1))]) rfl ?_
  refine x_goto hE 2 dX4_endRuns_36 (by decide) ?_
  exact hK2 _ _ _ _ hf
theorem wX4_endRuns_L2 {p : Program} {l : Launch} {e : Env} {s : State} {m : MethodId} {args : Array Value} {below : List Frame} {meth : Method} {c : Code} {Y : Nat → ClassId} {D : va_G} {σ : Nat → Nat} {np b0 : Nat} {g : Nat} {r : Mc} (hE : EOK p s m args meth c cX4_endRuns 3 RX4 Y D σ np b0) (hr : meth.sig.returnType = none) (hg : is4 g) : ∀ (n : Nat) (M : Mc) (N : Md) (X1 : Int32) (X2 : Int32), fX4_endRuns_L2 g n M X1 X2 = some r → Xw p l e (rmD 2) s m args below meth c 3 Y D σ np b0 0 0 (MQ below (QR Y D σ np b0 none r N) args s 0 0 (xA b0)) 2 [(0, .ref (σ g)), (1, .int X1), (2, .int X2)] [] M N := by
  intro n
  induction n with
  | zero =>
    intro M N X1 X2 hf
    cases hf
  | succ n ih =>
    intro M N X1 X2 hf
    rw [fX4_endRuns_L2.eq_2] at hf
    refine x_iload_n hE 2 dX4_endRuns_2 rfl rfl ?_
    refine x_bipush hE (nI 96) dX4_endRuns_3 (by decide) ?_
    refine x_icmp_ge hE 39 dX4_endRuns_5 (by decide) hf (fun hf => ?_) (fun hf => ?_)
    · replace hf := Option.some.inj hf
      subst hf
      exact x_vreturn hE hr dX4_endRuns_39
    · refine x_aload_n hE 0 dX4_endRuns_8 rfl rfl ?_
      refine x_getR hE cl_4 (hE.kd (kO_4 hg)) (by decide) 2 (g + 4) rfl (by decide) lk_X4_18 dX4_endRuns_9 ?_
      refine x_iload_n hE 2 dX4_endRuns_12 rfl rfl ?_
      refine x_iald hE (hE.kd (kB_4_2 hg)) dX4_endRuns_13 hf (fun hf => ?_)
      refine x_iconst hE (nI 4) dX4_endRuns_14 (by decide) ?_
      refine x_icmp_ne hE 33 dX4_endRuns_15 (by decide) hf (fun hf => ?_) (fun hf => ?_)
      · exact wX4_endRuns_J33 hE hr hg (fun _ _ _ _ hf => ih _ _ _ _ hf) hf
      · refine x_aload_n hE 0 dX4_endRuns_18 rfl rfl ?_
        refine x_getR hE cl_4 (hE.kd (kO_4 hg)) (by decide) 4 (g + 6) rfl (by decide) lk_X4_24 dX4_endRuns_19 ?_
        refine x_iload_n hE 2 dX4_endRuns_22 rfl rfl ?_
        refine x_iald hE (hE.kd (kB_4_4 hg)) dX4_endRuns_23 hf (fun hf => ?_)
        refine x_iload_n hE 1 dX4_endRuns_24 rfl rfl ?_
        refine x_icmp_ne hE 33 dX4_endRuns_25 (by decide) hf (fun hf => ?_) (fun hf => ?_)
        · exact wX4_endRuns_J33 hE hr hg (fun _ _ _ _ hf => ih _ _ _ _ hf) hf
        · refine x_aload_n hE 0 dX4_endRuns_28 rfl rfl ?_
          refine x_iload_n hE 2 dX4_endRuns_29 rfl rfl ?_
          obtain ⟨M2, hc1, hf⟩ := bnd_some hf
          refine x_callV0 hE [.int X2] (rest := []) (c1 := M2) (d1 := N) rfl yokX4_open yvX4_open lk_X4_83 rfl cl_4 (hE.kd (kO_4 hg)) (by decide) rfl rfl ⟨Nat.le_of_ble_eq_true rfl, Nat.le_of_ble_eq_true rfl⟩ ⟨Nat.zero_le _, Nat.zero_le _⟩ rfl (Nat.le_of_ble_eq_true rfl) dX4_endRuns_30 (mX4_open l hg hc1) ?_
          exact wX4_endRuns_J33 hE hr hg (fun _ _ _ _ hf => ih _ _ _ _ hf) hf
theorem mX4_endRuns (l : Launch) {Y : Nat → ClassId} {D : va_G} {σ : Nat → Nat} {np b0 : Nat} {M : Mc} {N : Md} {g : Nat} {p0 : Int32} {r : Mc} (hg : is4 g) (hf : fX4_endRuns M g p0 = some r) : Met l yX4_endRuns (.code yX4_endRuns cX4_endRuns 3 none :: lw_g) (rmD 2) (PR Y D σ np b0 [.ref (σ g), .int p0] M N) (QR Y D σ np b0 none r N) 0 0 (xA b0) := by
  refine x_met (by decide) (Nat.le_of_ble_eq_true rfl) (fun p e s m args below meth c hE hr => ?_)
  unfold fX4_endRuns at hf
  refine x_pick [0, 1] (L' := [(0, .ref (σ g)), (1, .int p0)]) rfl ?_
  refine x_iconst hE (0 : Int32) dX4_endRuns_0 (by decide) ?_
  refine x_istore_n hE (L' := [(2, .int 0), (0, .ref (σ g)), (1, .int p0)]) dX4_endRuns_1 rfl (by decide) rfl ?_
  refine x_pick [1, 2, 0] (L' := [(0, .ref (σ g)), (1, .int p0), (2, .int 0)]) rfl ?_
  exact wX4_endRuns_L2 hE hr hg FU _ _ _ _ hf
theorem yokX4_endRuns : YOK yX4_endRuns cX4_endRuns 3 1 none := ⟨mem_g 1805 (by decide +kernel) (by decide +kernel), mem_g 134 (by decide +kernel) (by decide +kernel), by decide +kernel, by decide +kernel, by decide +kernel⟩
theorem yvX4_endRuns : YV yX4_endRuns := ⟨mem_g 1803 (by decide +kernel) (by decide +kernel), mem_g 1804 (by decide +kernel) (by decide +kernel)⟩
theorem lk_X4_96 : Cond.methodLink RX4 96 Lib.Math.min.name ∈ lw_g := mem_g 1836 (by decide +kernel) (by decide +kernel)
theorem dX4_breed_0 : decode cX4_breed 0 = .ok (.iconst 0, 1) := by decide +kernel
theorem dX4_breed_1 : decode cX4_breed 1 = .ok (.istore_n 1, 1) := by decide +kernel
theorem dX4_breed_2 : decode cX4_breed 2 = .ok (.iload_n 1, 1) := by decide +kernel
theorem dX4_breed_3 : decode cX4_breed 3 = .ok (.bipush 96, 2) := by decide +kernel
theorem dX4_breed_5 : decode cX4_breed 5 = .ok (.if_icmp .ge 44, 3) := by decide +kernel
theorem dX4_breed_8 : decode cX4_breed 8 = .ok (.aload_n 0, 1) := by decide +kernel
theorem dX4_breed_9 : decode cX4_breed 9 = .ok (.iload_n 1, 1) := by decide +kernel
theorem dX4_breed_10 : decode cX4_breed 10 = .ok (.invokevirtual 76, 3) := by decide +kernel
theorem dX4_breed_13 : decode cX4_breed 13 = .ok (.ifCond .eq 30, 3) := by decide +kernel
theorem dX4_breed_16 : decode cX4_breed 16 = .ok (.aload_n 0, 1) := by decide +kernel
theorem dX4_breed_17 : decode cX4_breed 17 = .ok (.getfield 27, 3) := by decide +kernel
theorem dX4_breed_20 : decode cX4_breed 20 = .ok (.iload_n 1, 1) := by decide +kernel
theorem dX4_breed_21 : decode cX4_breed 21 = .ok (.sipush 1000, 3) := by decide +kernel
theorem dX4_breed_24 : decode cX4_breed 24 = .ok (.aload_n 0, 1) := by decide +kernel
theorem dX4_breed_25 : decode cX4_breed 25 = .ok (.getfield 27, 3) := by decide +kernel
theorem dX4_breed_28 : decode cX4_breed 28 = .ok (.iload_n 1, 1) := by decide +kernel
theorem dX4_breed_29 : decode cX4_breed 29 = .ok (.iaload, 1) := by decide +kernel
theorem dX4_breed_30 : decode cX4_breed 30 = .ok (.aload_n 0, 1) := by decide +kernel
theorem dX4_breed_31 : decode cX4_breed 31 = .ok (.getfield 27, 3) := by decide +kernel
theorem dX4_breed_34 : decode cX4_breed 34 = .ok (.iload_n 1, 1) := by decide +kernel
theorem dX4_breed_35 : decode cX4_breed 35 = .ok (.iaload, 1) := by decide +kernel
theorem dX4_breed_36 : decode cX4_breed 36 = .ok (.iconst 4, 1) := by decide +kernel
theorem dX4_breed_37 : decode cX4_breed 37 = .ok (.idiv, 1) := by decide +kernel
theorem dX4_breed_38 : decode cX4_breed 38 = .ok (.iadd, 1) := by decide +kernel
theorem dX4_breed_39 : decode cX4_breed 39 = .ok (.invokestatic 96, 3) := by decide +kernel
theorem dX4_breed_42 : decode cX4_breed 42 = .ok (.iastore, 1) := by decide +kernel
theorem dX4_breed_43 : decode cX4_breed 43 = .ok (.iinc 1 1, 3) := by decide +kernel
theorem dX4_breed_46 : decode cX4_breed 46 = .ok (.goto (-44), 3) := by decide +kernel
theorem dX4_breed_49 : decode cX4_breed 49 = .ok (.return_, 1) := by decide +kernel
theorem wX4_breed_J43 {p : Program} {l : Launch} {e : Env} {s : State} {m : MethodId} {args : Array Value} {below : List Frame} {meth : Method} {c : Code} {Y : Nat → ClassId} {D : va_G} {σ : Nat → Nat} {np b0 : Nat} {g : Nat} {r : Mc} {K2 : Mc → Int32 → Option (Mc)} {M : Mc} {N : Md} {X1 : Int32} (hE : EOK p s m args meth c cX4_breed 2 RX4 Y D σ np b0) (hr : meth.sig.returnType = none) (hg : is4 g) (hK2 : ∀ (M : Mc) (N : Md) (X1 : Int32), K2 M X1 = some r → Xw p l e (rmD 3) s m args below meth c 2 Y D σ np b0 0 0 (MQ below (QR Y D σ np b0 none r N) args s 0 0 (xA b0)) 2 [(0, .ref (σ g)), (1, .int X1)] [] M N) (hf : fX4_breed_J43 g K2 M X1 = some r) : Xw p l e (rmD 3) s m args below meth c 2 Y D σ np b0 0 0 (MQ below (QR Y D σ np b0 none r N) args s 0 0 (xA b0)) 43 [(0, .ref (σ g)), (1, .int X1)] [] M N := by
  unfold fX4_breed_J43 at hf
  refine x_iinc hE 1 (X1 + nI 1) (L' := [(1, .int (X1 + nI 1)), (0, .ref (σ g))]) dX4_breed_43 rfl rfl (by decide) rfl ?_
  refine x_pick [1, 0] (L' := [(0, .ref (σ g)), (1, .int (X1 + nI 1))]) rfl ?_
  refine x_goto hE 2 dX4_breed_46 (by decide) ?_
  exact hK2 _ _ _ hf
theorem wX4_breed_L2 {p : Program} {l : Launch} {e : Env} {s : State} {m : MethodId} {args : Array Value} {below : List Frame} {meth : Method} {c : Code} {Y : Nat → ClassId} {D : va_G} {σ : Nat → Nat} {np b0 : Nat} {g : Nat} {r : Mc} (hE : EOK p s m args meth c cX4_breed 2 RX4 Y D σ np b0) (hr : meth.sig.returnType = none) (hg : is4 g) : ∀ (n : Nat) (M : Mc) (N : Md) (X1 : Int32), fX4_breed_L2 g n M X1 = some r → Xw p l e (rmD 3) s m args below meth c 2 Y D σ np b0 0 0 (MQ below (QR Y D σ np b0 none r N) args s 0 0 (xA b0)) 2 [(0, .ref (σ g)), (1, .int X1)] [] M N := by
  intro n
  induction n with
  | zero =>
    intro M N X1 hf
    cases hf
  | succ n ih =>
    intro M N X1 hf
    rw [fX4_breed_L2.eq_2] at hf
    refine x_iload_n hE 1 dX4_breed_2 rfl rfl ?_
    refine x_bipush hE (nI 96) dX4_breed_3 (by decide) ?_
    refine x_icmp_ge hE 49 dX4_breed_5 (by decide) hf (fun hf => ?_) (fun hf => ?_)
    · replace hf := Option.some.inj hf
      subst hf
      exact x_vreturn hE hr dX4_breed_49
    · refine x_aload_n hE 0 dX4_breed_8 rfl rfl ?_
      refine x_iload_n hE 1 dX4_breed_9 rfl rfl ?_
      obtain ⟨v2, hc1, hf⟩ := bnd_some hf
      refine x_callV1 hE [.int X1] (rest := []) (v := .int v2) (c1 := M) (d1 := N) rfl yokX4_isPasture yvX4_isPasture lk_X4_76 rfl cl_4 (hE.kd (kO_4 hg)) (by decide) rfl rfl ⟨Nat.le_of_ble_eq_true rfl, Nat.le_of_ble_eq_true rfl⟩ ⟨Nat.zero_le _, Nat.zero_le _⟩ rfl (Nat.le_of_ble_eq_true rfl) dX4_breed_10 (mX4_isPasture l hg hc1) ?_
      refine x_if_eq hE 43 dX4_breed_13 (by decide) hf (fun hf => ?_) (fun hf => ?_)
      · exact wX4_breed_J43 hE hr hg (fun _ _ _ hf => ih _ _ _ hf) hf
      · refine x_aload_n hE 0 dX4_breed_16 rfl rfl ?_
        refine x_getR hE cl_4 (hE.kd (kO_4 hg)) (by decide) 5 (g + 7) rfl (by decide) lk_X4_27 dX4_breed_17 ?_
        refine x_iload_n hE 1 dX4_breed_20 rfl rfl ?_
        refine x_sipush hE (nI 1000) dX4_breed_21 (by decide) ?_
        refine x_aload_n hE 0 dX4_breed_24 rfl rfl ?_
        refine x_getR hE cl_4 (hE.kd (kO_4 hg)) (by decide) 5 (g + 7) rfl (by decide) lk_X4_27 dX4_breed_25 ?_
        refine x_iload_n hE 1 dX4_breed_28 rfl rfl ?_
        refine x_iald hE (hE.kd (kB_4_5 hg)) dX4_breed_29 hf (fun hf => ?_)
        refine x_aload_n hE 0 dX4_breed_30 rfl rfl ?_
        refine x_getR hE cl_4 (hE.kd (kO_4 hg)) (by decide) 5 (g + 7) rfl (by decide) lk_X4_27 dX4_breed_31 ?_
        refine x_iload_n hE 1 dX4_breed_34 rfl rfl ?_
        refine x_iald hE (hE.kd (kB_4_5 hg)) dX4_breed_35 hf (fun hf => ?_)
        refine x_iconst hE (nI 4) dX4_breed_36 (by decide) ?_
        refine x_idivC hE dX4_breed_37 (by decide) ?_
        refine x_iadd hE dX4_breed_38 ?_
        refine x_mmin hE lk_X4_96 (Nat.le_of_ble_eq_true rfl) dX4_breed_39 ?_
        refine x_iast hE (hE.kd (kB_4_5 hg)) dX4_breed_42 hf (fun M3 hf => ?_)
        exact wX4_breed_J43 hE hr hg (fun _ _ _ hf => ih _ _ _ hf) hf
theorem mX4_breed (l : Launch) {Y : Nat → ClassId} {D : va_G} {σ : Nat → Nat} {np b0 : Nat} {M : Mc} {N : Md} {g : Nat} {r : Mc} (hg : is4 g) (hf : fX4_breed M g = some r) : Met l yX4_breed (.code yX4_breed cX4_breed 2 none :: lw_g) (rmD 3) (PR Y D σ np b0 [.ref (σ g)] M N) (QR Y D σ np b0 none r N) 0 0 (xA b0) := by
  refine x_met (by decide) (Nat.le_of_ble_eq_true rfl) (fun p e s m args below meth c hE hr => ?_)
  unfold fX4_breed at hf
  refine x_pick [0] (L' := [(0, .ref (σ g))]) rfl ?_
  refine x_iconst hE (0 : Int32) dX4_breed_0 (by decide) ?_
  refine x_istore_n hE (L' := [(1, .int 0), (0, .ref (σ g))]) dX4_breed_1 rfl (by decide) rfl ?_
  refine x_pick [1, 0] (L' := [(0, .ref (σ g)), (1, .int 0)]) rfl ?_
  exact wX4_breed_L2 hE hr hg FU _ _ _ hf
theorem yokX4_breed : YOK yX4_breed cX4_breed 2 0 none := ⟨mem_g 1835 (by decide +kernel) (by decide +kernel), mem_g 134 (by decide +kernel) (by decide +kernel), by decide +kernel, by decide +kernel, by decide +kernel⟩
theorem yvX4_breed : YV yX4_breed := ⟨mem_g 1833 (by decide +kernel) (by decide +kernel), mem_g 1834 (by decide +kernel) (by decide +kernel)⟩
theorem dX4_yearsSeen_0 : decode cX4_yearsSeen 0 = .ok (.iload_n 1, 1) := by decide +kernel
theorem dX4_yearsSeen_1 : decode cX4_yearsSeen 1 = .ok (.iconst 4, 1) := by decide +kernel
theorem dX4_yearsSeen_2 : decode cX4_yearsSeen 2 = .ok (.invokestatic 69, 3) := by decide +kernel
theorem dX4_yearsSeen_5 : decode cX4_yearsSeen 5 = .ok (.ifCond .eq 12, 3) := by decide +kernel
theorem dX4_yearsSeen_8 : decode cX4_yearsSeen 8 = .ok (.aload_n 0, 1) := by decide +kernel
theorem dX4_yearsSeen_9 : decode cX4_yearsSeen 9 = .ok (.getfield 43, 3) := by decide +kernel
theorem dX4_yearsSeen_12 : decode cX4_yearsSeen 12 = .ok (.iload_n 1, 1) := by decide +kernel
theorem dX4_yearsSeen_13 : decode cX4_yearsSeen 13 = .ok (.iaload, 1) := by decide +kernel
theorem dX4_yearsSeen_14 : decode cX4_yearsSeen 14 = .ok (.goto 4, 3) := by decide +kernel
theorem dX4_yearsSeen_17 : decode cX4_yearsSeen 17 = .ok (.iconst 0, 1) := by decide +kernel
theorem dX4_yearsSeen_18 : decode cX4_yearsSeen 18 = .ok (.ireturn, 1) := by decide +kernel
theorem mX4_yearsSeen (l : Launch) {Y : Nat → ClassId} {D : va_G} {σ : Nat → Nat} {np b0 : Nat} {M : Mc} {N : Md} {g : Nat} {p0 : Int32} {r : Int32} (hg : is4 g) (hf : fX4_yearsSeen M g p0 = some r) : Met l yX4_yearsSeen (.code yX4_yearsSeen cX4_yearsSeen 2 (some .int) :: lw_g) (rmD 2) (PR Y D σ np b0 [.ref (σ g), .int p0] M N) (QR Y D σ np b0 (some (.int r)) M N) 0 0 (xA b0) := by
  refine x_met (by decide) (Nat.le_of_ble_eq_true rfl) (fun p e s m args below meth c hE hr => ?_)
  unfold fX4_yearsSeen at hf
  refine x_pick [0, 1] (L' := [(0, .ref (σ g)), (1, .int p0)]) rfl ?_
  refine x_iload_n hE 1 dX4_yearsSeen_0 rfl rfl ?_
  refine x_iconst hE (nI 4) dX4_yearsSeen_1 (by decide) ?_
  obtain ⟨v2, hc1, hf⟩ := bnd_some hf
  refine x_callSN1 hE [.int p0, .int (nI 4)] (rest := []) (v := .int v2) (c1 := M) (d1 := N) rfl yokX11_inside ysX11_inside lk_X4_69 rfl rfl ⟨Nat.le_of_ble_eq_true rfl, Nat.le_of_ble_eq_true rfl⟩ ⟨Nat.zero_le _, Nat.zero_le _⟩ rfl (Nat.le_of_ble_eq_true rfl) dX4_yearsSeen_2 (mX11_inside l hc1) ?_
  refine x_if_eq hE 17 dX4_yearsSeen_5 (by decide) hf (fun hf => ?_) (fun hf => ?_)
  · refine x_iconst hE (0 : Int32) dX4_yearsSeen_17 (by decide) ?_
    replace hf := Option.some.inj hf
    subst hf
    exact x_ireturn hE (v := 0) hr rfl dX4_yearsSeen_18
  · refine x_aload_n hE 0 dX4_yearsSeen_8 rfl rfl ?_
    refine x_getR hE cl_4 (hE.kd (kO_4 hg)) (by decide) 11 (g + 12) rfl (by decide) lk_X4_43 dX4_yearsSeen_9 ?_
    refine x_iload_n hE 1 dX4_yearsSeen_12 rfl rfl ?_
    refine x_iald hE (hE.kd (kB_4_11 hg)) dX4_yearsSeen_13 hf (fun hf => ?_)
    refine x_goto hE 18 dX4_yearsSeen_14 (by decide) ?_
    replace hf := Option.some.inj hf
    subst hf
    exact x_ireturn hE (v := M (g + 12) p0.toNatClampNeg) hr rfl dX4_yearsSeen_18
theorem yokX4_yearsSeen : YOK yX4_yearsSeen cX4_yearsSeen 2 1 (some .int) := ⟨mem_g 909 (by decide +kernel) (by decide +kernel), mem_g 134 (by decide +kernel) (by decide +kernel), by decide +kernel, by decide +kernel, by decide +kernel⟩
theorem yvX4_yearsSeen : YV yX4_yearsSeen := ⟨mem_g 907 (by decide +kernel) (by decide +kernel), mem_g 908 (by decide +kernel) (by decide +kernel)⟩
theorem dX4_wet_0 : decode cX4_wet 0 = .ok (.iload_n 1, 1) := by decide +kernel
theorem dX4_wet_1 : decode cX4_wet 1 = .ok (.iconst 4, 1) := by decide +kernel
theorem dX4_wet_2 : decode cX4_wet 2 = .ok (.invokestatic 69, 3) := by decide +kernel
theorem dX4_wet_5 : decode cX4_wet 5 = .ok (.ifCond .eq 13, 3) := by decide +kernel
theorem dX4_wet_8 : decode cX4_wet 8 = .ok (.aload_n 0, 1) := by decide +kernel
theorem dX4_wet_9 : decode cX4_wet 9 = .ok (.getfield 40, 3) := by decide +kernel
theorem dX4_wet_12 : decode cX4_wet 12 = .ok (.iload_n 1, 1) := by decide +kernel
theorem dX4_wet_13 : decode cX4_wet 13 = .ok (.dup2, 1) := by decide +kernel
theorem dX4_wet_14 : decode cX4_wet 14 = .ok (.iaload, 1) := by decide +kernel
theorem dX4_wet_15 : decode cX4_wet 15 = .ok (.iload_n 2, 1) := by decide +kernel
theorem dX4_wet_16 : decode cX4_wet 16 = .ok (.iadd, 1) := by decide +kernel
theorem dX4_wet_17 : decode cX4_wet 17 = .ok (.iastore, 1) := by decide +kernel
theorem dX4_wet_18 : decode cX4_wet 18 = .ok (.return_, 1) := by decide +kernel
theorem mX4_wet (l : Launch) {Y : Nat → ClassId} {D : va_G} {σ : Nat → Nat} {np b0 : Nat} {M : Mc} {N : Md} {g : Nat} {p0 : Int32} {p1 : Int32} {r : Mc} (hg : is4 g) (hf : fX4_wet M g p0 p1 = some r) : Met l yX4_wet (.code yX4_wet cX4_wet 3 none :: lw_g) (rmD 2) (PR Y D σ np b0 [.ref (σ g), .int p0, .int p1] M N) (QR Y D σ np b0 none r N) 0 0 (xA b0) := by
  refine x_met (by decide) (Nat.le_of_ble_eq_true rfl) (fun p e s m args below meth c hE hr => ?_)
  unfold fX4_wet at hf
  refine x_pick [0, 1, 2] (L' := [(0, .ref (σ g)), (1, .int p0), (2, .int p1)]) rfl ?_
  refine x_iload_n hE 1 dX4_wet_0 rfl rfl ?_
  refine x_iconst hE (nI 4) dX4_wet_1 (by decide) ?_
  obtain ⟨v2, hc1, hf⟩ := bnd_some hf
  refine x_callSN1 hE [.int p0, .int (nI 4)] (rest := []) (v := .int v2) (c1 := M) (d1 := N) rfl yokX11_inside ysX11_inside lk_X4_69 rfl rfl ⟨Nat.le_of_ble_eq_true rfl, Nat.le_of_ble_eq_true rfl⟩ ⟨Nat.zero_le _, Nat.zero_le _⟩ rfl (Nat.le_of_ble_eq_true rfl) dX4_wet_2 (mX11_inside l hc1) ?_
  refine x_if_eq hE 18 dX4_wet_5 (by decide) hf (fun hf => ?_) (fun hf => ?_)
  · replace hf := Option.some.inj hf
    subst hf
    exact x_vreturn hE hr dX4_wet_18
  · refine x_aload_n hE 0 dX4_wet_8 rfl rfl ?_
    refine x_getR hE cl_4 (hE.kd (kO_4 hg)) (by decide) 10 (g + 11) rfl (by decide) lk_X4_40 dX4_wet_9 ?_
    refine x_iload_n hE 1 dX4_wet_12 rfl rfl ?_
    refine x_dup2 hE dX4_wet_13 rfl rfl ?_
    refine x_iald hE (hE.kd (kB_4_10 hg)) dX4_wet_14 hf (fun hf => ?_)
    refine x_iload_n hE 2 dX4_wet_15 rfl rfl ?_
    refine x_iadd hE dX4_wet_16 ?_
    refine x_iast hE (hE.kd (kB_4_10 hg)) dX4_wet_17 hf (fun M3 hf => ?_)
    replace hf := Option.some.inj hf
    subst hf
    exact x_vreturn hE hr dX4_wet_18
theorem yokX4_wet : YOK yX4_wet cX4_wet 3 2 none := ⟨mem_g 1781 (by decide +kernel) (by decide +kernel), mem_g 134 (by decide +kernel) (by decide +kernel), by decide +kernel, by decide +kernel, by decide +kernel⟩
theorem yvX4_wet : YV yX4_wet := ⟨mem_g 1779 (by decide +kernel) (by decide +kernel), mem_g 1780 (by decide +kernel) (by decide +kernel)⟩
theorem lk_X4_105 : Cond.methodLinkNest RX4 105 yX11_zoneOf "SettlerColony" ∈ lw_nw := mem_n 921 (by decide +kernel) rfl
theorem dX4_isLivedIn_0 : decode cX4_isLivedIn 0 = .ok (.iconst 0, 1) := by decide +kernel
theorem dX4_isLivedIn_1 : decode cX4_isLivedIn 1 = .ok (.istore_n 2, 1) := by decide +kernel
theorem dX4_isLivedIn_2 : decode cX4_isLivedIn 2 = .ok (.iload_n 2, 1) := by decide +kernel
theorem dX4_isLivedIn_3 : decode cX4_isLivedIn 3 = .ok (.bipush 96, 2) := by decide +kernel
theorem dX4_isLivedIn_5 : decode cX4_isLivedIn 5 = .ok (.if_icmp .ge 29, 3) := by decide +kernel
theorem dX4_isLivedIn_8 : decode cX4_isLivedIn 8 = .ok (.iload_n 2, 1) := by decide +kernel
theorem dX4_isLivedIn_9 : decode cX4_isLivedIn 9 = .ok (.invokestatic 105, 3) := by decide +kernel
theorem dX4_isLivedIn_12 : decode cX4_isLivedIn 12 = .ok (.iload_n 1, 1) := by decide +kernel
theorem dX4_isLivedIn_13 : decode cX4_isLivedIn 13 = .ok (.if_icmp .ne 15, 3) := by decide +kernel
theorem dX4_isLivedIn_16 : decode cX4_isLivedIn 16 = .ok (.aload_n 0, 1) := by decide +kernel
theorem dX4_isLivedIn_17 : decode cX4_isLivedIn 17 = .ok (.getfield 21, 3) := by decide +kernel
theorem dX4_isLivedIn_20 : decode cX4_isLivedIn 20 = .ok (.iload_n 2, 1) := by decide +kernel
theorem dX4_isLivedIn_21 : decode cX4_isLivedIn 21 = .ok (.iaload, 1) := by decide +kernel
theorem dX4_isLivedIn_22 : decode cX4_isLivedIn 22 = .ok (.iconst (-1), 1) := by decide +kernel
theorem dX4_isLivedIn_23 : decode cX4_isLivedIn 23 = .ok (.if_icmp .eq 5, 3) := by decide +kernel
theorem dX4_isLivedIn_26 : decode cX4_isLivedIn 26 = .ok (.iconst 1, 1) := by decide +kernel
theorem dX4_isLivedIn_27 : decode cX4_isLivedIn 27 = .ok (.ireturn, 1) := by decide +kernel
theorem dX4_isLivedIn_28 : decode cX4_isLivedIn 28 = .ok (.iinc 2 1, 3) := by decide +kernel
theorem dX4_isLivedIn_31 : decode cX4_isLivedIn 31 = .ok (.goto (-29), 3) := by decide +kernel
theorem dX4_isLivedIn_34 : decode cX4_isLivedIn 34 = .ok (.iconst 0, 1) := by decide +kernel
theorem dX4_isLivedIn_35 : decode cX4_isLivedIn 35 = .ok (.ireturn, 1) := by decide +kernel
theorem wX4_isLivedIn_J28 {p : Program} {l : Launch} {e : Env} {s : State} {m : MethodId} {args : Array Value} {below : List Frame} {meth : Method} {c : Code} {Y : Nat → ClassId} {D : va_G} {σ : Nat → Nat} {np b0 : Nat} {g : Nat} {r : Int32} {K2 : Mc → Int32 → Int32 → Option (Int32)} {M : Mc} {N : Md} {X1 : Int32} {X2 : Int32} (hE : EOK p s m args meth c cX4_isLivedIn 3 RX4 Y D σ np b0) (hr : meth.sig.returnType = (some .boolean)) (hg : is4 g) (hK2 : ∀ (M : Mc) (N : Md) (X1 : Int32) (X2 : Int32), K2 M X1 X2 = some r → Xw p l e (rmD 2) s m args below meth c 3 Y D σ np b0 0 0 (MQ below (QR Y D σ np b0 (some (.int r)) M N) args s 0 0 (xA b0)) 2 [(0, .ref (σ g)), (1, .int X1), (2, .int X2)] [] M N) (hf : fX4_isLivedIn_J28 g K2 M X1 X2 = some r) : Xw p l e (rmD 2) s m args below meth c 3 Y D σ np b0 0 0 (MQ below (QR Y D σ np b0 (some (.int r)) M N) args s 0 0 (xA b0)) 28 [(0, .ref (σ g)), (1, .int X1), (2, .int X2)] [] M N := by
  unfold fX4_isLivedIn_J28 at hf
  refine x_iinc hE 2 (X2 + nI 1) (L' := [(2, .int (X2 + nI 1)), (0, .ref (σ g)), (1, .int X1)]) dX4_isLivedIn_28 rfl rfl (by decide) rfl ?_
  refine x_pick [1, 2, 0] (L' := [(0, .ref (σ g)), (1, .int X1), (2, .int (X2 + nI 1))]) rfl ?_
  refine x_goto hE 2 dX4_isLivedIn_31 (by decide) ?_
  exact hK2 _ _ _ _ hf
theorem wX4_isLivedIn_L2 {p : Program} {l : Launch} {e : Env} {s : State} {m : MethodId} {args : Array Value} {below : List Frame} {meth : Method} {c : Code} {Y : Nat → ClassId} {D : va_G} {σ : Nat → Nat} {np b0 : Nat} {g : Nat} {r : Int32} (hE : EOK p s m args meth c cX4_isLivedIn 3 RX4 Y D σ np b0) (hr : meth.sig.returnType = (some .boolean)) (hg : is4 g) : ∀ (n : Nat) (M : Mc) (N : Md) (X1 : Int32) (X2 : Int32), fX4_isLivedIn_L2 g n M X1 X2 = some r → Xw p l e (rmD 2) s m args below meth c 3 Y D σ np b0 0 0 (MQ below (QR Y D σ np b0 (some (.int r)) M N) args s 0 0 (xA b0)) 2 [(0, .ref (σ g)), (1, .int X1), (2, .int X2)] [] M N := by
  intro n
  induction n with
  | zero =>
    intro M N X1 X2 hf
    cases hf
  | succ n ih =>
    intro M N X1 X2 hf
    rw [fX4_isLivedIn_L2.eq_2] at hf
    refine x_iload_n hE 2 dX4_isLivedIn_2 rfl rfl ?_
    refine x_bipush hE (nI 96) dX4_isLivedIn_3 (by decide) ?_
    refine x_icmp_ge hE 34 dX4_isLivedIn_5 (by decide) hf (fun hf => ?_) (fun hf => ?_)
    · refine x_iconst hE (0 : Int32) dX4_isLivedIn_34 (by decide) ?_
      replace hf := Option.some.inj hf
      subst hf
      exact x_ireturn hE (v := 0) hr rfl dX4_isLivedIn_35
    · refine x_iload_n hE 2 dX4_isLivedIn_8 rfl rfl ?_
      obtain ⟨v2, hc1, hf⟩ := bnd_some hf
      refine x_callSN1 hE [.int X2] (rest := []) (v := .int v2) (c1 := M) (d1 := N) rfl yokX11_zoneOf ysX11_zoneOf lk_X4_105 rfl rfl ⟨Nat.le_of_ble_eq_true rfl, Nat.le_of_ble_eq_true rfl⟩ ⟨Nat.zero_le _, Nat.zero_le _⟩ rfl (Nat.le_of_ble_eq_true rfl) dX4_isLivedIn_9 (mX11_zoneOf l hc1) ?_
      refine x_iload_n hE 1 dX4_isLivedIn_12 rfl rfl ?_
      refine x_icmp_ne hE 28 dX4_isLivedIn_13 (by decide) hf (fun hf => ?_) (fun hf => ?_)
      · exact wX4_isLivedIn_J28 hE hr hg (fun _ _ _ _ hf => ih _ _ _ _ hf) hf
      · refine x_aload_n hE 0 dX4_isLivedIn_16 rfl rfl ?_
        refine x_getR hE cl_4 (hE.kd (kO_4 hg)) (by decide) 3 (g + 5) rfl (by decide) lk_X4_21 dX4_isLivedIn_17 ?_
        refine x_iload_n hE 2 dX4_isLivedIn_20 rfl rfl ?_
        refine x_iald hE (hE.kd (kB_4_3 hg)) dX4_isLivedIn_21 hf (fun hf => ?_)
        refine x_iconst hE (-1) dX4_isLivedIn_22 (by decide) ?_
        refine x_icmp_eq hE 28 dX4_isLivedIn_23 (by decide) hf (fun hf => ?_) (fun hf => ?_)
        · exact wX4_isLivedIn_J28 hE hr hg (fun _ _ _ _ hf => ih _ _ _ _ hf) hf
        · refine x_iconst hE (nI 1) dX4_isLivedIn_26 (by decide) ?_
          replace hf := Option.some.inj hf
          subst hf
          exact x_ireturn hE (v := nI 1) hr rfl dX4_isLivedIn_27
theorem mX4_isLivedIn (l : Launch) {Y : Nat → ClassId} {D : va_G} {σ : Nat → Nat} {np b0 : Nat} {M : Mc} {N : Md} {g : Nat} {p0 : Int32} {r : Int32} (hg : is4 g) (hf : fX4_isLivedIn M g p0 = some r) : Met l yX4_isLivedIn (.code yX4_isLivedIn cX4_isLivedIn 3 (some .boolean) :: lw_g) (rmD 2) (PR Y D σ np b0 [.ref (σ g), .int p0] M N) (QR Y D σ np b0 (some (.int r)) M N) 0 0 (xA b0) := by
  refine x_met (by decide) (Nat.le_of_ble_eq_true rfl) (fun p e s m args below meth c hE hr => ?_)
  unfold fX4_isLivedIn at hf
  refine x_pick [0, 1] (L' := [(0, .ref (σ g)), (1, .int p0)]) rfl ?_
  refine x_iconst hE (0 : Int32) dX4_isLivedIn_0 (by decide) ?_
  refine x_istore_n hE (L' := [(2, .int 0), (0, .ref (σ g)), (1, .int p0)]) dX4_isLivedIn_1 rfl (by decide) rfl ?_
  refine x_pick [1, 2, 0] (L' := [(0, .ref (σ g)), (1, .int p0), (2, .int 0)]) rfl ?_
  exact wX4_isLivedIn_L2 hE hr hg FU _ _ _ _ hf
theorem yokX4_isLivedIn : YOK yX4_isLivedIn cX4_isLivedIn 3 1 (some .boolean) := ⟨mem_g 1817 (by decide +kernel) (by decide +kernel), mem_g 134 (by decide +kernel) (by decide +kernel), by decide +kernel, by decide +kernel, by decide +kernel⟩
theorem yvX4_isLivedIn : YV yX4_isLivedIn := ⟨mem_g 1816 (by decide +kernel) (by decide +kernel), mem_g 51 (by decide +kernel) (by decide +kernel)⟩
theorem lk_X4_102 : Cond.methodLink RX4 102 yX4_isLivedIn ∈ lw_g := mem_g 1814 (by decide +kernel) (by decide +kernel)
theorem dX4_seeZones_0 : decode cX4_seeZones 0 = .ok (.iconst 0, 1) := by decide +kernel
theorem dX4_seeZones_1 : decode cX4_seeZones 1 = .ok (.istore_n 1, 1) := by decide +kernel
theorem dX4_seeZones_2 : decode cX4_seeZones 2 = .ok (.iload_n 1, 1) := by decide +kernel
theorem dX4_seeZones_3 : decode cX4_seeZones 3 = .ok (.iconst 4, 1) := by decide +kernel
theorem dX4_seeZones_4 : decode cX4_seeZones 4 = .ok (.if_icmp .ge 42, 3) := by decide +kernel
theorem dX4_seeZones_7 : decode cX4_seeZones 7 = .ok (.aload_n 0, 1) := by decide +kernel
theorem dX4_seeZones_8 : decode cX4_seeZones 8 = .ok (.iload_n 1, 1) := by decide +kernel
theorem dX4_seeZones_9 : decode cX4_seeZones 9 = .ok (.invokevirtual 102, 3) := by decide +kernel
theorem dX4_seeZones_12 : decode cX4_seeZones 12 = .ok (.ifCond .eq 28, 3) := by decide +kernel
theorem dX4_seeZones_15 : decode cX4_seeZones 15 = .ok (.aload_n 0, 1) := by decide +kernel
theorem dX4_seeZones_16 : decode cX4_seeZones 16 = .ok (.getfield 43, 3) := by decide +kernel
theorem dX4_seeZones_19 : decode cX4_seeZones 19 = .ok (.iload_n 1, 1) := by decide +kernel
theorem dX4_seeZones_20 : decode cX4_seeZones 20 = .ok (.dup2, 1) := by decide +kernel
theorem dX4_seeZones_21 : decode cX4_seeZones 21 = .ok (.iaload, 1) := by decide +kernel
theorem dX4_seeZones_22 : decode cX4_seeZones 22 = .ok (.iconst 1, 1) := by decide +kernel
theorem dX4_seeZones_23 : decode cX4_seeZones 23 = .ok (.iadd, 1) := by decide +kernel
theorem dX4_seeZones_24 : decode cX4_seeZones 24 = .ok (.iastore, 1) := by decide +kernel
theorem dX4_seeZones_25 : decode cX4_seeZones 25 = .ok (.aload_n 0, 1) := by decide +kernel
theorem dX4_seeZones_26 : decode cX4_seeZones 26 = .ok (.getfield 46, 3) := by decide +kernel
theorem dX4_seeZones_29 : decode cX4_seeZones 29 = .ok (.iload_n 1, 1) := by decide +kernel
theorem dX4_seeZones_30 : decode cX4_seeZones 30 = .ok (.dup2, 1) := by decide +kernel
theorem dX4_seeZones_31 : decode cX4_seeZones 31 = .ok (.iaload, 1) := by decide +kernel
theorem dX4_seeZones_32 : decode cX4_seeZones 32 = .ok (.aload_n 0, 1) := by decide +kernel
theorem dX4_seeZones_33 : decode cX4_seeZones 33 = .ok (.getfield 40, 3) := by decide +kernel
theorem dX4_seeZones_36 : decode cX4_seeZones 36 = .ok (.iload_n 1, 1) := by decide +kernel
theorem dX4_seeZones_37 : decode cX4_seeZones 37 = .ok (.iaload, 1) := by decide +kernel
theorem dX4_seeZones_38 : decode cX4_seeZones 38 = .ok (.iadd, 1) := by decide +kernel
theorem dX4_seeZones_39 : decode cX4_seeZones 39 = .ok (.iastore, 1) := by decide +kernel
theorem dX4_seeZones_40 : decode cX4_seeZones 40 = .ok (.iinc 1 1, 3) := by decide +kernel
theorem dX4_seeZones_43 : decode cX4_seeZones 43 = .ok (.goto (-41), 3) := by decide +kernel
theorem dX4_seeZones_46 : decode cX4_seeZones 46 = .ok (.return_, 1) := by decide +kernel
theorem wX4_seeZones_J40 {p : Program} {l : Launch} {e : Env} {s : State} {m : MethodId} {args : Array Value} {below : List Frame} {meth : Method} {c : Code} {Y : Nat → ClassId} {D : va_G} {σ : Nat → Nat} {np b0 : Nat} {g : Nat} {r : Mc} {K2 : Mc → Int32 → Option (Mc)} {M : Mc} {N : Md} {X1 : Int32} (hE : EOK p s m args meth c cX4_seeZones 2 RX4 Y D σ np b0) (hr : meth.sig.returnType = none) (hg : is4 g) (hK2 : ∀ (M : Mc) (N : Md) (X1 : Int32), K2 M X1 = some r → Xw p l e (rmD 3) s m args below meth c 2 Y D σ np b0 0 0 (MQ below (QR Y D σ np b0 none r N) args s 0 0 (xA b0)) 2 [(0, .ref (σ g)), (1, .int X1)] [] M N) (hf : fX4_seeZones_J40 g K2 M X1 = some r) : Xw p l e (rmD 3) s m args below meth c 2 Y D σ np b0 0 0 (MQ below (QR Y D σ np b0 none r N) args s 0 0 (xA b0)) 40 [(0, .ref (σ g)), (1, .int X1)] [] M N := by
  unfold fX4_seeZones_J40 at hf
  refine x_iinc hE 1 (X1 + nI 1) (L' := [(1, .int (X1 + nI 1)), (0, .ref (σ g))]) dX4_seeZones_40 rfl rfl (by decide) rfl ?_
  refine x_pick [1, 0] (L' := [(0, .ref (σ g)), (1, .int (X1 + nI 1))]) rfl ?_
  refine x_goto hE 2 dX4_seeZones_43 (by decide) ?_
  exact hK2 _ _ _ hf
theorem wX4_seeZones_L2 {p : Program} {l : Launch} {e : Env} {s : State} {m : MethodId} {args : Array Value} {below : List Frame} {meth : Method} {c : Code} {Y : Nat → ClassId} {D : va_G} {σ : Nat → Nat} {np b0 : Nat} {g : Nat} {r : Mc} (hE : EOK p s m args meth c cX4_seeZones 2 RX4 Y D σ np b0) (hr : meth.sig.returnType = none) (hg : is4 g) : ∀ (n : Nat) (M : Mc) (N : Md) (X1 : Int32), fX4_seeZones_L2 g n M X1 = some r → Xw p l e (rmD 3) s m args below meth c 2 Y D σ np b0 0 0 (MQ below (QR Y D σ np b0 none r N) args s 0 0 (xA b0)) 2 [(0, .ref (σ g)), (1, .int X1)] [] M N := by
  intro n
  induction n with
  | zero =>
    intro M N X1 hf
    cases hf
  | succ n ih =>
    intro M N X1 hf
    rw [fX4_seeZones_L2.eq_2] at hf
    refine x_iload_n hE 1 dX4_seeZones_2 rfl rfl ?_
    refine x_iconst hE (nI 4) dX4_seeZones_3 (by decide) ?_
    refine x_icmp_ge hE 46 dX4_seeZones_4 (by decide) hf (fun hf => ?_) (fun hf => ?_)
    · replace hf := Option.some.inj hf
      subst hf
      exact x_vreturn hE hr dX4_seeZones_46
    · refine x_aload_n hE 0 dX4_seeZones_7 rfl rfl ?_
      refine x_iload_n hE 1 dX4_seeZones_8 rfl rfl ?_
      obtain ⟨v2, hc1, hf⟩ := bnd_some hf
      refine x_callV1 hE [.int X1] (rest := []) (v := .int v2) (c1 := M) (d1 := N) rfl yokX4_isLivedIn yvX4_isLivedIn lk_X4_102 rfl cl_4 (hE.kd (kO_4 hg)) (by decide) rfl rfl ⟨Nat.le_of_ble_eq_true rfl, Nat.le_of_ble_eq_true rfl⟩ ⟨Nat.zero_le _, Nat.zero_le _⟩ rfl (Nat.le_of_ble_eq_true rfl) dX4_seeZones_9 (mX4_isLivedIn l hg hc1) ?_
      refine x_if_eq hE 40 dX4_seeZones_12 (by decide) hf (fun hf => ?_) (fun hf => ?_)
      · exact wX4_seeZones_J40 hE hr hg (fun _ _ _ hf => ih _ _ _ hf) hf
      · refine x_aload_n hE 0 dX4_seeZones_15 rfl rfl ?_
        refine x_getR hE cl_4 (hE.kd (kO_4 hg)) (by decide) 11 (g + 12) rfl (by decide) lk_X4_43 dX4_seeZones_16 ?_
        refine x_iload_n hE 1 dX4_seeZones_19 rfl rfl ?_
        refine x_dup2 hE dX4_seeZones_20 rfl rfl ?_
        refine x_iald hE (hE.kd (kB_4_11 hg)) dX4_seeZones_21 hf (fun hf => ?_)
        refine x_iconst hE (nI 1) dX4_seeZones_22 (by decide) ?_
        refine x_iadd hE dX4_seeZones_23 ?_
        refine x_iast hE (hE.kd (kB_4_11 hg)) dX4_seeZones_24 hf (fun M3 hf => ?_)
        refine x_aload_n hE 0 dX4_seeZones_25 rfl rfl ?_
        refine x_getR hE cl_4 (hE.kd (kO_4 hg)) (by decide) 12 (g + 13) rfl (by decide) lk_X4_46 dX4_seeZones_26 ?_
        refine x_iload_n hE 1 dX4_seeZones_29 rfl rfl ?_
        refine x_dup2 hE dX4_seeZones_30 rfl rfl ?_
        refine x_iald hE (hE.kd (kB_4_12 hg)) dX4_seeZones_31 hf (fun hf => ?_)
        refine x_aload_n hE 0 dX4_seeZones_32 rfl rfl ?_
        refine x_getR hE cl_4 (hE.kd (kO_4 hg)) (by decide) 10 (g + 11) rfl (by decide) lk_X4_40 dX4_seeZones_33 ?_
        refine x_iload_n hE 1 dX4_seeZones_36 rfl rfl ?_
        refine x_iald hE (hE.kd (kB_4_10 hg)) dX4_seeZones_37 hf (fun hf => ?_)
        refine x_iadd hE dX4_seeZones_38 ?_
        refine x_iast hE (hE.kd (kB_4_12 hg)) dX4_seeZones_39 hf (fun M4 hf => ?_)
        exact wX4_seeZones_J40 hE hr hg (fun _ _ _ hf => ih _ _ _ hf) hf
theorem mX4_seeZones (l : Launch) {Y : Nat → ClassId} {D : va_G} {σ : Nat → Nat} {np b0 : Nat} {M : Mc} {N : Md} {g : Nat} {r : Mc} (hg : is4 g) (hf : fX4_seeZones M g = some r) : Met l yX4_seeZones (.code yX4_seeZones cX4_seeZones 2 none :: lw_g) (rmD 3) (PR Y D σ np b0 [.ref (σ g)] M N) (QR Y D σ np b0 none r N) 0 0 (xA b0) := by
  refine x_met (by decide) (Nat.le_of_ble_eq_true rfl) (fun p e s m args below meth c hE hr => ?_)
  unfold fX4_seeZones at hf
  refine x_pick [0] (L' := [(0, .ref (σ g))]) rfl ?_
  refine x_iconst hE (0 : Int32) dX4_seeZones_0 (by decide) ?_
  refine x_istore_n hE (L' := [(1, .int 0), (0, .ref (σ g))]) dX4_seeZones_1 rfl (by decide) rfl ?_
  refine x_pick [1, 0] (L' := [(0, .ref (σ g)), (1, .int 0)]) rfl ?_
  exact wX4_seeZones_L2 hE hr hg FU _ _ _ hf
theorem yokX4_seeZones : YOK yX4_seeZones cX4_seeZones 2 0 none := ⟨mem_g 1813 (by decide +kernel) (by decide +kernel), mem_g 134 (by decide +kernel) (by decide +kernel), by decide +kernel, by decide +kernel, by decide +kernel⟩
theorem yvX4_seeZones : YV yX4_seeZones := ⟨mem_g 1811 (by decide +kernel) (by decide +kernel), mem_g 1812 (by decide +kernel) (by decide +kernel)⟩
theorem dX4_promised_0 : decode cX4_promised 0 = .ok (.iload_n 1, 1) := by decide +kernel
theorem dX4_promised_1 : decode cX4_promised 1 = .ok (.bipush 96, 2) := by decide +kernel
theorem dX4_promised_3 : decode cX4_promised 3 = .ok (.invokestatic 69, 3) := by decide +kernel
theorem dX4_promised_6 : decode cX4_promised 6 = .ok (.ifCond .ne 5, 3) := by decide +kernel
theorem dX4_promised_9 : decode cX4_promised 9 = .ok (.iconst 0, 1) := by decide +kernel
theorem dX4_promised_10 : decode cX4_promised 10 = .ok (.ireturn, 1) := by decide +kernel
theorem dX4_promised_11 : decode cX4_promised 11 = .ok (.iload_n 1, 1) := by decide +kernel
theorem dX4_promised_12 : decode cX4_promised 12 = .ok (.invokestatic 105, 3) := by decide +kernel
theorem dX4_promised_15 : decode cX4_promised 15 = .ok (.istore_n 2, 1) := by decide +kernel
theorem dX4_promised_16 : decode cX4_promised 16 = .ok (.iload_n 2, 1) := by decide +kernel
theorem dX4_promised_17 : decode cX4_promised 17 = .ok (.iconst 4, 1) := by decide +kernel
theorem dX4_promised_18 : decode cX4_promised 18 = .ok (.invokestatic 69, 3) := by decide +kernel
theorem dX4_promised_21 : decode cX4_promised 21 = .ok (.ifCond .eq 12, 3) := by decide +kernel
theorem dX4_promised_24 : decode cX4_promised 24 = .ok (.aload_n 0, 1) := by decide +kernel
theorem dX4_promised_25 : decode cX4_promised 25 = .ok (.getfield 43, 3) := by decide +kernel
theorem dX4_promised_28 : decode cX4_promised 28 = .ok (.iload_n 2, 1) := by decide +kernel
theorem dX4_promised_29 : decode cX4_promised 29 = .ok (.iaload, 1) := by decide +kernel
theorem dX4_promised_30 : decode cX4_promised 30 = .ok (.ifCond .gt 13, 3) := by decide +kernel
theorem dX4_promised_33 : decode cX4_promised 33 = .ok (.bipush 10, 2) := by decide +kernel
theorem dX4_promised_35 : decode cX4_promised 35 = .ok (.aload_n 0, 1) := by decide +kernel
theorem dX4_promised_36 : decode cX4_promised 36 = .ok (.getfield 9, 3) := by decide +kernel
theorem dX4_promised_39 : decode cX4_promised 39 = .ok (.iload_n 1, 1) := by decide +kernel
theorem dX4_promised_40 : decode cX4_promised 40 = .ok (.iaload, 1) := by decide +kernel
theorem dX4_promised_41 : decode cX4_promised 41 = .ok (.imul, 1) := by decide +kernel
theorem dX4_promised_42 : decode cX4_promised 42 = .ok (.ireturn, 1) := by decide +kernel
theorem dX4_promised_43 : decode cX4_promised 43 = .ok (.bipush 10, 2) := by decide +kernel
theorem dX4_promised_45 : decode cX4_promised 45 = .ok (.aload_n 0, 1) := by decide +kernel
theorem dX4_promised_46 : decode cX4_promised 46 = .ok (.getfield 9, 3) := by decide +kernel
theorem dX4_promised_49 : decode cX4_promised 49 = .ok (.iload_n 1, 1) := by decide +kernel
theorem dX4_promised_50 : decode cX4_promised 50 = .ok (.iaload, 1) := by decide +kernel
theorem dX4_promised_51 : decode cX4_promised 51 = .ok (.imul, 1) := by decide +kernel
theorem dX4_promised_52 : decode cX4_promised 52 = .ok (.aload_n 0, 1) := by decide +kernel
theorem dX4_promised_53 : decode cX4_promised 53 = .ok (.getfield 46, 3) := by decide +kernel
theorem dX4_promised_56 : decode cX4_promised 56 = .ok (.iload_n 2, 1) := by decide +kernel
theorem dX4_promised_57 : decode cX4_promised 57 = .ok (.iaload, 1) := by decide +kernel
theorem dX4_promised_58 : decode cX4_promised 58 = .ok (.aload_n 0, 1) := by decide +kernel
theorem dX4_promised_59 : decode cX4_promised 59 = .ok (.getfield 43, 3) := by decide +kernel
theorem dX4_promised_62 : decode cX4_promised 62 = .ok (.iload_n 2, 1) := by decide +kernel
theorem dX4_promised_63 : decode cX4_promised 63 = .ok (.iaload, 1) := by decide +kernel
theorem dX4_promised_64 : decode cX4_promised 64 = .ok (.idiv, 1) := by decide +kernel
theorem dX4_promised_65 : decode cX4_promised 65 = .ok (.bipush 10, 2) := by decide +kernel
theorem dX4_promised_67 : decode cX4_promised 67 = .ok (.idiv, 1) := by decide +kernel
theorem dX4_promised_68 : decode cX4_promised 68 = .ok (.iadd, 1) := by decide +kernel
theorem dX4_promised_69 : decode cX4_promised 69 = .ok (.ireturn, 1) := by decide +kernel
theorem wX4_promised_J33 {p : Program} {l : Launch} {e : Env} {s : State} {m : MethodId} {args : Array Value} {below : List Frame} {meth : Method} {c : Code} {Y : Nat → ClassId} {D : va_G} {σ : Nat → Nat} {np b0 : Nat} {g : Nat} {r : Int32} {M : Mc} {N : Md} {X1 : Int32} (hE : EOK p s m args meth c cX4_promised 3 RX4 Y D σ np b0) (hr : meth.sig.returnType = (some .int)) (hg : is4 g) (hf : fX4_promised_J33 g M X1 = some r) : Xw p l e (rmD 2) s m args below meth c 3 Y D σ np b0 0 0 (MQ below (QR Y D σ np b0 (some (.int r)) M N) args s 0 0 (xA b0)) 33 [(0, .ref (σ g)), (1, .int X1)] [] M N := by
  unfold fX4_promised_J33 at hf
  refine x_bipush hE (nI 10) dX4_promised_33 (by decide) ?_
  refine x_aload_n hE 0 dX4_promised_35 rfl rfl ?_
  refine x_getR hE cl_4 (hE.kd (kO_4 hg)) (by decide) 0 (g + 1) rfl (by decide) lk_X4_9 dX4_promised_36 ?_
  refine x_iload_n hE 1 dX4_promised_39 rfl rfl ?_
  refine x_iald hE (hE.kd (kB_4_0 hg)) dX4_promised_40 hf (fun hf => ?_)
  refine x_imul hE dX4_promised_41 ?_
  replace hf := Option.some.inj hf
  subst hf
  exact x_ireturn hE (v := (nI 10) * (M (g + 1) X1.toNatClampNeg)) hr rfl dX4_promised_42
theorem mX4_promised (l : Launch) {Y : Nat → ClassId} {D : va_G} {σ : Nat → Nat} {np b0 : Nat} {M : Mc} {N : Md} {g : Nat} {p0 : Int32} {r : Int32} (hg : is4 g) (hf : fX4_promised M g p0 = some r) : Met l yX4_promised (.code yX4_promised cX4_promised 3 (some .int) :: lw_g) (rmD 2) (PR Y D σ np b0 [.ref (σ g), .int p0] M N) (QR Y D σ np b0 (some (.int r)) M N) 0 0 (xA b0) := by
  refine x_met (by decide) (Nat.le_of_ble_eq_true rfl) (fun p e s m args below meth c hE hr => ?_)
  unfold fX4_promised at hf
  refine x_pick [0, 1] (L' := [(0, .ref (σ g)), (1, .int p0)]) rfl ?_
  refine x_iload_n hE 1 dX4_promised_0 rfl rfl ?_
  refine x_bipush hE (nI 96) dX4_promised_1 (by decide) ?_
  obtain ⟨v2, hc1, hf⟩ := bnd_some hf
  refine x_callSN1 hE [.int p0, .int (nI 96)] (rest := []) (v := .int v2) (c1 := M) (d1 := N) rfl yokX11_inside ysX11_inside lk_X4_69 rfl rfl ⟨Nat.le_of_ble_eq_true rfl, Nat.le_of_ble_eq_true rfl⟩ ⟨Nat.zero_le _, Nat.zero_le _⟩ rfl (Nat.le_of_ble_eq_true rfl) dX4_promised_3 (mX11_inside l hc1) ?_
  refine x_if_ne hE 11 dX4_promised_6 (by decide) hf (fun hf => ?_) (fun hf => ?_)
  · refine x_iload_n hE 1 dX4_promised_11 rfl rfl ?_
    obtain ⟨v4, hc3, hf⟩ := bnd_some hf
    refine x_callSN1 hE [.int p0] (rest := []) (v := .int v4) (c1 := M) (d1 := N) rfl yokX11_zoneOf ysX11_zoneOf lk_X4_105 rfl rfl ⟨Nat.le_of_ble_eq_true rfl, Nat.le_of_ble_eq_true rfl⟩ ⟨Nat.zero_le _, Nat.zero_le _⟩ rfl (Nat.le_of_ble_eq_true rfl) dX4_promised_12 (mX11_zoneOf l hc3) ?_
    refine x_istore_n hE (L' := [(2, .int v4), (0, .ref (σ g)), (1, .int p0)]) dX4_promised_15 rfl (by decide) rfl ?_
    refine x_pick [1, 2, 0] (L' := [(0, .ref (σ g)), (1, .int p0), (2, .int v4)]) rfl ?_
    refine x_iload_n hE 2 dX4_promised_16 rfl rfl ?_
    refine x_iconst hE (nI 4) dX4_promised_17 (by decide) ?_
    obtain ⟨v6, hc5, hf⟩ := bnd_some hf
    refine x_callSN1 hE [.int v4, .int (nI 4)] (rest := []) (v := .int v6) (c1 := M) (d1 := N) rfl yokX11_inside ysX11_inside lk_X4_69 rfl rfl ⟨Nat.le_of_ble_eq_true rfl, Nat.le_of_ble_eq_true rfl⟩ ⟨Nat.zero_le _, Nat.zero_le _⟩ rfl (Nat.le_of_ble_eq_true rfl) dX4_promised_18 (mX11_inside l hc5) ?_
    refine x_if_eq hE 33 dX4_promised_21 (by decide) hf (fun hf => ?_) (fun hf => ?_)
    · refine x_pick [0, 1] (L' := [(0, .ref (σ g)), (1, .int p0)]) rfl ?_
      exact wX4_promised_J33 hE hr hg hf
    · refine x_aload_n hE 0 dX4_promised_24 rfl rfl ?_
      refine x_getR hE cl_4 (hE.kd (kO_4 hg)) (by decide) 11 (g + 12) rfl (by decide) lk_X4_43 dX4_promised_25 ?_
      refine x_iload_n hE 2 dX4_promised_28 rfl rfl ?_
      refine x_iald hE (hE.kd (kB_4_11 hg)) dX4_promised_29 hf (fun hf => ?_)
      refine x_if_gt hE 43 dX4_promised_30 (by decide) hf (fun hf => ?_) (fun hf => ?_)
      · refine x_bipush hE (nI 10) dX4_promised_43 (by decide) ?_
        refine x_aload_n hE 0 dX4_promised_45 rfl rfl ?_
        refine x_getR hE cl_4 (hE.kd (kO_4 hg)) (by decide) 0 (g + 1) rfl (by decide) lk_X4_9 dX4_promised_46 ?_
        refine x_iload_n hE 1 dX4_promised_49 rfl rfl ?_
        refine x_iald hE (hE.kd (kB_4_0 hg)) dX4_promised_50 hf (fun hf => ?_)
        refine x_imul hE dX4_promised_51 ?_
        refine x_aload_n hE 0 dX4_promised_52 rfl rfl ?_
        refine x_getR hE cl_4 (hE.kd (kO_4 hg)) (by decide) 12 (g + 13) rfl (by decide) lk_X4_46 dX4_promised_53 ?_
        refine x_iload_n hE 2 dX4_promised_56 rfl rfl ?_
        refine x_iald hE (hE.kd (kB_4_12 hg)) dX4_promised_57 hf (fun hf => ?_)
        refine x_aload_n hE 0 dX4_promised_58 rfl rfl ?_
        refine x_getR hE cl_4 (hE.kd (kO_4 hg)) (by decide) 11 (g + 12) rfl (by decide) lk_X4_43 dX4_promised_59 ?_
        refine x_iload_n hE 2 dX4_promised_62 rfl rfl ?_
        refine x_iald hE (hE.kd (kB_4_11 hg)) dX4_promised_63 hf (fun hf => ?_)
        refine x_idiv hE dX4_promised_64 hf (fun hf => ?_)
        refine x_bipush hE (nI 10) dX4_promised_65 (by decide) ?_
        refine x_idivC hE dX4_promised_67 (by decide) ?_
        refine x_iadd hE dX4_promised_68 ?_
        replace hf := Option.some.inj hf
        subst hf
        exact x_ireturn hE (v := ((nI 10) * (M (g + 1) p0.toNatClampNeg)) + (((M (g + 13) v4.toNatClampNeg) / (M (g + 12) v4.toNatClampNeg)) / (nI 10))) hr rfl dX4_promised_69
      · refine x_pick [0, 1] (L' := [(0, .ref (σ g)), (1, .int p0)]) rfl ?_
        exact wX4_promised_J33 hE hr hg hf
  · refine x_iconst hE (0 : Int32) dX4_promised_9 (by decide) ?_
    replace hf := Option.some.inj hf
    subst hf
    exact x_ireturn hE (v := 0) hr rfl dX4_promised_10
theorem yokX4_promised : YOK yX4_promised cX4_promised 3 1 (some .int) := ⟨mem_g 920 (by decide +kernel) (by decide +kernel), mem_g 134 (by decide +kernel) (by decide +kernel), by decide +kernel, by decide +kernel, by decide +kernel⟩
theorem yvX4_promised : YV yX4_promised := ⟨mem_g 918 (by decide +kernel) (by decide +kernel), mem_g 919 (by decide +kernel) (by decide +kernel)⟩
theorem lk_X4_108 : Cond.methodLink RX4 108 yX4_promised ∈ lw_g := mem_g 1746 (by decide +kernel) (by decide +kernel)
theorem dX4_findBestLot_0 : decode cX4_findBestLot 0 = .ok (.iconst (-1), 1) := by decide +kernel
theorem dX4_findBestLot_1 : decode cX4_findBestLot 1 = .ok (.istore_n 1, 1) := by decide +kernel
theorem dX4_findBestLot_2 : decode cX4_findBestLot 2 = .ok (.iconst (-1), 1) := by decide +kernel
theorem dX4_findBestLot_3 : decode cX4_findBestLot 3 = .ok (.istore_n 2, 1) := by decide +kernel
theorem dX4_findBestLot_4 : decode cX4_findBestLot 4 = .ok (.iconst 0, 1) := by decide +kernel
theorem dX4_findBestLot_5 : decode cX4_findBestLot 5 = .ok (.istore_n 3, 1) := by decide +kernel
theorem dX4_findBestLot_6 : decode cX4_findBestLot 6 = .ok (.iload_n 3, 1) := by decide +kernel
theorem dX4_findBestLot_7 : decode cX4_findBestLot 7 = .ok (.bipush 96, 2) := by decide +kernel
theorem dX4_findBestLot_9 : decode cX4_findBestLot 9 = .ok (.if_icmp .ge 36, 3) := by decide +kernel
theorem dX4_findBestLot_12 : decode cX4_findBestLot 12 = .ok (.aload_n 0, 1) := by decide +kernel
theorem dX4_findBestLot_13 : decode cX4_findBestLot 13 = .ok (.getfield 18, 3) := by decide +kernel
theorem dX4_findBestLot_16 : decode cX4_findBestLot 16 = .ok (.iload_n 3, 1) := by decide +kernel
theorem dX4_findBestLot_17 : decode cX4_findBestLot 17 = .ok (.iaload, 1) := by decide +kernel
theorem dX4_findBestLot_18 : decode cX4_findBestLot 18 = .ok (.iconst 1, 1) := by decide +kernel
theorem dX4_findBestLot_19 : decode cX4_findBestLot 19 = .ok (.if_icmp .ne 20, 3) := by decide +kernel
theorem dX4_findBestLot_22 : decode cX4_findBestLot 22 = .ok (.aload_n 0, 1) := by decide +kernel
theorem dX4_findBestLot_23 : decode cX4_findBestLot 23 = .ok (.iload_n 3, 1) := by decide +kernel
theorem dX4_findBestLot_24 : decode cX4_findBestLot 24 = .ok (.invokevirtual 108, 3) := by decide +kernel
theorem dX4_findBestLot_27 : decode cX4_findBestLot 27 = .ok (.iload_n 2, 1) := by decide +kernel
theorem dX4_findBestLot_28 : decode cX4_findBestLot 28 = .ok (.if_icmp .le 11, 3) := by decide +kernel
theorem dX4_findBestLot_31 : decode cX4_findBestLot 31 = .ok (.iload_n 3, 1) := by decide +kernel
theorem dX4_findBestLot_32 : decode cX4_findBestLot 32 = .ok (.istore_n 1, 1) := by decide +kernel
theorem dX4_findBestLot_33 : decode cX4_findBestLot 33 = .ok (.aload_n 0, 1) := by decide +kernel
theorem dX4_findBestLot_34 : decode cX4_findBestLot 34 = .ok (.iload_n 3, 1) := by decide +kernel
theorem dX4_findBestLot_35 : decode cX4_findBestLot 35 = .ok (.invokevirtual 108, 3) := by decide +kernel
theorem dX4_findBestLot_38 : decode cX4_findBestLot 38 = .ok (.istore_n 2, 1) := by decide +kernel
theorem dX4_findBestLot_39 : decode cX4_findBestLot 39 = .ok (.iinc 3 1, 3) := by decide +kernel
theorem dX4_findBestLot_42 : decode cX4_findBestLot 42 = .ok (.goto (-36), 3) := by decide +kernel
theorem dX4_findBestLot_45 : decode cX4_findBestLot 45 = .ok (.iload_n 1, 1) := by decide +kernel
theorem dX4_findBestLot_46 : decode cX4_findBestLot 46 = .ok (.ireturn, 1) := by decide +kernel
theorem wX4_findBestLot_J39 {p : Program} {l : Launch} {e : Env} {s : State} {m : MethodId} {args : Array Value} {below : List Frame} {meth : Method} {c : Code} {Y : Nat → ClassId} {D : va_G} {σ : Nat → Nat} {np b0 : Nat} {g : Nat} {r : Int32} {K6 : Mc → Int32 → Int32 → Int32 → Option (Int32)} {M : Mc} {N : Md} {X1 : Int32} {X2 : Int32} {X3 : Int32} (hE : EOK p s m args meth c cX4_findBestLot 4 RX4 Y D σ np b0) (hr : meth.sig.returnType = (some .int)) (hg : is4 g) (hK6 : ∀ (M : Mc) (N : Md) (X1 : Int32) (X2 : Int32) (X3 : Int32), K6 M X1 X2 X3 = some r → Xw p l e (rmD 3) s m args below meth c 4 Y D σ np b0 0 0 (MQ below (QR Y D σ np b0 (some (.int r)) M N) args s 0 0 (xA b0)) 6 [(0, .ref (σ g)), (1, .int X1), (2, .int X2), (3, .int X3)] [] M N) (hf : fX4_findBestLot_J39 g K6 M X1 X2 X3 = some r) : Xw p l e (rmD 3) s m args below meth c 4 Y D σ np b0 0 0 (MQ below (QR Y D σ np b0 (some (.int r)) M N) args s 0 0 (xA b0)) 39 [(0, .ref (σ g)), (1, .int X1), (2, .int X2), (3, .int X3)] [] M N := by
  unfold fX4_findBestLot_J39 at hf
  refine x_iinc hE 3 (X3 + nI 1) (L' := [(3, .int (X3 + nI 1)), (0, .ref (σ g)), (1, .int X1), (2, .int X2)]) dX4_findBestLot_39 rfl rfl (by decide) rfl ?_
  refine x_pick [1, 2, 3, 0] (L' := [(0, .ref (σ g)), (1, .int X1), (2, .int X2), (3, .int (X3 + nI 1))]) rfl ?_
  refine x_goto hE 6 dX4_findBestLot_42 (by decide) ?_
  exact hK6 _ _ _ _ _ hf
theorem wX4_findBestLot_L6 {p : Program} {l : Launch} {e : Env} {s : State} {m : MethodId} {args : Array Value} {below : List Frame} {meth : Method} {c : Code} {Y : Nat → ClassId} {D : va_G} {σ : Nat → Nat} {np b0 : Nat} {g : Nat} {r : Int32} (hE : EOK p s m args meth c cX4_findBestLot 4 RX4 Y D σ np b0) (hr : meth.sig.returnType = (some .int)) (hg : is4 g) : ∀ (n : Nat) (M : Mc) (N : Md) (X1 : Int32) (X2 : Int32) (X3 : Int32), fX4_findBestLot_L6 g n M X1 X2 X3 = some r → Xw p l e (rmD 3) s m args below meth c 4 Y D σ np b0 0 0 (MQ below (QR Y D σ np b0 (some (.int r)) M N) args s 0 0 (xA b0)) 6 [(0, .ref (σ g)), (1, .int X1), (2, .int X2), (3, .int X3)] [] M N := by
  intro n
  induction n with
  | zero =>
    intro M N X1 X2 X3 hf
    cases hf
  | succ n ih =>
    intro M N X1 X2 X3 hf
    rw [fX4_findBestLot_L6.eq_2] at hf
    refine x_iload_n hE 3 dX4_findBestLot_6 rfl rfl ?_
    refine x_bipush hE (nI 96) dX4_findBestLot_7 (by decide) ?_
    refine x_icmp_ge hE 45 dX4_findBestLot_9 (by decide) hf (fun hf => ?_) (fun hf => ?_)
    · refine x_iload_n hE 1 dX4_findBestLot_45 rfl rfl ?_
      replace hf := Option.some.inj hf
      subst hf
      exact x_ireturn hE (v := X1) hr rfl dX4_findBestLot_46
    · refine x_aload_n hE 0 dX4_findBestLot_12 rfl rfl ?_
      refine x_getR hE cl_4 (hE.kd (kO_4 hg)) (by decide) 2 (g + 4) rfl (by decide) lk_X4_18 dX4_findBestLot_13 ?_
      refine x_iload_n hE 3 dX4_findBestLot_16 rfl rfl ?_
      refine x_iald hE (hE.kd (kB_4_2 hg)) dX4_findBestLot_17 hf (fun hf => ?_)
      refine x_iconst hE (nI 1) dX4_findBestLot_18 (by decide) ?_
      refine x_icmp_ne hE 39 dX4_findBestLot_19 (by decide) hf (fun hf => ?_) (fun hf => ?_)
      · exact wX4_findBestLot_J39 hE hr hg (fun _ _ _ _ _ hf => ih _ _ _ _ _ hf) hf
      · refine x_aload_n hE 0 dX4_findBestLot_22 rfl rfl ?_
        refine x_iload_n hE 3 dX4_findBestLot_23 rfl rfl ?_
        obtain ⟨v2, hc1, hf⟩ := bnd_some hf
        refine x_callV1 hE [.int X3] (rest := []) (v := .int v2) (c1 := M) (d1 := N) rfl yokX4_promised yvX4_promised lk_X4_108 rfl cl_4 (hE.kd (kO_4 hg)) (by decide) rfl rfl ⟨Nat.le_of_ble_eq_true rfl, Nat.le_of_ble_eq_true rfl⟩ ⟨Nat.zero_le _, Nat.zero_le _⟩ rfl (Nat.le_of_ble_eq_true rfl) dX4_findBestLot_24 (mX4_promised l hg hc1) ?_
        refine x_iload_n hE 2 dX4_findBestLot_27 rfl rfl ?_
        refine x_icmp_le hE 39 dX4_findBestLot_28 (by decide) hf (fun hf => ?_) (fun hf => ?_)
        · exact wX4_findBestLot_J39 hE hr hg (fun _ _ _ _ _ hf => ih _ _ _ _ _ hf) hf
        · refine x_iload_n hE 3 dX4_findBestLot_31 rfl rfl ?_
          refine x_istore_n hE (L' := [(1, .int X3), (0, .ref (σ g)), (2, .int X2), (3, .int X3)]) dX4_findBestLot_32 rfl (by decide) rfl ?_
          refine x_pick [1, 0, 2, 3] (L' := [(0, .ref (σ g)), (1, .int X3), (2, .int X2), (3, .int X3)]) rfl ?_
          refine x_aload_n hE 0 dX4_findBestLot_33 rfl rfl ?_
          refine x_iload_n hE 3 dX4_findBestLot_34 rfl rfl ?_
          obtain ⟨v4, hc3, hf⟩ := bnd_some hf
          refine x_callV1 hE [.int X3] (rest := []) (v := .int v4) (c1 := M) (d1 := N) rfl yokX4_promised yvX4_promised lk_X4_108 rfl cl_4 (hE.kd (kO_4 hg)) (by decide) rfl rfl ⟨Nat.le_of_ble_eq_true rfl, Nat.le_of_ble_eq_true rfl⟩ ⟨Nat.zero_le _, Nat.zero_le _⟩ rfl (Nat.le_of_ble_eq_true rfl) dX4_findBestLot_35 (mX4_promised l hg hc3) ?_
          refine x_istore_n hE (L' := [(2, .int v4), (0, .ref (σ g)), (1, .int X3), (3, .int X3)]) dX4_findBestLot_38 rfl (by decide) rfl ?_
          refine x_pick [1, 2, 0, 3] (L' := [(0, .ref (σ g)), (1, .int X3), (2, .int v4), (3, .int X3)]) rfl ?_
          exact wX4_findBestLot_J39 hE hr hg (fun _ _ _ _ _ hf => ih _ _ _ _ _ hf) hf
theorem mX4_findBestLot (l : Launch) {Y : Nat → ClassId} {D : va_G} {σ : Nat → Nat} {np b0 : Nat} {M : Mc} {N : Md} {g : Nat} {r : Int32} (hg : is4 g) (hf : fX4_findBestLot M g = some r) : Met l yX4_findBestLot (.code yX4_findBestLot cX4_findBestLot 4 (some .int) :: lw_g) (rmD 3) (PR Y D σ np b0 [.ref (σ g)] M N) (QR Y D σ np b0 (some (.int r)) M N) 0 0 (xA b0) := by
  refine x_met (by decide) (Nat.le_of_ble_eq_true rfl) (fun p e s m args below meth c hE hr => ?_)
  unfold fX4_findBestLot at hf
  refine x_pick [0] (L' := [(0, .ref (σ g))]) rfl ?_
  refine x_iconst hE (-1) dX4_findBestLot_0 (by decide) ?_
  refine x_istore_n hE (L' := [(1, .int (-1)), (0, .ref (σ g))]) dX4_findBestLot_1 rfl (by decide) rfl ?_
  refine x_pick [1, 0] (L' := [(0, .ref (σ g)), (1, .int (-1))]) rfl ?_
  refine x_iconst hE (-1) dX4_findBestLot_2 (by decide) ?_
  refine x_istore_n hE (L' := [(2, .int (-1)), (0, .ref (σ g)), (1, .int (-1))]) dX4_findBestLot_3 rfl (by decide) rfl ?_
  refine x_pick [1, 2, 0] (L' := [(0, .ref (σ g)), (1, .int (-1)), (2, .int (-1))]) rfl ?_
  refine x_iconst hE (0 : Int32) dX4_findBestLot_4 (by decide) ?_
  refine x_istore_n hE (L' := [(3, .int 0), (0, .ref (σ g)), (1, .int (-1)), (2, .int (-1))]) dX4_findBestLot_5 rfl (by decide) rfl ?_
  refine x_pick [1, 2, 3, 0] (L' := [(0, .ref (σ g)), (1, .int (-1)), (2, .int (-1)), (3, .int 0)]) rfl ?_
  exact wX4_findBestLot_L6 hE hr hg FU _ _ _ _ _ hf
theorem yokX4_findBestLot : YOK yX4_findBestLot cX4_findBestLot 4 0 (some .int) := ⟨mem_g 1745 (by decide +kernel) (by decide +kernel), mem_g 134 (by decide +kernel) (by decide +kernel), by decide +kernel, by decide +kernel, by decide +kernel⟩
theorem yvX4_findBestLot : YV yX4_findBestLot := ⟨mem_g 1743 (by decide +kernel) (by decide +kernel), mem_g 1744 (by decide +kernel) (by decide +kernel)⟩
theorem dX4_band_0 : decode cX4_band 0 = .ok (.iload_n 1, 1) := by decide +kernel
theorem dX4_band_1 : decode cX4_band 1 = .ok (.iconst 4, 1) := by decide +kernel
theorem dX4_band_2 : decode cX4_band 2 = .ok (.invokestatic 69, 3) := by decide +kernel
theorem dX4_band_5 : decode cX4_band 5 = .ok (.ifCond .eq 15, 3) := by decide +kernel
theorem dX4_band_8 : decode cX4_band 8 = .ok (.aload_n 0, 1) := by decide +kernel
theorem dX4_band_9 : decode cX4_band 9 = .ok (.getfield 40, 3) := by decide +kernel
theorem dX4_band_12 : decode cX4_band 12 = .ok (.iload_n 1, 1) := by decide +kernel
theorem dX4_band_13 : decode cX4_band 13 = .ok (.iaload, 1) := by decide +kernel
theorem dX4_band_14 : decode cX4_band 14 = .ok (.sipush 300, 3) := by decide +kernel
theorem dX4_band_17 : decode cX4_band 17 = .ok (.if_icmp .ge 5, 3) := by decide +kernel
theorem dX4_band_20 : decode cX4_band 20 = .ok (.iconst 0, 1) := by decide +kernel
theorem dX4_band_21 : decode cX4_band 21 = .ok (.ireturn, 1) := by decide +kernel
theorem dX4_band_22 : decode cX4_band 22 = .ok (.aload_n 0, 1) := by decide +kernel
theorem dX4_band_23 : decode cX4_band 23 = .ok (.getfield 40, 3) := by decide +kernel
theorem dX4_band_26 : decode cX4_band 26 = .ok (.iload_n 1, 1) := by decide +kernel
theorem dX4_band_27 : decode cX4_band 27 = .ok (.iaload, 1) := by decide +kernel
theorem dX4_band_28 : decode cX4_band 28 = .ok (.sipush 600, 3) := by decide +kernel
theorem dX4_band_31 : decode cX4_band 31 = .ok (.if_icmp .ge 5, 3) := by decide +kernel
theorem dX4_band_34 : decode cX4_band 34 = .ok (.iconst 1, 1) := by decide +kernel
theorem dX4_band_35 : decode cX4_band 35 = .ok (.ireturn, 1) := by decide +kernel
theorem dX4_band_36 : decode cX4_band 36 = .ok (.aload_n 0, 1) := by decide +kernel
theorem dX4_band_37 : decode cX4_band 37 = .ok (.getfield 40, 3) := by decide +kernel
theorem dX4_band_40 : decode cX4_band 40 = .ok (.iload_n 1, 1) := by decide +kernel
theorem dX4_band_41 : decode cX4_band 41 = .ok (.iaload, 1) := by decide +kernel
theorem dX4_band_42 : decode cX4_band 42 = .ok (.sipush 900, 3) := by decide +kernel
theorem dX4_band_45 : decode cX4_band 45 = .ok (.if_icmp .ge 5, 3) := by decide +kernel
theorem dX4_band_48 : decode cX4_band 48 = .ok (.iconst 2, 1) := by decide +kernel
theorem dX4_band_49 : decode cX4_band 49 = .ok (.ireturn, 1) := by decide +kernel
theorem dX4_band_50 : decode cX4_band 50 = .ok (.aload_n 0, 1) := by decide +kernel
theorem dX4_band_51 : decode cX4_band 51 = .ok (.getfield 40, 3) := by decide +kernel
theorem dX4_band_54 : decode cX4_band 54 = .ok (.iload_n 1, 1) := by decide +kernel
theorem dX4_band_55 : decode cX4_band 55 = .ok (.iaload, 1) := by decide +kernel
theorem dX4_band_56 : decode cX4_band 56 = .ok (.sipush 1500, 3) := by decide +kernel
theorem dX4_band_59 : decode cX4_band 59 = .ok (.if_icmp .ge 7, 3) := by decide +kernel
theorem dX4_band_62 : decode cX4_band 62 = .ok (.iconst 3, 1) := by decide +kernel
theorem dX4_band_63 : decode cX4_band 63 = .ok (.goto 4, 3) := by decide +kernel
theorem dX4_band_66 : decode cX4_band 66 = .ok (.iconst 1, 1) := by decide +kernel
theorem dX4_band_67 : decode cX4_band 67 = .ok (.ireturn, 1) := by decide +kernel
theorem mX4_band (l : Launch) {Y : Nat → ClassId} {D : va_G} {σ : Nat → Nat} {np b0 : Nat} {M : Mc} {N : Md} {g : Nat} {p0 : Int32} {r : Int32} (hg : is4 g) (hf : fX4_band M g p0 = some r) : Met l yX4_band (.code yX4_band cX4_band 2 (some .int) :: lw_g) (rmD 2) (PR Y D σ np b0 [.ref (σ g), .int p0] M N) (QR Y D σ np b0 (some (.int r)) M N) 0 0 (xA b0) := by
  refine x_met (by decide) (Nat.le_of_ble_eq_true rfl) (fun p e s m args below meth c hE hr => ?_)
  unfold fX4_band at hf
  refine x_pick [0, 1] (L' := [(0, .ref (σ g)), (1, .int p0)]) rfl ?_
  refine x_iload_n hE 1 dX4_band_0 rfl rfl ?_
  refine x_iconst hE (nI 4) dX4_band_1 (by decide) ?_
  obtain ⟨v2, hc1, hf⟩ := bnd_some hf
  refine x_callSN1 hE [.int p0, .int (nI 4)] (rest := []) (v := .int v2) (c1 := M) (d1 := N) rfl yokX11_inside ysX11_inside lk_X4_69 rfl rfl ⟨Nat.le_of_ble_eq_true rfl, Nat.le_of_ble_eq_true rfl⟩ ⟨Nat.zero_le _, Nat.zero_le _⟩ rfl (Nat.le_of_ble_eq_true rfl) dX4_band_2 (mX11_inside l hc1) ?_
  refine x_if_eq hE 20 dX4_band_5 (by decide) hf (fun hf => ?_) (fun hf => ?_)
  · refine x_iconst hE (0 : Int32) dX4_band_20 (by decide) ?_
    replace hf := Option.some.inj hf
    subst hf
    exact x_ireturn hE (v := 0) hr rfl dX4_band_21
  · refine x_aload_n hE 0 dX4_band_8 rfl rfl ?_
    refine x_getR hE cl_4 (hE.kd (kO_4 hg)) (by decide) 10 (g + 11) rfl (by decide) lk_X4_40 dX4_band_9 ?_
    refine x_iload_n hE 1 dX4_band_12 rfl rfl ?_
    refine x_iald hE (hE.kd (kB_4_10 hg)) dX4_band_13 hf (fun hf => ?_)
    refine x_sipush hE (nI 300) dX4_band_14 (by decide) ?_
    refine x_icmp_ge hE 22 dX4_band_17 (by decide) hf (fun hf => ?_) (fun hf => ?_)
    · refine x_aload_n hE 0 dX4_band_22 rfl rfl ?_
      refine x_getR hE cl_4 (hE.kd (kO_4 hg)) (by decide) 10 (g + 11) rfl (by decide) lk_X4_40 dX4_band_23 ?_
      refine x_iload_n hE 1 dX4_band_26 rfl rfl ?_
      refine x_iald hE (hE.kd (kB_4_10 hg)) dX4_band_27 hf (fun hf => ?_)
      refine x_sipush hE (nI 600) dX4_band_28 (by decide) ?_
      refine x_icmp_ge hE 36 dX4_band_31 (by decide) hf (fun hf => ?_) (fun hf => ?_)
      · refine x_aload_n hE 0 dX4_band_36 rfl rfl ?_
        refine x_getR hE cl_4 (hE.kd (kO_4 hg)) (by decide) 10 (g + 11) rfl (by decide) lk_X4_40 dX4_band_37 ?_
        refine x_iload_n hE 1 dX4_band_40 rfl rfl ?_
        refine x_iald hE (hE.kd (kB_4_10 hg)) dX4_band_41 hf (fun hf => ?_)
        refine x_sipush hE (nI 900) dX4_band_42 (by decide) ?_
        refine x_icmp_ge hE 50 dX4_band_45 (by decide) hf (fun hf => ?_) (fun hf => ?_)
        · refine x_aload_n hE 0 dX4_band_50 rfl rfl ?_
          refine x_getR hE cl_4 (hE.kd (kO_4 hg)) (by decide) 10 (g + 11) rfl (by decide) lk_X4_40 dX4_band_51 ?_
          refine x_iload_n hE 1 dX4_band_54 rfl rfl ?_
          refine x_iald hE (hE.kd (kB_4_10 hg)) dX4_band_55 hf (fun hf => ?_)
          refine x_sipush hE (nI 1500) dX4_band_56 (by decide) ?_
          refine x_icmp_ge hE 66 dX4_band_59 (by decide) hf (fun hf => ?_) (fun hf => ?_)
          · refine x_iconst hE (nI 1) dX4_band_66 (by decide) ?_
            replace hf := Option.some.inj hf
            subst hf
            exact x_ireturn hE (v := nI 1) hr rfl dX4_band_67
          · refine x_iconst hE (nI 3) dX4_band_62 (by decide) ?_
            refine x_goto hE 67 dX4_band_63 (by decide) ?_
            replace hf := Option.some.inj hf
            subst hf
            exact x_ireturn hE (v := nI 3) hr rfl dX4_band_67
        · refine x_iconst hE (nI 2) dX4_band_48 (by decide) ?_
          replace hf := Option.some.inj hf
          subst hf
          exact x_ireturn hE (v := nI 2) hr rfl dX4_band_49
      · refine x_iconst hE (nI 1) dX4_band_34 (by decide) ?_
        replace hf := Option.some.inj hf
        subst hf
        exact x_ireturn hE (v := nI 1) hr rfl dX4_band_35
    · refine x_iconst hE (0 : Int32) dX4_band_20 (by decide) ?_
      replace hf := Option.some.inj hf
      subst hf
      exact x_ireturn hE (v := 0) hr rfl dX4_band_21
theorem yokX4_band : YOK yX4_band cX4_band 2 1 (some .int) := ⟨mem_g 1827 (by decide +kernel) (by decide +kernel), mem_g 134 (by decide +kernel) (by decide +kernel), by decide +kernel, by decide +kernel, by decide +kernel⟩
theorem yvX4_band : YV yX4_band := ⟨mem_g 1825 (by decide +kernel) (by decide +kernel), mem_g 1826 (by decide +kernel) (by decide +kernel)⟩
theorem lk_X4_49 : Cond.methodLink RX4 49 yJ7_fill_53178 ∈ lw_g := mem_g 198 (by decide +kernel) (by decide +kernel)
theorem dX4_newYear_0 : decode cX4_newYear 0 = .ok (.aload_n 0, 1) := by decide +kernel
theorem dX4_newYear_1 : decode cX4_newYear 1 = .ok (.getfield 40, 3) := by decide +kernel
theorem dX4_newYear_4 : decode cX4_newYear 4 = .ok (.iconst 0, 1) := by decide +kernel
theorem dX4_newYear_5 : decode cX4_newYear 5 = .ok (.invokestatic 49, 3) := by decide +kernel
theorem dX4_newYear_8 : decode cX4_newYear 8 = .ok (.return_, 1) := by decide +kernel
theorem mX4_newYear (l : Launch) {Y : Nat → ClassId} {D : va_G} {σ : Nat → Nat} {np b0 : Nat} {M : Mc} {N : Md} {g : Nat} {r : Mc} (hg : is4 g) (hf : fX4_newYear M g = some r) : Met l yX4_newYear (.code yX4_newYear cX4_newYear 1 none :: lw_g) (rmD 2) (PR Y D σ np b0 [.ref (σ g)] M N) (QR Y D σ np b0 none r N) 0 0 (xA b0) := by
  refine x_met (by decide) (Nat.le_of_ble_eq_true rfl) (fun p e s m args below meth c hE hr => ?_)
  unfold fX4_newYear at hf
  refine x_pick [0] (L' := [(0, .ref (σ g))]) rfl ?_
  refine x_aload_n hE 0 dX4_newYear_0 rfl rfl ?_
  refine x_getR hE cl_4 (hE.kd (kO_4 hg)) (by decide) 10 (g + 11) rfl (by decide) lk_X4_40 dX4_newYear_1 ?_
  refine x_iconst hE (0 : Int32) dX4_newYear_4 (by decide) ?_
  obtain ⟨M2, hc1, hf⟩ := bnd_some hf
  refine x_callS0 hE [.ref (σ (g + 11)), .int 0] (rest := []) (c1 := M2) (d1 := N) rfl yokJ7_fill_53178 ysJ7_fill_53178 lk_X4_49 rfl rfl ⟨Nat.le_of_ble_eq_true rfl, Nat.le_of_ble_eq_true rfl⟩ ⟨Nat.zero_le _, Nat.zero_le _⟩ rfl (Nat.le_of_ble_eq_true rfl) dX4_newYear_5 (mJ7_fill_53178 l (kB_4_10 hg) hc1) ?_
  replace hf := Option.some.inj hf
  subst hf
  exact x_vreturn hE hr dX4_newYear_8
theorem yokX4_newYear : YOK yX4_newYear cX4_newYear 1 0 none := ⟨mem_g 1840 (by decide +kernel) (by decide +kernel), mem_g 134 (by decide +kernel) (by decide +kernel), by decide +kernel, by decide +kernel, by decide +kernel⟩
theorem yvX4_newYear : YV yX4_newYear := ⟨mem_g 1838 (by decide +kernel) (by decide +kernel), mem_g 1839 (by decide +kernel) (by decide +kernel)⟩
