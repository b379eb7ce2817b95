theorem lk_X3_46 : Cond.fieldLink RX3 46 (TX3 0).1 (TX3 0).2.1 (TX3 0).2.2.1 ∈ lw_g := mem_g 251 (by decide +kernel) (by decide +kernel)
theorem lk_X3_50 : Cond.fieldLink RX3 50 (TX3 1).1 (TX3 1).2.1 (TX3 1).2.2.1 ∈ lw_g := mem_g 255 (by decide +kernel) (by decide +kernel)
theorem lk_X3_53 : Cond.fieldLink RX3 53 (TX3 2).1 (TX3 2).2.1 (TX3 2).2.2.1 ∈ lw_g := mem_g 259 (by decide +kernel) (by decide +kernel)
theorem lk_X3_56 : Cond.fieldLink RX3 56 (TX3 3).1 (TX3 3).2.1 (TX3 3).2.2.1 ∈ lw_g := mem_g 262 (by decide +kernel) (by decide +kernel)
theorem lk_X3_9 : Cond.fieldLink RX3 9 (TX3 4).1 (TX3 4).2.1 (TX3 4).2.2.1 ∈ lw_g := mem_g 264 (by decide +kernel) (by decide +kernel)
theorem lk_X3_59 : Cond.methodLink RX3 59 arraycopyName ∈ lw_g := mem_g 1048 (by decide +kernel) (by decide +kernel)
theorem lk_X3_15 : Cond.fieldLink RX3 15 (TX3 5).1 (TX3 5).2.1 (TX3 5).2.2.1 ∈ lw_g := mem_g 265 (by decide +kernel) (by decide +kernel)
theorem lk_X3_18 : Cond.fieldLink RX3 18 (TX3 6).1 (TX3 6).2.1 (TX3 6).2.2.1 ∈ lw_g := mem_g 266 (by decide +kernel) (by decide +kernel)
theorem lk_X3_21 : Cond.fieldLink RX3 21 (TX3 7).1 (TX3 7).2.1 (TX3 7).2.2.1 ∈ lw_g := mem_g 267 (by decide +kernel) (by decide +kernel)
theorem lk_X3_24 : Cond.fieldLink RX3 24 (TX3 8).1 (TX3 8).2.1 (TX3 8).2.2.1 ∈ lw_g := mem_g 268 (by decide +kernel) (by decide +kernel)
theorem lk_X3_27 : Cond.fieldLink RX3 27 (TX3 9).1 (TX3 9).2.1 (TX3 9).2.2.1 ∈ lw_g := mem_g 269 (by decide +kernel) (by decide +kernel)
theorem lk_X3_30 : Cond.fieldLink RX3 30 (TX3 10).1 (TX3 10).2.1 (TX3 10).2.2.1 ∈ lw_g := mem_g 270 (by decide +kernel) (by decide +kernel)
theorem lk_X3_33 : Cond.fieldLink RX3 33 (TX3 11).1 (TX3 11).2.1 (TX3 11).2.2.1 ∈ lw_g := mem_g 271 (by decide +kernel) (by decide +kernel)
theorem lk_X3_40 : Cond.fieldLink RX3 40 (TX3 13).1 (TX3 13).2.1 (TX3 13).2.2.1 ∈ lw_g := mem_g 273 (by decide +kernel) (by decide +kernel)
theorem lk_X3_43 : Cond.fieldLink RX3 43 (TX3 14).1 (TX3 14).2.1 (TX3 14).2.2.1 ∈ lw_g := mem_g 274 (by decide +kernel) (by decide +kernel)
theorem lk_X3_36 : Cond.fieldLink RX3 36 (TX3 12).1 (TX3 12).2.1 (TX3 12).2.2.1 ∈ lw_g := mem_g 272 (by decide +kernel) (by decide +kernel)
theorem dX3_copyFrom_0 : decode cX3_copyFrom 0 = .ok (.aload_n 1, 1) := by decide +kernel
theorem dX3_copyFrom_1 : decode cX3_copyFrom 1 = .ok (.ifnonnull 4, 3) := by decide +kernel
theorem dX3_copyFrom_4 : decode cX3_copyFrom 4 = .ok (.return_, 1) := by decide +kernel
theorem dX3_copyFrom_5 : decode cX3_copyFrom 5 = .ok (.aload_n 0, 1) := by decide +kernel
theorem dX3_copyFrom_6 : decode cX3_copyFrom 6 = .ok (.aload_n 1, 1) := by decide +kernel
theorem dX3_copyFrom_7 : decode cX3_copyFrom 7 = .ok (.getfield 46, 3) := by decide +kernel
theorem dX3_copyFrom_10 : decode cX3_copyFrom 10 = .ok (.putfield 46, 3) := by decide +kernel
theorem dX3_copyFrom_13 : decode cX3_copyFrom 13 = .ok (.aload_n 0, 1) := by decide +kernel
theorem dX3_copyFrom_14 : decode cX3_copyFrom 14 = .ok (.aload_n 1, 1) := by decide +kernel
theorem dX3_copyFrom_15 : decode cX3_copyFrom 15 = .ok (.getfield 50, 3) := by decide +kernel
theorem dX3_copyFrom_18 : decode cX3_copyFrom 18 = .ok (.putfield 50, 3) := by decide +kernel
theorem dX3_copyFrom_21 : decode cX3_copyFrom 21 = .ok (.aload_n 0, 1) := by decide +kernel
theorem dX3_copyFrom_22 : decode cX3_copyFrom 22 = .ok (.aload_n 1, 1) := by decide +kernel
theorem dX3_copyFrom_23 : decode cX3_copyFrom 23 = .ok (.getfield 53, 3) := by decide +kernel
theorem dX3_copyFrom_26 : decode cX3_copyFrom 26 = .ok (.putfield 53, 3) := by decide +kernel
theorem dX3_copyFrom_29 : decode cX3_copyFrom 29 = .ok (.aload_n 0, 1) := by decide +kernel
theorem dX3_copyFrom_30 : decode cX3_copyFrom 30 = .ok (.aload_n 1, 1) := by decide +kernel
theorem dX3_copyFrom_31 : decode cX3_copyFrom 31 = .ok (.getfield 56, 3) := by decide +kernel
theorem dX3_copyFrom_34 : decode cX3_copyFrom 34 = .ok (.putfield 56, 3) := by decide +kernel
theorem dX3_copyFrom_37 : decode cX3_copyFrom 37 = .ok (.aload_n 1, 1) := by decide +kernel
theorem dX3_copyFrom_38 : decode cX3_copyFrom 38 = .ok (.getfield 9, 3) := by decide +kernel
theorem dX3_copyFrom_41 : decode cX3_copyFrom 41 = .ok (.iconst 0, 1) := by decide +kernel
theorem dX3_copyFrom_42 : decode cX3_copyFrom 42 = .ok (.aload_n 0, 1) := by decide +kernel
theorem dX3_copyFrom_43 : decode cX3_copyFrom 43 = .ok (.getfield 9, 3) := by decide +kernel
theorem dX3_copyFrom_46 : decode cX3_copyFrom 46 = .ok (.iconst 0, 1) := by decide +kernel
theorem dX3_copyFrom_47 : decode cX3_copyFrom 47 = .ok (.bipush 100, 2) := by decide +kernel
theorem dX3_copyFrom_49 : decode cX3_copyFrom 49 = .ok (.invokestatic 59, 3) := by decide +kernel
theorem dX3_copyFrom_52 : decode cX3_copyFrom 52 = .ok (.aload_n 1, 1) := by decide +kernel
theorem dX3_copyFrom_53 : decode cX3_copyFrom 53 = .ok (.getfield 15, 3) := by decide +kernel
theorem dX3_copyFrom_56 : decode cX3_copyFrom 56 = .ok (.iconst 0, 1) := by decide +kernel
theorem dX3_copyFrom_57 : decode cX3_copyFrom 57 = .ok (.aload_n 0, 1) := by decide +kernel
theorem dX3_copyFrom_58 : decode cX3_copyFrom 58 = .ok (.getfield 15, 3) := by decide +kernel
theorem dX3_copyFrom_61 : decode cX3_copyFrom 61 = .ok (.iconst 0, 1) := by decide +kernel
theorem dX3_copyFrom_62 : decode cX3_copyFrom 62 = .ok (.bipush 100, 2) := by decide +kernel
theorem dX3_copyFrom_64 : decode cX3_copyFrom 64 = .ok (.invokestatic 59, 3) := by decide +kernel
theorem dX3_copyFrom_67 : decode cX3_copyFrom 67 = .ok (.aload_n 1, 1) := by decide +kernel
theorem dX3_copyFrom_68 : decode cX3_copyFrom 68 = .ok (.getfield 18, 3) := by decide +kernel
theorem dX3_copyFrom_71 : decode cX3_copyFrom 71 = .ok (.iconst 0, 1) := by decide +kernel
theorem dX3_copyFrom_72 : decode cX3_copyFrom 72 = .ok (.aload_n 0, 1) := by decide +kernel
theorem dX3_copyFrom_73 : decode cX3_copyFrom 73 = .ok (.getfield 18, 3) := by decide +kernel
theorem dX3_copyFrom_76 : decode cX3_copyFrom 76 = .ok (.iconst 0, 1) := by decide +kernel
theorem dX3_copyFrom_77 : decode cX3_copyFrom 77 = .ok (.bipush 100, 2) := by decide +kernel
theorem dX3_copyFrom_79 : decode cX3_copyFrom 79 = .ok (.invokestatic 59, 3) := by decide +kernel
theorem dX3_copyFrom_82 : decode cX3_copyFrom 82 = .ok (.aload_n 1, 1) := by decide +kernel
theorem dX3_copyFrom_83 : decode cX3_copyFrom 83 = .ok (.getfield 21, 3) := by decide +kernel
theorem dX3_copyFrom_86 : decode cX3_copyFrom 86 = .ok (.iconst 0, 1) := by decide +kernel
theorem dX3_copyFrom_87 : decode cX3_copyFrom 87 = .ok (.aload_n 0, 1) := by decide +kernel
theorem dX3_copyFrom_88 : decode cX3_copyFrom 88 = .ok (.getfield 21, 3) := by decide +kernel
theorem dX3_copyFrom_91 : decode cX3_copyFrom 91 = .ok (.iconst 0, 1) := by decide +kernel
theorem dX3_copyFrom_92 : decode cX3_copyFrom 92 = .ok (.bipush 100, 2) := by decide +kernel
theorem dX3_copyFrom_94 : decode cX3_copyFrom 94 = .ok (.invokestatic 59, 3) := by decide +kernel
theorem dX3_copyFrom_97 : decode cX3_copyFrom 97 = .ok (.aload_n 1, 1) := by decide +kernel
theorem dX3_copyFrom_98 : decode cX3_copyFrom 98 = .ok (.getfield 24, 3) := by decide +kernel
theorem dX3_copyFrom_101 : decode cX3_copyFrom 101 = .ok (.iconst 0, 1) := by decide +kernel
theorem dX3_copyFrom_102 : decode cX3_copyFrom 102 = .ok (.aload_n 0, 1) := by decide +kernel
theorem dX3_copyFrom_103 : decode cX3_copyFrom 103 = .ok (.getfield 24, 3) := by decide +kernel
theorem dX3_copyFrom_106 : decode cX3_copyFrom 106 = .ok (.iconst 0, 1) := by decide +kernel
theorem dX3_copyFrom_107 : decode cX3_copyFrom 107 = .ok (.bipush 100, 2) := by decide +kernel
theorem dX3_copyFrom_109 : decode cX3_copyFrom 109 = .ok (.invokestatic 59, 3) := by decide +kernel
theorem dX3_copyFrom_112 : decode cX3_copyFrom 112 = .ok (.aload_n 1, 1) := by decide +kernel
theorem dX3_copyFrom_113 : decode cX3_copyFrom 113 = .ok (.getfield 27, 3) := by decide +kernel
theorem dX3_copyFrom_116 : decode cX3_copyFrom 116 = .ok (.iconst 0, 1) := by decide +kernel
theorem dX3_copyFrom_117 : decode cX3_copyFrom 117 = .ok (.aload_n 0, 1) := by decide +kernel
theorem dX3_copyFrom_118 : decode cX3_copyFrom 118 = .ok (.getfield 27, 3) := by decide +kernel
theorem dX3_copyFrom_121 : decode cX3_copyFrom 121 = .ok (.iconst 0, 1) := by decide +kernel
theorem dX3_copyFrom_122 : decode cX3_copyFrom 122 = .ok (.bipush 100, 2) := by decide +kernel
theorem dX3_copyFrom_124 : decode cX3_copyFrom 124 = .ok (.invokestatic 59, 3) := by decide +kernel
theorem dX3_copyFrom_127 : decode cX3_copyFrom 127 = .ok (.aload_n 1, 1) := by decide +kernel
theorem dX3_copyFrom_128 : decode cX3_copyFrom 128 = .ok (.getfield 30, 3) := by decide +kernel
theorem dX3_copyFrom_131 : decode cX3_copyFrom 131 = .ok (.iconst 0, 1) := by decide +kernel
theorem dX3_copyFrom_132 : decode cX3_copyFrom 132 = .ok (.aload_n 0, 1) := by decide +kernel
theorem dX3_copyFrom_133 : decode cX3_copyFrom 133 = .ok (.getfield 30, 3) := by decide +kernel
theorem dX3_copyFrom_136 : decode cX3_copyFrom 136 = .ok (.iconst 0, 1) := by decide +kernel
theorem dX3_copyFrom_137 : decode cX3_copyFrom 137 = .ok (.bipush 100, 2) := by decide +kernel
theorem dX3_copyFrom_139 : decode cX3_copyFrom 139 = .ok (.invokestatic 59, 3) := by decide +kernel
theorem dX3_copyFrom_142 : decode cX3_copyFrom 142 = .ok (.aload_n 1, 1) := by decide +kernel
theorem dX3_copyFrom_143 : decode cX3_copyFrom 143 = .ok (.getfield 33, 3) := by decide +kernel
theorem dX3_copyFrom_146 : decode cX3_copyFrom 146 = .ok (.iconst 0, 1) := by decide +kernel
theorem dX3_copyFrom_147 : decode cX3_copyFrom 147 = .ok (.aload_n 0, 1) := by decide +kernel
theorem dX3_copyFrom_148 : decode cX3_copyFrom 148 = .ok (.getfield 33, 3) := by decide +kernel
theorem dX3_copyFrom_151 : decode cX3_copyFrom 151 = .ok (.iconst 0, 1) := by decide +kernel
theorem dX3_copyFrom_152 : decode cX3_copyFrom 152 = .ok (.bipush 100, 2) := by decide +kernel
theorem dX3_copyFrom_154 : decode cX3_copyFrom 154 = .ok (.invokestatic 59, 3) := by decide +kernel
theorem dX3_copyFrom_157 : decode cX3_copyFrom 157 = .ok (.iconst 0, 1) := by decide +kernel
theorem dX3_copyFrom_158 : decode cX3_copyFrom 158 = .ok (.istore_n 2, 1) := by decide +kernel
theorem dX3_copyFrom_159 : decode cX3_copyFrom 159 = .ok (.iload_n 2, 1) := by decide +kernel
theorem dX3_copyFrom_160 : decode cX3_copyFrom 160 = .ok (.bipush 100, 2) := by decide +kernel
theorem dX3_copyFrom_162 : decode cX3_copyFrom 162 = .ok (.if_icmp .ge 21, 3) := by decide +kernel
theorem dX3_copyFrom_165 : decode cX3_copyFrom 165 = .ok (.aload_n 0, 1) := by decide +kernel
theorem dX3_copyFrom_166 : decode cX3_copyFrom 166 = .ok (.getfield 36, 3) := by decide +kernel
theorem dX3_copyFrom_169 : decode cX3_copyFrom 169 = .ok (.iload_n 2, 1) := by decide +kernel
theorem dX3_copyFrom_170 : decode cX3_copyFrom 170 = .ok (.aload_n 1, 1) := by decide +kernel
theorem dX3_copyFrom_171 : decode cX3_copyFrom 171 = .ok (.getfield 36, 3) := by decide +kernel
theorem dX3_copyFrom_174 : decode cX3_copyFrom 174 = .ok (.iload_n 2, 1) := by decide +kernel
theorem dX3_copyFrom_175 : decode cX3_copyFrom 175 = .ok (.baload, 1) := by decide +kernel
theorem dX3_copyFrom_176 : decode cX3_copyFrom 176 = .ok (.bastore, 1) := by decide +kernel
theorem dX3_copyFrom_177 : decode cX3_copyFrom 177 = .ok (.iinc 2 1, 3) := by decide +kernel
theorem dX3_copyFrom_180 : decode cX3_copyFrom 180 = .ok (.goto (-21), 3) := by decide +kernel
theorem dX3_copyFrom_183 : decode cX3_copyFrom 183 = .ok (.aload_n 1, 1) := by decide +kernel
theorem dX3_copyFrom_184 : decode cX3_copyFrom 184 = .ok (.getfield 40, 3) := by decide +kernel
theorem dX3_copyFrom_187 : decode cX3_copyFrom 187 = .ok (.iconst 0, 1) := by decide +kernel
theorem dX3_copyFrom_188 : decode cX3_copyFrom 188 = .ok (.aload_n 0, 1) := by decide +kernel
theorem dX3_copyFrom_189 : decode cX3_copyFrom 189 = .ok (.getfield 40, 3) := by decide +kernel
theorem dX3_copyFrom_192 : decode cX3_copyFrom 192 = .ok (.iconst 0, 1) := by decide +kernel
theorem dX3_copyFrom_193 : decode cX3_copyFrom 193 = .ok (.bipush 100, 2) := by decide +kernel
theorem dX3_copyFrom_195 : decode cX3_copyFrom 195 = .ok (.invokestatic 59, 3) := by decide +kernel
theorem dX3_copyFrom_198 : decode cX3_copyFrom 198 = .ok (.aload_n 1, 1) := by decide +kernel
theorem dX3_copyFrom_199 : decode cX3_copyFrom 199 = .ok (.getfield 43, 3) := by decide +kernel
theorem dX3_copyFrom_202 : decode cX3_copyFrom 202 = .ok (.iconst 0, 1) := by decide +kernel
theorem dX3_copyFrom_203 : decode cX3_copyFrom 203 = .ok (.aload_n 0, 1) := by decide +kernel
theorem dX3_copyFrom_204 : decode cX3_copyFrom 204 = .ok (.getfield 43, 3) := by decide +kernel
theorem dX3_copyFrom_207 : decode cX3_copyFrom 207 = .ok (.iconst 0, 1) := by decide +kernel
theorem dX3_copyFrom_208 : decode cX3_copyFrom 208 = .ok (.bipush 100, 2) := by decide +kernel
theorem dX3_copyFrom_210 : decode cX3_copyFrom 210 = .ok (.invokestatic 59, 3) := by decide +kernel
theorem dX3_copyFrom_213 : decode cX3_copyFrom 213 = .ok (.return_, 1) := by decide +kernel
theorem wX3_copyFrom_L159 {p : Program} {l : Launch} {e : Env} {s : State} {m : MethodId} {args : Array Value} {below : List Frame} {meth : Method} {c : Code} {Y : Nat → ClassId} {D : va_G} {σ : Nat → Nat} {np b0 : Nat} {q : Nat} {q2 : Nat} {r : Mc} (hE : EOK p s m args meth c cX3_copyFrom 3 RX3 Y D σ np b0) (hr : meth.sig.returnType = none) (hq : is3 q) (hq2 : is3 q2) : ∀ (n : Nat) (M : Mc) (N : Md) (X2 : Int32), fX3_copyFrom_L159 q q2 n M X2 = some r → Xw p l e (rmD 4) s m args below meth c 3 Y D σ np b0 0 0 (MQ below (QR Y D σ np b0 none r N) args s 0 0 (xA b0)) 159 [(0, .ref (σ q)), (1, .ref (σ q2)), (2, .int X2)] [] M N := by
  intro n
  induction n with
  | zero =>
    intro M N X2 hf
    cases hf
  | succ n ih =>
    intro M N X2 hf
    rw [fX3_copyFrom_L159.eq_2] at hf
    refine x_iload_n hE 2 dX3_copyFrom_159 rfl rfl ?_
    refine x_bipush hE (nI 100) dX3_copyFrom_160 (by decide) ?_
    refine x_icmp_ge hE 183 dX3_copyFrom_162 (by decide) hf (fun hf => ?_) (fun hf => ?_)
    · refine x_aload_n hE 1 dX3_copyFrom_183 rfl rfl ?_
      refine x_getR hE cl_3 (hE.kd (kO_3 hq2)) (by decide) 13 (q2 + 10) rfl (by decide) lk_X3_40 dX3_copyFrom_184 ?_
      refine x_iconst hE (0 : Int32) dX3_copyFrom_187 (by decide) ?_
      refine x_aload_n hE 0 dX3_copyFrom_188 rfl rfl ?_
      refine x_getR hE cl_3 (hE.kd (kO_3 hq)) (by decide) 13 (q + 10) rfl (by decide) lk_X3_40 dX3_copyFrom_189 ?_
      refine x_iconst hE (0 : Int32) dX3_copyFrom_192 (by decide) ?_
      refine x_bipush hE (nI 100) dX3_copyFrom_193 (by decide) ?_
      refine x_copy hE (hE.kd (kB_3_13 hq2)) (hE.kd (kB_3_13 hq)) lk_X3_59 (Nat.le_of_ble_eq_true rfl) dX3_copyFrom_195 hf (fun M13 hf => ?_)
      refine x_aload_n hE 1 dX3_copyFrom_198 rfl rfl ?_
      refine x_getR hE cl_3 (hE.kd (kO_3 hq2)) (by decide) 14 (q2 + 11) rfl (by decide) lk_X3_43 dX3_copyFrom_199 ?_
      refine x_iconst hE (0 : Int32) dX3_copyFrom_202 (by decide) ?_
      refine x_aload_n hE 0 dX3_copyFrom_203 rfl rfl ?_
      refine x_getR hE cl_3 (hE.kd (kO_3 hq)) (by decide) 14 (q + 11) rfl (by decide) lk_X3_43 dX3_copyFrom_204 ?_
      refine x_iconst hE (0 : Int32) dX3_copyFrom_207 (by decide) ?_
      refine x_bipush hE (nI 100) dX3_copyFrom_208 (by decide) ?_
      refine x_copy hE (hE.kd (kB_3_14 hq2)) (hE.kd (kB_3_14 hq)) lk_X3_59 (Nat.le_of_ble_eq_true rfl) dX3_copyFrom_210 hf (fun M14 hf => ?_)
      replace hf := Option.some.inj hf
      subst hf
      exact x_vreturn hE hr dX3_copyFrom_213
    · refine x_aload_n hE 0 dX3_copyFrom_165 rfl rfl ?_
      refine x_getR hE cl_3 (hE.kd (kO_3 hq)) (by decide) 12 (q + 9) rfl (by decide) lk_X3_36 dX3_copyFrom_166 ?_
      refine x_iload_n hE 2 dX3_copyFrom_169 rfl rfl ?_
      refine x_aload_n hE 1 dX3_copyFrom_170 rfl rfl ?_
      refine x_getR hE cl_3 (hE.kd (kO_3 hq2)) (by decide) 12 (q2 + 9) rfl (by decide) lk_X3_36 dX3_copyFrom_171 ?_
      refine x_iload_n hE 2 dX3_copyFrom_174 rfl rfl ?_
      refine x_zald hE (hE.kd (kB_3_12 hq2)) dX3_copyFrom_175 hf (fun hf => ?_)
      refine x_zast hE (hE.kd (kB_3_12 hq)) dX3_copyFrom_176 hf (fun M15 hf => ?_)
      refine x_iinc hE 2 (X2 + nI 1) (L' := [(2, .int (X2 + nI 1)), (0, .ref (σ q)), (1, .ref (σ q2))]) dX3_copyFrom_177 rfl rfl (by decide) rfl ?_
      refine x_pick [1, 2, 0] (L' := [(0, .ref (σ q)), (1, .ref (σ q2)), (2, .int (X2 + nI 1))]) rfl ?_
      refine x_goto hE 159 dX3_copyFrom_180 (by decide) ?_
      exact ih _ _ _ hf
theorem mX3_copyFrom (l : Launch) {Y : Nat → ClassId} {D : va_G} {σ : Nat → Nat} {np b0 : Nat} {M : Mc} {N : Md} {q : Nat} {q2 : Nat} {r : Mc} (hq : is3 q) (hq2 : is3 q2) (hf : fX3_copyFrom M q q2 = some r) : Met l yX3_copyFrom (.code yX3_copyFrom cX3_copyFrom 3 none :: lw_g) (rmD 4) (PR Y D σ np b0 [.ref (σ q), .ref (σ q2)] M N) (QR Y D σ np b0 none r N) 0 0 (xA b0) := by
  refine x_met (by decide) (Nat.le_of_ble_eq_true rfl) (fun p e s m args below meth c hE hr => ?_)
  unfold fX3_copyFrom at hf
  refine x_pick [0, 1] (L' := [(0, .ref (σ q)), (1, .ref (σ q2))]) rfl ?_
  refine x_aload_n hE 1 dX3_copyFrom_0 rfl rfl ?_
  refine x_ifnonnull hE 5 dX3_copyFrom_1 (by decide) ?_
  refine x_aload_n hE 0 dX3_copyFrom_5 rfl rfl ?_
  refine x_aload_n hE 1 dX3_copyFrom_6 rfl rfl ?_
  refine x_getI hE cl_3 (hE.kd (kO_3 hq2)) (by decide) 0 rfl (by decide) lk_X3_46 dX3_copyFrom_7 ?_
  refine x_putI hE cl_3 (hE.kd (kO_3 hq)) (by decide) 0 rfl (by decide) lk_X3_46 rfl rfl rfl rfl dX3_copyFrom_10 hf (fun M1 hf => ?_)
  refine x_aload_n hE 0 dX3_copyFrom_13 rfl rfl ?_
  refine x_aload_n hE 1 dX3_copyFrom_14 rfl rfl ?_
  refine x_getI hE cl_3 (hE.kd (kO_3 hq2)) (by decide) 1 rfl (by decide) lk_X3_50 dX3_copyFrom_15 ?_
  refine x_putI hE cl_3 (hE.kd (kO_3 hq)) (by decide) 1 rfl (by decide) lk_X3_50 rfl rfl rfl rfl dX3_copyFrom_18 hf (fun M2 hf => ?_)
  refine x_aload_n hE 0 dX3_copyFrom_21 rfl rfl ?_
  refine x_aload_n hE 1 dX3_copyFrom_22 rfl rfl ?_
  refine x_getI hE cl_3 (hE.kd (kO_3 hq2)) (by decide) 2 rfl (by decide) lk_X3_53 dX3_copyFrom_23 ?_
  refine x_putI hE cl_3 (hE.kd (kO_3 hq)) (by decide) 2 rfl (by decide) lk_X3_53 rfl rfl rfl rfl dX3_copyFrom_26 hf (fun M3 hf => ?_)
  refine x_aload_n hE 0 dX3_copyFrom_29 rfl rfl ?_
  refine x_aload_n hE 1 dX3_copyFrom_30 rfl rfl ?_
  refine x_getI hE cl_3 (hE.kd (kO_3 hq2)) (by decide) 3 rfl (by decide) lk_X3_56 dX3_copyFrom_31 ?_
  refine x_putI hE cl_3 (hE.kd (kO_3 hq)) (by decide) 3 rfl (by decide) lk_X3_56 rfl rfl rfl rfl dX3_copyFrom_34 hf (fun M4 hf => ?_)
  refine x_aload_n hE 1 dX3_copyFrom_37 rfl rfl ?_
  refine x_getR hE cl_3 (hE.kd (kO_3 hq2)) (by decide) 4 (q2 + 1) rfl (by decide) lk_X3_9 dX3_copyFrom_38 ?_
  refine x_iconst hE (0 : Int32) dX3_copyFrom_41 (by decide) ?_
  refine x_aload_n hE 0 dX3_copyFrom_42 rfl rfl ?_
  refine x_getR hE cl_3 (hE.kd (kO_3 hq)) (by decide) 4 (q + 1) rfl (by decide) lk_X3_9 dX3_copyFrom_43 ?_
  refine x_iconst hE (0 : Int32) dX3_copyFrom_46 (by decide) ?_
  refine x_bipush hE (nI 100) dX3_copyFrom_47 (by decide) ?_
  refine x_copy hE (hE.kd (kB_3_4 hq2)) (hE.kd (kB_3_4 hq)) lk_X3_59 (Nat.le_of_ble_eq_true rfl) dX3_copyFrom_49 hf (fun M5 hf => ?_)
  refine x_aload_n hE 1 dX3_copyFrom_52 rfl rfl ?_
  refine x_getR hE cl_3 (hE.kd (kO_3 hq2)) (by decide) 5 (q2 + 2) rfl (by decide) lk_X3_15 dX3_copyFrom_53 ?_
  refine x_iconst hE (0 : Int32) dX3_copyFrom_56 (by decide) ?_
  refine x_aload_n hE 0 dX3_copyFrom_57 rfl rfl ?_
  refine x_getR hE cl_3 (hE.kd (kO_3 hq)) (by decide) 5 (q + 2) rfl (by decide) lk_X3_15 dX3_copyFrom_58 ?_
  refine x_iconst hE (0 : Int32) dX3_copyFrom_61 (by decide) ?_
  refine x_bipush hE (nI 100) dX3_copyFrom_62 (by decide) ?_
  refine x_copy hE (hE.kd (kB_3_5 hq2)) (hE.kd (kB_3_5 hq)) lk_X3_59 (Nat.le_of_ble_eq_true rfl) dX3_copyFrom_64 hf (fun M6 hf => ?_)
  refine x_aload_n hE 1 dX3_copyFrom_67 rfl rfl ?_
  refine x_getR hE cl_3 (hE.kd (kO_3 hq2)) (by decide) 6 (q2 + 3) rfl (by decide) lk_X3_18 dX3_copyFrom_68 ?_
  refine x_iconst hE (0 : Int32) dX3_copyFrom_71 (by decide) ?_
  refine x_aload_n hE 0 dX3_copyFrom_72 rfl rfl ?_
  refine x_getR hE cl_3 (hE.kd (kO_3 hq)) (by decide) 6 (q + 3) rfl (by decide) lk_X3_18 dX3_copyFrom_73 ?_
  refine x_iconst hE (0 : Int32) dX3_copyFrom_76 (by decide) ?_
  refine x_bipush hE (nI 100) dX3_copyFrom_77 (by decide) ?_
  refine x_copy hE (hE.kd (kB_3_6 hq2)) (hE.kd (kB_3_6 hq)) lk_X3_59 (Nat.le_of_ble_eq_true rfl) dX3_copyFrom_79 hf (fun M7 hf => ?_)
  refine x_aload_n hE 1 dX3_copyFrom_82 rfl rfl ?_
  refine x_getR hE cl_3 (hE.kd (kO_3 hq2)) (by decide) 7 (q2 + 4) rfl (by decide) lk_X3_21 dX3_copyFrom_83 ?_
  refine x_iconst hE (0 : Int32) dX3_copyFrom_86 (by decide) ?_
  refine x_aload_n hE 0 dX3_copyFrom_87 rfl rfl ?_
  refine x_getR hE cl_3 (hE.kd (kO_3 hq)) (by decide) 7 (q + 4) rfl (by decide) lk_X3_21 dX3_copyFrom_88 ?_
  refine x_iconst hE (0 : Int32) dX3_copyFrom_91 (by decide) ?_
  refine x_bipush hE (nI 100) dX3_copyFrom_92 (by decide) ?_
  refine x_copy hE (hE.kd (kB_3_7 hq2)) (hE.kd (kB_3_7 hq)) lk_X3_59 (Nat.le_of_ble_eq_true rfl) dX3_copyFrom_94 hf (fun M8 hf => ?_)
  refine x_aload_n hE 1 dX3_copyFrom_97 rfl rfl ?_
  refine x_getR hE cl_3 (hE.kd (kO_3 hq2)) (by decide) 8 (q2 + 5) rfl (by decide) lk_X3_24 dX3_copyFrom_98 ?_
  refine x_iconst hE (0 : Int32) dX3_copyFrom_101 (by decide) ?_
  refine x_aload_n hE 0 dX3_copyFrom_102 rfl rfl ?_
  refine x_getR hE cl_3 (hE.kd (kO_3 hq)) (by decide) 8 (q + 5) rfl (by decide) lk_X3_24 dX3_copyFrom_103 ?_
  refine x_iconst hE (0 : Int32) dX3_copyFrom_106 (by decide) ?_
  refine x_bipush hE (nI 100) dX3_copyFrom_107 (by decide) ?_
  refine x_copy hE (hE.kd (kB_3_8 hq2)) (hE.kd (kB_3_8 hq)) lk_X3_59 (Nat.le_of_ble_eq_true rfl) dX3_copyFrom_109 hf (fun M9 hf => ?_)
  refine x_aload_n hE 1 dX3_copyFrom_112 rfl rfl ?_
  refine x_getR hE cl_3 (hE.kd (kO_3 hq2)) (by decide) 9 (q2 + 6) rfl (by decide) lk_X3_27 dX3_copyFrom_113 ?_
  refine x_iconst hE (0 : Int32) dX3_copyFrom_116 (by decide) ?_
  refine x_aload_n hE 0 dX3_copyFrom_117 rfl rfl ?_
  refine x_getR hE cl_3 (hE.kd (kO_3 hq)) (by decide) 9 (q + 6) rfl (by decide) lk_X3_27 dX3_copyFrom_118 ?_
  refine x_iconst hE (0 : Int32) dX3_copyFrom_121 (by decide) ?_
  refine x_bipush hE (nI 100) dX3_copyFrom_122 (by decide) ?_
  refine x_copy hE (hE.kd (kB_3_9 hq2)) (hE.kd (kB_3_9 hq)) lk_X3_59 (Nat.le_of_ble_eq_true rfl) dX3_copyFrom_124 hf (fun M10 hf => ?_)
  refine x_aload_n hE 1 dX3_copyFrom_127 rfl rfl ?_
  refine x_getR hE cl_3 (hE.kd (kO_3 hq2)) (by decide) 10 (q2 + 7) rfl (by decide) lk_X3_30 dX3_copyFrom_128 ?_
  refine x_iconst hE (0 : Int32) dX3_copyFrom_131 (by decide) ?_
  refine x_aload_n hE 0 dX3_copyFrom_132 rfl rfl ?_
  refine x_getR hE cl_3 (hE.kd (kO_3 hq)) (by decide) 10 (q + 7) rfl (by decide) lk_X3_30 dX3_copyFrom_133 ?_
  refine x_iconst hE (0 : Int32) dX3_copyFrom_136 (by decide) ?_
  refine x_bipush hE (nI 100) dX3_copyFrom_137 (by decide) ?_
  refine x_copy hE (hE.kd (kB_3_10 hq2)) (hE.kd (kB_3_10 hq)) lk_X3_59 (Nat.le_of_ble_eq_true rfl) dX3_copyFrom_139 hf (fun M11 hf => ?_)
  refine x_aload_n hE 1 dX3_copyFrom_142 rfl rfl ?_
  refine x_getR hE cl_3 (hE.kd (kO_3 hq2)) (by decide) 11 (q2 + 8) rfl (by decide) lk_X3_33 dX3_copyFrom_143 ?_
  refine x_iconst hE (0 : Int32) dX3_copyFrom_146 (by decide) ?_
  refine x_aload_n hE 0 dX3_copyFrom_147 rfl rfl ?_
  refine x_getR hE cl_3 (hE.kd (kO_3 hq)) (by decide) 11 (q + 8) rfl (by decide) lk_X3_33 dX3_copyFrom_148 ?_
  refine x_iconst hE (0 : Int32) dX3_copyFrom_151 (by decide) ?_
  refine x_bipush hE (nI 100) dX3_copyFrom_152 (by decide) ?_
  refine x_copy hE (hE.kd (kB_3_11 hq2)) (hE.kd (kB_3_11 hq)) lk_X3_59 (Nat.le_of_ble_eq_true rfl) dX3_copyFrom_154 hf (fun M12 hf => ?_)
  refine x_iconst hE (0 : Int32) dX3_copyFrom_157 (by decide) ?_
  refine x_istore_n hE (L' := [(2, .int 0), (0, .ref (σ q)), (1, .ref (σ q2))]) dX3_copyFrom_158 rfl (by decide) rfl ?_
  refine x_pick [1, 2, 0] (L' := [(0, .ref (σ q)), (1, .ref (σ q2)), (2, .int 0)]) rfl ?_
  exact wX3_copyFrom_L159 hE hr hq hq2 FU _ _ _ hf
theorem yokX3_copyFrom : YOK yX3_copyFrom cX3_copyFrom 3 1 none := ⟨mem_g 1047 (by decide +kernel) (by decide +kernel), mem_g 136 (by decide +kernel) (by decide +kernel), by decide +kernel, by decide +kernel, by decide +kernel⟩
theorem yvX3_copyFrom : YV yX3_copyFrom := ⟨mem_g 1045 (by decide +kernel) (by decide +kernel), mem_g 1046 (by decide +kernel) (by decide +kernel)⟩
theorem lk_X3_65 : Cond.methodLinkNest RX3 65 yX11_inside "SettlerColony" ∈ lw_nw := mem_n 687 (by decide +kernel) rfl
theorem dX3_add_0 : decode cX3_add 0 = .ok (.iconst 0, 1) := by decide +kernel
theorem dX3_add_1 : decode cX3_add 1 = .ok (.istore 5, 2) := by decide +kernel
theorem dX3_add_3 : decode cX3_add 3 = .ok (.iload 5, 2) := by decide +kernel
theorem dX3_add_5 : decode cX3_add 5 = .ok (.iload_n 1, 1) := by decide +kernel
theorem dX3_add_6 : decode cX3_add 6 = .ok (.if_icmp .ge 102, 3) := by decide +kernel
theorem dX3_add_9 : decode cX3_add 9 = .ok (.aload_n 0, 1) := by decide +kernel
theorem dX3_add_10 : decode cX3_add 10 = .ok (.getfield 46, 3) := by decide +kernel
theorem dX3_add_13 : decode cX3_add 13 = .ok (.bipush 100, 2) := by decide +kernel
theorem dX3_add_15 : decode cX3_add 15 = .ok (.invokestatic 65, 3) := by decide +kernel
theorem dX3_add_18 : decode cX3_add 18 = .ok (.ifCond .eq 90, 3) := by decide +kernel
theorem dX3_add_21 : decode cX3_add 21 = .ok (.aload_n 0, 1) := by decide +kernel
theorem dX3_add_22 : decode cX3_add 22 = .ok (.getfield 9, 3) := by decide +kernel
theorem dX3_add_25 : decode cX3_add 25 = .ok (.aload_n 0, 1) := by decide +kernel
theorem dX3_add_26 : decode cX3_add 26 = .ok (.getfield 46, 3) := by decide +kernel
theorem dX3_add_29 : decode cX3_add 29 = .ok (.iload_n 2, 1) := by decide +kernel
theorem dX3_add_30 : decode cX3_add 30 = .ok (.iastore, 1) := by decide +kernel
theorem dX3_add_31 : decode cX3_add 31 = .ok (.aload_n 0, 1) := by decide +kernel
theorem dX3_add_32 : decode cX3_add 32 = .ok (.getfield 15, 3) := by decide +kernel
theorem dX3_add_35 : decode cX3_add 35 = .ok (.aload_n 0, 1) := by decide +kernel
theorem dX3_add_36 : decode cX3_add 36 = .ok (.getfield 46, 3) := by decide +kernel
theorem dX3_add_39 : decode cX3_add 39 = .ok (.iload_n 3, 1) := by decide +kernel
theorem dX3_add_40 : decode cX3_add 40 = .ok (.iastore, 1) := by decide +kernel
theorem dX3_add_41 : decode cX3_add 41 = .ok (.aload_n 0, 1) := by decide +kernel
theorem dX3_add_42 : decode cX3_add 42 = .ok (.getfield 18, 3) := by decide +kernel
theorem dX3_add_45 : decode cX3_add 45 = .ok (.aload_n 0, 1) := by decide +kernel
theorem dX3_add_46 : decode cX3_add 46 = .ok (.getfield 46, 3) := by decide +kernel
theorem dX3_add_49 : decode cX3_add 49 = .ok (.iload 4, 2) := by decide +kernel
theorem dX3_add_51 : decode cX3_add 51 = .ok (.iconst (-1), 1) := by decide +kernel
theorem dX3_add_52 : decode cX3_add 52 = .ok (.if_icmp .ne 7, 3) := by decide +kernel
theorem dX3_add_55 : decode cX3_add 55 = .ok (.iconst 0, 1) := by decide +kernel
theorem dX3_add_56 : decode cX3_add 56 = .ok (.goto 4, 3) := by decide +kernel
theorem dX3_add_59 : decode cX3_add 59 = .ok (.iconst 1, 1) := by decide +kernel
theorem dX3_add_60 : decode cX3_add 60 = .ok (.iastore, 1) := by decide +kernel
theorem dX3_add_61 : decode cX3_add 61 = .ok (.aload_n 0, 1) := by decide +kernel
theorem dX3_add_62 : decode cX3_add 62 = .ok (.getfield 21, 3) := by decide +kernel
theorem dX3_add_65 : decode cX3_add 65 = .ok (.aload_n 0, 1) := by decide +kernel
theorem dX3_add_66 : decode cX3_add 66 = .ok (.getfield 46, 3) := by decide +kernel
theorem dX3_add_69 : decode cX3_add 69 = .ok (.iconst (-1), 1) := by decide +kernel
theorem dX3_add_70 : decode cX3_add 70 = .ok (.iastore, 1) := by decide +kernel
theorem dX3_add_71 : decode cX3_add 71 = .ok (.aload_n 0, 1) := by decide +kernel
theorem dX3_add_72 : decode cX3_add 72 = .ok (.getfield 30, 3) := by decide +kernel
theorem dX3_add_75 : decode cX3_add 75 = .ok (.aload_n 0, 1) := by decide +kernel
theorem dX3_add_76 : decode cX3_add 76 = .ok (.getfield 46, 3) := by decide +kernel
theorem dX3_add_79 : decode cX3_add 79 = .ok (.iconst (-1), 1) := by decide +kernel
theorem dX3_add_80 : decode cX3_add 80 = .ok (.iastore, 1) := by decide +kernel
theorem dX3_add_81 : decode cX3_add 81 = .ok (.aload_n 0, 1) := by decide +kernel
theorem dX3_add_82 : decode cX3_add 82 = .ok (.getfield 43, 3) := by decide +kernel
theorem dX3_add_85 : decode cX3_add 85 = .ok (.aload_n 0, 1) := by decide +kernel
theorem dX3_add_86 : decode cX3_add 86 = .ok (.getfield 46, 3) := by decide +kernel
theorem dX3_add_89 : decode cX3_add 89 = .ok (.iload 4, 2) := by decide +kernel
theorem dX3_add_91 : decode cX3_add 91 = .ok (.iastore, 1) := by decide +kernel
theorem dX3_add_92 : decode cX3_add 92 = .ok (.aload_n 0, 1) := by decide +kernel
theorem dX3_add_93 : decode cX3_add 93 = .ok (.dup, 1) := by decide +kernel
theorem dX3_add_94 : decode cX3_add 94 = .ok (.getfield 46, 3) := by decide +kernel
theorem dX3_add_97 : decode cX3_add 97 = .ok (.iconst 1, 1) := by decide +kernel
theorem dX3_add_98 : decode cX3_add 98 = .ok (.iadd, 1) := by decide +kernel
theorem dX3_add_99 : decode cX3_add 99 = .ok (.putfield 46, 3) := by decide +kernel
theorem dX3_add_102 : decode cX3_add 102 = .ok (.iinc 5 1, 3) := by decide +kernel
theorem dX3_add_105 : decode cX3_add 105 = .ok (.goto (-102), 3) := by decide +kernel
theorem dX3_add_108 : decode cX3_add 108 = .ok (.return_, 1) := by decide +kernel
theorem wX3_add_J60 {p : Program} {l : Launch} {e : Env} {s : State} {m : MethodId} {args : Array Value} {below : List Frame} {meth : Method} {c : Code} {Y : Nat → ClassId} {D : va_G} {σ : Nat → Nat} {np b0 : Nat} {q : Nat} {r : Mc} {K3 : Mc → Int32 → Int32 → Int32 → Int32 → Int32 → Option (Mc)} {M : Mc} {N : Md} {X1 : Int32} {X2 : Int32} {X3 : Int32} {X4 : Int32} {X5 : Int32} {Z0 : Int32} {Z1 : Int32} (hE : EOK p s m args meth c cX3_add 6 RX3 Y D σ np b0) (hr : meth.sig.returnType = none) (hq : is3 q) (hK3 : ∀ (M : Mc) (N : Md) (X1 : Int32) (X2 : Int32) (X3 : Int32) (X4 : Int32) (X5 : Int32), K3 M X1 X2 X3 X4 X5 = some r → Xw p l e (rmD 2) s m args below meth c 6 Y D σ np b0 0 0 (MQ below (QR Y D σ np b0 none r N) args s 0 0 (xA b0)) 3 [(0, .ref (σ q)), (1, .int X1), (2, .int X2), (3, .int X3), (4, .int X4), (5, .int X5)] [] M N) (hf : fX3_add_J60 q K3 M X1 X2 X3 X4 X5 Z0 Z1 = some r) : Xw p l e (rmD 2) s m args below meth c 6 Y D σ np b0 0 0 (MQ below (QR Y D σ np b0 none r N) args s 0 0 (xA b0)) 60 [(0, .ref (σ q)), (1, .int X1), (2, .int X2), (3, .int X3), (4, .int X4), (5, .int X5)] [.int Z0, .int Z1, .ref (σ (q + 3))] M N := by
  unfold fX3_add_J60 at hf
  refine x_iast hE (hE.kd (kB_3_6 hq)) dX3_add_60 hf (fun M5 hf => ?_)
  refine x_aload_n hE 0 dX3_add_61 rfl rfl ?_
  refine x_getR hE cl_3 (hE.kd (kO_3 hq)) (by decide) 7 (q + 4) rfl (by decide) lk_X3_21 dX3_add_62 ?_
  refine x_aload_n hE 0 dX3_add_65 rfl rfl ?_
  refine x_getI hE cl_3 (hE.kd (kO_3 hq)) (by decide) 0 rfl (by decide) lk_X3_46 dX3_add_66 ?_
  refine x_iconst hE (-1) dX3_add_69 (by decide) ?_
  refine x_iast hE (hE.kd (kB_3_7 hq)) dX3_add_70 hf (fun M6 hf => ?_)
  refine x_aload_n hE 0 dX3_add_71 rfl rfl ?_
  refine x_getR hE cl_3 (hE.kd (kO_3 hq)) (by decide) 10 (q + 7) rfl (by decide) lk_X3_30 dX3_add_72 ?_
  refine x_aload_n hE 0 dX3_add_75 rfl rfl ?_
  refine x_getI hE cl_3 (hE.kd (kO_3 hq)) (by decide) 0 rfl (by decide) lk_X3_46 dX3_add_76 ?_
  refine x_iconst hE (-1) dX3_add_79 (by decide) ?_
  refine x_iast hE (hE.kd (kB_3_10 hq)) dX3_add_80 hf (fun M7 hf => ?_)
  refine x_aload_n hE 0 dX3_add_81 rfl rfl ?_
  refine x_getR hE cl_3 (hE.kd (kO_3 hq)) (by decide) 14 (q + 11) rfl (by decide) lk_X3_43 dX3_add_82 ?_
  refine x_aload_n hE 0 dX3_add_85 rfl rfl ?_
  refine x_getI hE cl_3 (hE.kd (kO_3 hq)) (by decide) 0 rfl (by decide) lk_X3_46 dX3_add_86 ?_
  refine x_iload hE 4 dX3_add_89 rfl ?_
  refine x_iast hE (hE.kd (kB_3_14 hq)) dX3_add_91 hf (fun M8 hf => ?_)
  refine x_aload_n hE 0 dX3_add_92 rfl rfl ?_
  refine x_dup hE dX3_add_93 rfl ?_
  refine x_getI hE cl_3 (hE.kd (kO_3 hq)) (by decide) 0 rfl (by decide) lk_X3_46 dX3_add_94 ?_
  refine x_iconst hE (nI 1) dX3_add_97 (by decide) ?_
  refine x_iadd hE dX3_add_98 ?_
  refine x_putI hE cl_3 (hE.kd (kO_3 hq)) (by decide) 0 rfl (by decide) lk_X3_46 rfl rfl rfl rfl dX3_add_99 hf (fun M9 hf => ?_)
  refine x_iinc hE 5 (X5 + nI 1) (L' := [(5, .int (X5 + nI 1)), (0, .ref (σ q)), (1, .int X1), (2, .int X2), (3, .int X3), (4, .int X4)]) dX3_add_102 rfl rfl (by decide) rfl ?_
  refine x_pick [1, 2, 3, 4, 5, 0] (L' := [(0, .ref (σ q)), (1, .int X1), (2, .int X2), (3, .int X3), (4, .int X4), (5, .int (X5 + nI 1))]) rfl ?_
  refine x_goto hE 3 dX3_add_105 (by decide) ?_
  exact hK3 _ _ _ _ _ _ _ hf
theorem wX3_add_L3 {p : Program} {l : Launch} {e : Env} {s : State} {m : MethodId} {args : Array Value} {below : List Frame} {meth : Method} {c : Code} {Y : Nat → ClassId} {D : va_G} {σ : Nat → Nat} {np b0 : Nat} {q : Nat} {r : Mc} (hE : EOK p s m args meth c cX3_add 6 RX3 Y D σ np b0) (hr : meth.sig.returnType = none) (hq : is3 q) : ∀ (n : Nat) (M : Mc) (N : Md) (X1 : Int32) (X2 : Int32) (X3 : Int32) (X4 : Int32) (X5 : Int32), fX3_add_L3 q n M X1 X2 X3 X4 X5 = some r → Xw p l e (rmD 2) s m args below meth c 6 Y D σ np b0 0 0 (MQ below (QR Y D σ np b0 none r N) args s 0 0 (xA b0)) 3 [(0, .ref (σ q)), (1, .int X1), (2, .int X2), (3, .int X3), (4, .int X4), (5, .int X5)] [] M N := by
  intro n
  induction n with
  | zero =>
    intro M N X1 X2 X3 X4 X5 hf
    cases hf
  | succ n ih =>
    intro M N X1 X2 X3 X4 X5 hf
    rw [fX3_add_L3.eq_2] at hf
    refine x_iload hE 5 dX3_add_3 rfl ?_
    refine x_iload_n hE 1 dX3_add_5 rfl rfl ?_
    refine x_icmp_ge hE 108 dX3_add_6 (by decide) hf (fun hf => ?_) (fun hf => ?_)
    · replace hf := Option.some.inj hf
      subst hf
      exact x_vreturn hE hr dX3_add_108
    · refine x_aload_n hE 0 dX3_add_9 rfl rfl ?_
      refine x_getI hE cl_3 (hE.kd (kO_3 hq)) (by decide) 0 rfl (by decide) lk_X3_46 dX3_add_10 ?_
      refine x_bipush hE (nI 100) dX3_add_13 (by decide) ?_
      obtain ⟨v2, hc1, hf⟩ := bnd_some hf
      refine x_callSN1 hE [.int (M q 0), .int (nI 100)] (rest := []) (v := .int v2) (c1 := M) (d1 := N) rfl yokX11_inside ysX11_inside lk_X3_65 rfl rfl ⟨Nat.le_of_ble_eq_true rfl, Nat.le_of_ble_eq_true rfl⟩ ⟨Nat.zero_le _, Nat.zero_le _⟩ rfl (Nat.le_of_ble_eq_true rfl) dX3_add_15 (mX11_inside l hc1) ?_
      refine x_if_eq hE 108 dX3_add_18 (by decide) hf (fun hf => ?_) (fun hf => ?_)
      · replace hf := Option.some.inj hf
        subst hf
        exact x_vreturn hE hr dX3_add_108
      · refine x_aload_n hE 0 dX3_add_21 rfl rfl ?_
        refine x_getR hE cl_3 (hE.kd (kO_3 hq)) (by decide) 4 (q + 1) rfl (by decide) lk_X3_9 dX3_add_22 ?_
        refine x_aload_n hE 0 dX3_add_25 rfl rfl ?_
        refine x_getI hE cl_3 (hE.kd (kO_3 hq)) (by decide) 0 rfl (by decide) lk_X3_46 dX3_add_26 ?_
        refine x_iload_n hE 2 dX3_add_29 rfl rfl ?_
        refine x_iast hE (hE.kd (kB_3_4 hq)) dX3_add_30 hf (fun M3 hf => ?_)
        refine x_aload_n hE 0 dX3_add_31 rfl rfl ?_
        refine x_getR hE cl_3 (hE.kd (kO_3 hq)) (by decide) 5 (q + 2) rfl (by decide) lk_X3_15 dX3_add_32 ?_
        refine x_aload_n hE 0 dX3_add_35 rfl rfl ?_
        refine x_getI hE cl_3 (hE.kd (kO_3 hq)) (by decide) 0 rfl (by decide) lk_X3_46 dX3_add_36 ?_
        refine x_iload_n hE 3 dX3_add_39 rfl rfl ?_
        refine x_iast hE (hE.kd (kB_3_5 hq)) dX3_add_40 hf (fun M4 hf => ?_)
        refine x_aload_n hE 0 dX3_add_41 rfl rfl ?_
        refine x_getR hE cl_3 (hE.kd (kO_3 hq)) (by decide) 6 (q + 3) rfl (by decide) lk_X3_18 dX3_add_42 ?_
        refine x_aload_n hE 0 dX3_add_45 rfl rfl ?_
        refine x_getI hE cl_3 (hE.kd (kO_3 hq)) (by decide) 0 rfl (by decide) lk_X3_46 dX3_add_46 ?_
        refine x_iload hE 4 dX3_add_49 rfl ?_
        refine x_iconst hE (-1) dX3_add_51 (by decide) ?_
        refine x_icmp_ne hE 59 dX3_add_52 (by decide) hf (fun hf => ?_) (fun hf => ?_)
        · refine x_iconst hE (nI 1) dX3_add_59 (by decide) ?_
          exact wX3_add_J60 hE hr hq (fun _ _ _ _ _ _ _ hf => ih _ _ _ _ _ _ _ hf) hf
        · refine x_iconst hE (0 : Int32) dX3_add_55 (by decide) ?_
          refine x_goto hE 60 dX3_add_56 (by decide) ?_
          exact wX3_add_J60 hE hr hq (fun _ _ _ _ _ _ _ hf => ih _ _ _ _ _ _ _ hf) hf
theorem mX3_add (l : Launch) {Y : Nat → ClassId} {D : va_G} {σ : Nat → Nat} {np b0 : Nat} {M : Mc} {N : Md} {q : Nat} {p0 : Int32} {p1 : Int32} {p2 : Int32} {p3 : Int32} {r : Mc} (hq : is3 q) (hf : fX3_add M q p0 p1 p2 p3 = some r) : Met l yX3_add (.code yX3_add cX3_add 6 none :: lw_g) (rmD 2) (PR Y D σ np b0 [.ref (σ q), .int p0, .int p1, .int p2, .int p3] M N) (QR Y D σ np b0 none r N) 0 0 (xA b0) := by
  refine x_met (by decide) (Nat.le_of_ble_eq_true rfl) (fun p e s m args below meth c hE hr => ?_)
  unfold fX3_add at hf
  refine x_pick [0, 1, 2, 3, 4] (L' := [(0, .ref (σ q)), (1, .int p0), (2, .int p1), (3, .int p2), (4, .int p3)]) rfl ?_
  refine x_iconst hE (0 : Int32) dX3_add_0 (by decide) ?_
  refine x_istore hE (L' := [(5, .int 0), (0, .ref (σ q)), (1, .int p0), (2, .int p1), (3, .int p2), (4, .int p3)]) dX3_add_1 (by decide) rfl ?_
  refine x_pick [1, 2, 3, 4, 5, 0] (L' := [(0, .ref (σ q)), (1, .int p0), (2, .int p1), (3, .int p2), (4, .int p3), (5, .int 0)]) rfl ?_
  exact wX3_add_L3 hE hr hq FU _ _ _ _ _ _ _ hf
theorem yokX3_add : YOK yX3_add cX3_add 6 4 none := ⟨mem_g 686 (by decide +kernel) (by decide +kernel), mem_g 136 (by decide +kernel) (by decide +kernel), by decide +kernel, by decide +kernel, by decide +kernel⟩
theorem yvX3_add : YV yX3_add := ⟨mem_g 684 (by decide +kernel) (by decide +kernel), mem_g 685 (by decide +kernel) (by decide +kernel)⟩
theorem dX3_isOne_0 : decode cX3_isOne 0 = .ok (.iload_n 1, 1) := by decide +kernel
theorem dX3_isOne_1 : decode cX3_isOne 1 = .ok (.ifCond .lt 21, 3) := by decide +kernel
theorem dX3_isOne_4 : decode cX3_isOne 4 = .ok (.iload_n 1, 1) := by decide +kernel
theorem dX3_isOne_5 : decode cX3_isOne 5 = .ok (.aload_n 0, 1) := by decide +kernel
theorem dX3_isOne_6 : decode cX3_isOne 6 = .ok (.getfield 46, 3) := by decide +kernel
theorem dX3_isOne_9 : decode cX3_isOne 9 = .ok (.if_icmp .ge 13, 3) := by decide +kernel
theorem dX3_isOne_12 : decode cX3_isOne 12 = .ok (.iload_n 1, 1) := by decide +kernel
theorem dX3_isOne_13 : decode cX3_isOne 13 = .ok (.bipush 100, 2) := by decide +kernel
theorem dX3_isOne_15 : decode cX3_isOne 15 = .ok (.if_icmp .ge 7, 3) := by decide +kernel
theorem dX3_isOne_18 : decode cX3_isOne 18 = .ok (.iconst 1, 1) := by decide +kernel
theorem dX3_isOne_19 : decode cX3_isOne 19 = .ok (.goto 4, 3) := by decide +kernel
theorem dX3_isOne_22 : decode cX3_isOne 22 = .ok (.iconst 0, 1) := by decide +kernel
theorem dX3_isOne_23 : decode cX3_isOne 23 = .ok (.ireturn, 1) := by decide +kernel
theorem mX3_isOne (l : Launch) {Y : Nat → ClassId} {D : va_G} {σ : Nat → Nat} {np b0 : Nat} {M : Mc} {N : Md} {q : Nat} {p0 : Int32} {r : Int32} (hq : is3 q) (hf : fX3_isOne M q p0 = some r) : Met l yX3_isOne (.code yX3_isOne cX3_isOne 2 (some .boolean) :: lw_g) (rmD 1) (PR Y D σ np b0 [.ref (σ q), .int p0] M N) (QR Y D σ np b0 (some (.int r)) M N) 0 0 (xA b0) := by
  refine x_met (by decide) (Nat.le_of_ble_eq_true rfl) (fun p e s m args below meth c hE hr => ?_)
  unfold fX3_isOne at hf
  refine x_pick [0, 1] (L' := [(0, .ref (σ q)), (1, .int p0)]) rfl ?_
  refine x_iload_n hE 1 dX3_isOne_0 rfl rfl ?_
  refine x_if_lt hE 22 dX3_isOne_1 (by decide) hf (fun hf => ?_) (fun hf => ?_)
  · refine x_iconst hE (0 : Int32) dX3_isOne_22 (by decide) ?_
    replace hf := Option.some.inj hf
    subst hf
    exact x_ireturn hE (v := 0) hr rfl dX3_isOne_23
  · refine x_iload_n hE 1 dX3_isOne_4 rfl rfl ?_
    refine x_aload_n hE 0 dX3_isOne_5 rfl rfl ?_
    refine x_getI hE cl_3 (hE.kd (kO_3 hq)) (by decide) 0 rfl (by decide) lk_X3_46 dX3_isOne_6 ?_
    refine x_icmp_ge hE 22 dX3_isOne_9 (by decide) hf (fun hf => ?_) (fun hf => ?_)
    · refine x_iconst hE (0 : Int32) dX3_isOne_22 (by decide) ?_
      replace hf := Option.some.inj hf
      subst hf
      exact x_ireturn hE (v := 0) hr rfl dX3_isOne_23
    · refine x_iload_n hE 1 dX3_isOne_12 rfl rfl ?_
      refine x_bipush hE (nI 100) dX3_isOne_13 (by decide) ?_
      refine x_icmp_ge hE 22 dX3_isOne_15 (by decide) hf (fun hf => ?_) (fun hf => ?_)
      · refine x_iconst hE (0 : Int32) dX3_isOne_22 (by decide) ?_
        replace hf := Option.some.inj hf
        subst hf
        exact x_ireturn hE (v := 0) hr rfl dX3_isOne_23
      · refine x_iconst hE (nI 1) dX3_isOne_18 (by decide) ?_
        refine x_goto hE 23 dX3_isOne_19 (by decide) ?_
        replace hf := Option.some.inj hf
        subst hf
        exact x_ireturn hE (v := nI 1) hr rfl dX3_isOne_23
theorem yokX3_isOne : YOK yX3_isOne cX3_isOne 2 1 (some .boolean) := ⟨mem_g 716 (by decide +kernel) (by decide +kernel), mem_g 136 (by decide +kernel) (by decide +kernel), by decide +kernel, by decide +kernel, by decide +kernel⟩
theorem yvX3_isOne : YV yX3_isOne := ⟨mem_g 714 (by decide +kernel) (by decide +kernel), mem_g 715 (by decide +kernel) (by decide +kernel)⟩
theorem lk_X3_69 : Cond.methodLink RX3 69 yX3_isOne ∈ lw_g := mem_g 713 (by decide +kernel) (by decide +kernel)
theorem dX3_stateOf_0 : decode cX3_stateOf 0 = .ok (.aload_n 0, 1) := by decide +kernel
theorem dX3_stateOf_1 : decode cX3_stateOf 1 = .ok (.iload_n 1, 1) := by decide +kernel
theorem dX3_stateOf_2 : decode cX3_stateOf 2 = .ok (.invokevirtual 69, 3) := by decide +kernel
theorem dX3_stateOf_5 : decode cX3_stateOf 5 = .ok (.ifCond .eq 12, 3) := by decide +kernel
theorem dX3_stateOf_8 : decode cX3_stateOf 8 = .ok (.aload_n 0, 1) := by decide +kernel
theorem dX3_stateOf_9 : decode cX3_stateOf 9 = .ok (.getfield 18, 3) := by decide +kernel
theorem dX3_stateOf_12 : decode cX3_stateOf 12 = .ok (.iload_n 1, 1) := by decide +kernel
theorem dX3_stateOf_13 : decode cX3_stateOf 13 = .ok (.iaload, 1) := by decide +kernel
theorem dX3_stateOf_14 : decode cX3_stateOf 14 = .ok (.goto 4, 3) := by decide +kernel
theorem dX3_stateOf_17 : decode cX3_stateOf 17 = .ok (.iconst 0, 1) := by decide +kernel
theorem dX3_stateOf_18 : decode cX3_stateOf 18 = .ok (.ireturn, 1) := by decide +kernel
theorem mX3_stateOf (l : Launch) {Y : Nat → ClassId} {D : va_G} {σ : Nat → Nat} {np b0 : Nat} {M : Mc} {N : Md} {q : Nat} {p0 : Int32} {r : Int32} (hq : is3 q) (hf : fX3_stateOf M q p0 = some r) : Met l yX3_stateOf (.code yX3_stateOf cX3_stateOf 2 (some .int) :: lw_g) (rmD 2) (PR Y D σ np b0 [.ref (σ q), .int p0] M N) (QR Y D σ np b0 (some (.int r)) M N) 0 0 (xA b0) := by
  refine x_met (by decide) (Nat.le_of_ble_eq_true rfl) (fun p e s m args below meth c hE hr => ?_)
  unfold fX3_stateOf at hf
  refine x_pick [0, 1] (L' := [(0, .ref (σ q)), (1, .int p0)]) rfl ?_
  refine x_aload_n hE 0 dX3_stateOf_0 rfl rfl ?_
  refine x_iload_n hE 1 dX3_stateOf_1 rfl rfl ?_
  obtain ⟨v2, hc1, hf⟩ := bnd_some hf
  refine x_callV1 hE [.int p0] (rest := []) (v := .int v2) (c1 := M) (d1 := N) rfl yokX3_isOne yvX3_isOne lk_X3_69 rfl cl_3 (hE.kd (kO_3 hq)) (by decide) rfl rfl ⟨Nat.le_of_ble_eq_true rfl, Nat.le_of_ble_eq_true rfl⟩ ⟨Nat.zero_le _, Nat.zero_le _⟩ rfl (Nat.le_of_ble_eq_true rfl) dX3_stateOf_2 (mX3_isOne l hq hc1) ?_
  refine x_if_eq hE 17 dX3_stateOf_5 (by decide) hf (fun hf => ?_) (fun hf => ?_)
  · refine x_iconst hE (0 : Int32) dX3_stateOf_17 (by decide) ?_
    replace hf := Option.some.inj hf
    subst hf
    exact x_ireturn hE (v := 0) hr rfl dX3_stateOf_18
  · refine x_aload_n hE 0 dX3_stateOf_8 rfl rfl ?_
    refine x_getR hE cl_3 (hE.kd (kO_3 hq)) (by decide) 6 (q + 3) rfl (by decide) lk_X3_18 dX3_stateOf_9 ?_
    refine x_iload_n hE 1 dX3_stateOf_12 rfl rfl ?_
    refine x_iald hE (hE.kd (kB_3_6 hq)) dX3_stateOf_13 hf (fun hf => ?_)
    refine x_goto hE 18 dX3_stateOf_14 (by decide) ?_
    replace hf := Option.some.inj hf
    subst hf
    exact x_ireturn hE (v := M (q + 3) p0.toNatClampNeg) hr rfl dX3_stateOf_18
theorem yokX3_stateOf : YOK yX3_stateOf cX3_stateOf 2 1 (some .int) := ⟨mem_g 720 (by decide +kernel) (by decide +kernel), mem_g 136 (by decide +kernel) (by decide +kernel), by decide +kernel, by decide +kernel, by decide +kernel⟩
theorem yvX3_stateOf : YV yX3_stateOf := ⟨mem_g 718 (by decide +kernel) (by decide +kernel), mem_g 719 (by decide +kernel) (by decide +kernel)⟩
theorem dX3_isAtHome_0 : decode cX3_isAtHome 0 = .ok (.aload_n 0, 1) := by decide +kernel
theorem dX3_isAtHome_1 : decode cX3_isAtHome 1 = .ok (.iload_n 1, 1) := by decide +kernel
theorem dX3_isAtHome_2 : decode cX3_isAtHome 2 = .ok (.invokevirtual 69, 3) := by decide +kernel
theorem dX3_isAtHome_5 : decode cX3_isAtHome 5 = .ok (.ifCond .eq 16, 3) := by decide +kernel
theorem dX3_isAtHome_8 : decode cX3_isAtHome 8 = .ok (.aload_n 0, 1) := by decide +kernel
theorem dX3_isAtHome_9 : decode cX3_isAtHome 9 = .ok (.getfield 18, 3) := by decide +kernel
theorem dX3_isAtHome_12 : decode cX3_isAtHome 12 = .ok (.iload_n 1, 1) := by decide +kernel
theorem dX3_isAtHome_13 : decode cX3_isAtHome 13 = .ok (.iaload, 1) := by decide +kernel
theorem dX3_isAtHome_14 : decode cX3_isAtHome 14 = .ok (.ifCond .ne 7, 3) := by decide +kernel
theorem dX3_isAtHome_17 : decode cX3_isAtHome 17 = .ok (.iconst 1, 1) := by decide +kernel
theorem dX3_isAtHome_18 : decode cX3_isAtHome 18 = .ok (.goto 4, 3) := by decide +kernel
theorem dX3_isAtHome_21 : decode cX3_isAtHome 21 = .ok (.iconst 0, 1) := by decide +kernel
theorem dX3_isAtHome_22 : decode cX3_isAtHome 22 = .ok (.ireturn, 1) := by decide +kernel
theorem mX3_isAtHome (l : Launch) {Y : Nat → ClassId} {D : va_G} {σ : Nat → Nat} {np b0 : Nat} {M : Mc} {N : Md} {q : Nat} {p0 : Int32} {r : Int32} (hq : is3 q) (hf : fX3_isAtHome M q p0 = some r) : Met l yX3_isAtHome (.code yX3_isAtHome cX3_isAtHome 2 (some .boolean) :: lw_g) (rmD 2) (PR Y D σ np b0 [.ref (σ q), .int p0] M N) (QR Y D σ np b0 (some (.int r)) M N) 0 0 (xA b0) := by
  refine x_met (by decide) (Nat.le_of_ble_eq_true rfl) (fun p e s m args below meth c hE hr => ?_)
  unfold fX3_isAtHome at hf
  refine x_pick [0, 1] (L' := [(0, .ref (σ q)), (1, .int p0)]) rfl ?_
  refine x_aload_n hE 0 dX3_isAtHome_0 rfl rfl ?_
  refine x_iload_n hE 1 dX3_isAtHome_1 rfl rfl ?_
  obtain ⟨v2, hc1, hf⟩ := bnd_some hf
  refine x_callV1 hE [.int p0] (rest := []) (v := .int v2) (c1 := M) (d1 := N) rfl yokX3_isOne yvX3_isOne lk_X3_69 rfl cl_3 (hE.kd (kO_3 hq)) (by decide) rfl rfl ⟨Nat.le_of_ble_eq_true rfl, Nat.le_of_ble_eq_true rfl⟩ ⟨Nat.zero_le _, Nat.zero_le _⟩ rfl (Nat.le_of_ble_eq_true rfl) dX3_isAtHome_2 (mX3_isOne l hq hc1) ?_
  refine x_if_eq hE 21 dX3_isAtHome_5 (by decide) hf (fun hf => ?_) (fun hf => ?_)
  · refine x_iconst hE (0 : Int32) dX3_isAtHome_21 (by decide) ?_
    replace hf := Option.some.inj hf
    subst hf
    exact x_ireturn hE (v := 0) hr rfl dX3_isAtHome_22
  · refine x_aload_n hE 0 dX3_isAtHome_8 rfl rfl ?_
    refine x_getR hE cl_3 (hE.kd (kO_3 hq)) (by decide) 6 (q + 3) rfl (by decide) lk_X3_18 dX3_isAtHome_9 ?_
    refine x_iload_n hE 1 dX3_isAtHome_12 rfl rfl ?_
    refine x_iald hE (hE.kd (kB_3_6 hq)) dX3_isAtHome_13 hf (fun hf => ?_)
    refine x_if_ne hE 21 dX3_isAtHome_14 (by decide) hf (fun hf => ?_) (fun hf => ?_)
    · refine x_iconst hE (0 : Int32) dX3_isAtHome_21 (by decide) ?_
      replace hf := Option.some.inj hf
      subst hf
      exact x_ireturn hE (v := 0) hr rfl dX3_isAtHome_22
    · refine x_iconst hE (nI 1) dX3_isAtHome_17 (by decide) ?_
      refine x_goto hE 22 dX3_isAtHome_18 (by decide) ?_
      replace hf := Option.some.inj hf
      subst hf
      exact x_ireturn hE (v := nI 1) hr rfl dX3_isAtHome_22
theorem yokX3_isAtHome : YOK yX3_isAtHome cX3_isAtHome 2 1 (some .boolean) := ⟨mem_g 1212 (by decide +kernel) (by decide +kernel), mem_g 136 (by decide +kernel) (by decide +kernel), by decide +kernel, by decide +kernel, by decide +kernel⟩
theorem yvX3_isAtHome : YV yX3_isAtHome := ⟨mem_g 1210 (by decide +kernel) (by decide +kernel), mem_g 1211 (by decide +kernel) (by decide +kernel)⟩
theorem dX3_isHere_0 : decode cX3_isHere 0 = .ok (.aload_n 0, 1) := by decide +kernel
theorem dX3_isHere_1 : decode cX3_isHere 1 = .ok (.iload_n 1, 1) := by decide +kernel
theorem dX3_isHere_2 : decode cX3_isHere 2 = .ok (.invokevirtual 69, 3) := by decide +kernel
theorem dX3_isHere_5 : decode cX3_isHere 5 = .ok (.ifCond .eq 17, 3) := by decide +kernel
theorem dX3_isHere_8 : decode cX3_isHere 8 = .ok (.aload_n 0, 1) := by decide +kernel
theorem dX3_isHere_9 : decode cX3_isHere 9 = .ok (.getfield 18, 3) := by decide +kernel
theorem dX3_isHere_12 : decode cX3_isHere 12 = .ok (.iload_n 1, 1) := by decide +kernel
theorem dX3_isHere_13 : decode cX3_isHere 13 = .ok (.iaload, 1) := by decide +kernel
theorem dX3_isHere_14 : decode cX3_isHere 14 = .ok (.iconst 2, 1) := by decide +kernel
theorem dX3_isHere_15 : decode cX3_isHere 15 = .ok (.if_icmp .lt 7, 3) := by decide +kernel
theorem dX3_isHere_18 : decode cX3_isHere 18 = .ok (.iconst 1, 1) := by decide +kernel
theorem dX3_isHere_19 : decode cX3_isHere 19 = .ok (.goto 4, 3) := by decide +kernel
theorem dX3_isHere_22 : decode cX3_isHere 22 = .ok (.iconst 0, 1) := by decide +kernel
theorem dX3_isHere_23 : decode cX3_isHere 23 = .ok (.ireturn, 1) := by decide +kernel
theorem mX3_isHere (l : Launch) {Y : Nat → ClassId} {D : va_G} {σ : Nat → Nat} {np b0 : Nat} {M : Mc} {N : Md} {q : Nat} {p0 : Int32} {r : Int32} (hq : is3 q) (hf : fX3_isHere M q p0 = some r) : Met l yX3_isHere (.code yX3_isHere cX3_isHere 2 (some .boolean) :: lw_g) (rmD 2) (PR Y D σ np b0 [.ref (σ q), .int p0] M N) (QR Y D σ np b0 (some (.int r)) M N) 0 0 (xA b0) := by
  refine x_met (by decide) (Nat.le_of_ble_eq_true rfl) (fun p e s m args below meth c hE hr => ?_)
  unfold fX3_isHere at hf
  refine x_pick [0, 1] (L' := [(0, .ref (σ q)), (1, .int p0)]) rfl ?_
  refine x_aload_n hE 0 dX3_isHere_0 rfl rfl ?_
  refine x_iload_n hE 1 dX3_isHere_1 rfl rfl ?_
  obtain ⟨v2, hc1, hf⟩ := bnd_some hf
  refine x_callV1 hE [.int p0] (rest := []) (v := .int v2) (c1 := M) (d1 := N) rfl yokX3_isOne yvX3_isOne lk_X3_69 rfl cl_3 (hE.kd (kO_3 hq)) (by decide) rfl rfl ⟨Nat.le_of_ble_eq_true rfl, Nat.le_of_ble_eq_true rfl⟩ ⟨Nat.zero_le _, Nat.zero_le _⟩ rfl (Nat.le_of_ble_eq_true rfl) dX3_isHere_2 (mX3_isOne l hq hc1) ?_
  refine x_if_eq hE 22 dX3_isHere_5 (by decide) hf (fun hf => ?_) (fun hf => ?_)
  · refine x_iconst hE (0 : Int32) dX3_isHere_22 (by decide) ?_
    replace hf := Option.some.inj hf
    subst hf
    exact x_ireturn hE (v := 0) hr rfl dX3_isHere_23
  · refine x_aload_n hE 0 dX3_isHere_8 rfl rfl ?_
    refine x_getR hE cl_3 (hE.kd (kO_3 hq)) (by decide) 6 (q + 3) rfl (by decide) lk_X3_18 dX3_isHere_9 ?_
    refine x_iload_n hE 1 dX3_isHere_12 rfl rfl ?_
    refine x_iald hE (hE.kd (kB_3_6 hq)) dX3_isHere_13 hf (fun hf => ?_)
    refine x_iconst hE (nI 2) dX3_isHere_14 (by decide) ?_
    refine x_icmp_lt hE 22 dX3_isHere_15 (by decide) hf (fun hf => ?_) (fun hf => ?_)
    · refine x_iconst hE (0 : Int32) dX3_isHere_22 (by decide) ?_
      replace hf := Option.some.inj hf
      subst hf
      exact x_ireturn hE (v := 0) hr rfl dX3_isHere_23
    · refine x_iconst hE (nI 1) dX3_isHere_18 (by decide) ?_
      refine x_goto hE 23 dX3_isHere_19 (by decide) ?_
      replace hf := Option.some.inj hf
      subst hf
      exact x_ireturn hE (v := nI 1) hr rfl dX3_isHere_23
theorem yokX3_isHere : YOK yX3_isHere cX3_isHere 2 1 (some .boolean) := ⟨mem_g 1105 (by decide +kernel) (by decide +kernel), mem_g 136 (by decide +kernel) (by decide +kernel), by decide +kernel, by decide +kernel, by decide +kernel⟩
theorem yvX3_isHere : YV yX3_isHere := ⟨mem_g 1103 (by decide +kernel) (by decide +kernel), mem_g 1104 (by decide +kernel) (by decide +kernel)⟩
theorem dX3_tradeOf_0 : decode cX3_tradeOf 0 = .ok (.aload_n 0, 1) := by decide +kernel
theorem dX3_tradeOf_1 : decode cX3_tradeOf 1 = .ok (.iload_n 1, 1) := by decide +kernel
theorem dX3_tradeOf_2 : decode cX3_tradeOf 2 = .ok (.invokevirtual 69, 3) := by decide +kernel
theorem dX3_tradeOf_5 : decode cX3_tradeOf 5 = .ok (.ifCond .eq 12, 3) := by decide +kernel
theorem dX3_tradeOf_8 : decode cX3_tradeOf 8 = .ok (.aload_n 0, 1) := by decide +kernel
theorem dX3_tradeOf_9 : decode cX3_tradeOf 9 = .ok (.getfield 9, 3) := by decide +kernel
theorem dX3_tradeOf_12 : decode cX3_tradeOf 12 = .ok (.iload_n 1, 1) := by decide +kernel
theorem dX3_tradeOf_13 : decode cX3_tradeOf 13 = .ok (.iaload, 1) := by decide +kernel
theorem dX3_tradeOf_14 : decode cX3_tradeOf 14 = .ok (.goto 4, 3) := by decide +kernel
theorem dX3_tradeOf_17 : decode cX3_tradeOf 17 = .ok (.iconst (-1), 1) := by decide +kernel
theorem dX3_tradeOf_18 : decode cX3_tradeOf 18 = .ok (.ireturn, 1) := by decide +kernel
theorem mX3_tradeOf (l : Launch) {Y : Nat → ClassId} {D : va_G} {σ : Nat → Nat} {np b0 : Nat} {M : Mc} {N : Md} {q : Nat} {p0 : Int32} {r : Int32} (hq : is3 q) (hf : fX3_tradeOf M q p0 = some r) : Met l yX3_tradeOf (.code yX3_tradeOf cX3_tradeOf 2 (some .int) :: lw_g) (rmD 2) (PR Y D σ np b0 [.ref (σ q), .int p0] M N) (QR Y D σ np b0 (some (.int r)) M N) 0 0 (xA b0) := by
  refine x_met (by decide) (Nat.le_of_ble_eq_true rfl) (fun p e s m args below meth c hE hr => ?_)
  unfold fX3_tradeOf at hf
  refine x_pick [0, 1] (L' := [(0, .ref (σ q)), (1, .int p0)]) rfl ?_
  refine x_aload_n hE 0 dX3_tradeOf_0 rfl rfl ?_
  refine x_iload_n hE 1 dX3_tradeOf_1 rfl rfl ?_
  obtain ⟨v2, hc1, hf⟩ := bnd_some hf
  refine x_callV1 hE [.int p0] (rest := []) (v := .int v2) (c1 := M) (d1 := N) rfl yokX3_isOne yvX3_isOne lk_X3_69 rfl cl_3 (hE.kd (kO_3 hq)) (by decide) rfl rfl ⟨Nat.le_of_ble_eq_true rfl, Nat.le_of_ble_eq_true rfl⟩ ⟨Nat.zero_le _, Nat.zero_le _⟩ rfl (Nat.le_of_ble_eq_true rfl) dX3_tradeOf_2 (mX3_isOne l hq hc1) ?_
  refine x_if_eq hE 17 dX3_tradeOf_5 (by decide) hf (fun hf => ?_) (fun hf => ?_)
  · refine x_iconst hE (-1) dX3_tradeOf_17 (by decide) ?_
    replace hf := Option.some.inj hf
    subst hf
    exact x_ireturn hE (v := (-1)) hr rfl dX3_tradeOf_18
  · refine x_aload_n hE 0 dX3_tradeOf_8 rfl rfl ?_
    refine x_getR hE cl_3 (hE.kd (kO_3 hq)) (by decide) 4 (q + 1) rfl (by decide) lk_X3_9 dX3_tradeOf_9 ?_
    refine x_iload_n hE 1 dX3_tradeOf_12 rfl rfl ?_
    refine x_iald hE (hE.kd (kB_3_4 hq)) dX3_tradeOf_13 hf (fun hf => ?_)
    refine x_goto hE 18 dX3_tradeOf_14 (by decide) ?_
    replace hf := Option.some.inj hf
    subst hf
    exact x_ireturn hE (v := M (q + 1) p0.toNatClampNeg) hr rfl dX3_tradeOf_18
theorem yokX3_tradeOf : YOK yX3_tradeOf cX3_tradeOf 2 1 (some .int) := ⟨mem_g 1308 (by decide +kernel) (by decide +kernel), mem_g 136 (by decide +kernel) (by decide +kernel), by decide +kernel, by decide +kernel, by decide +kernel⟩
theorem yvX3_tradeOf : YV yX3_tradeOf := ⟨mem_g 1306 (by decide +kernel) (by decide +kernel), mem_g 1307 (by decide +kernel) (by decide +kernel)⟩
theorem dX3_farmsOf_0 : decode cX3_farmsOf 0 = .ok (.aload_n 0, 1) := by decide +kernel
theorem dX3_farmsOf_1 : decode cX3_farmsOf 1 = .ok (.iload_n 1, 1) := by decide +kernel
theorem dX3_farmsOf_2 : decode cX3_farmsOf 2 = .ok (.invokevirtual 69, 3) := by decide +kernel
theorem dX3_farmsOf_5 : decode cX3_farmsOf 5 = .ok (.ifCond .eq 12, 3) := by decide +kernel
theorem dX3_farmsOf_8 : decode cX3_farmsOf 8 = .ok (.aload_n 0, 1) := by decide +kernel
theorem dX3_farmsOf_9 : decode cX3_farmsOf 9 = .ok (.getfield 27, 3) := by decide +kernel
theorem dX3_farmsOf_12 : decode cX3_farmsOf 12 = .ok (.iload_n 1, 1) := by decide +kernel
theorem dX3_farmsOf_13 : decode cX3_farmsOf 13 = .ok (.iaload, 1) := by decide +kernel
theorem dX3_farmsOf_14 : decode cX3_farmsOf 14 = .ok (.goto 4, 3) := by decide +kernel
theorem dX3_farmsOf_17 : decode cX3_farmsOf 17 = .ok (.iconst 0, 1) := by decide +kernel
theorem dX3_farmsOf_18 : decode cX3_farmsOf 18 = .ok (.ireturn, 1) := by decide +kernel
theorem mX3_farmsOf (l : Launch) {Y : Nat → ClassId} {D : va_G} {σ : Nat → Nat} {np b0 : Nat} {M : Mc} {N : Md} {q : Nat} {p0 : Int32} {r : Int32} (hq : is3 q) (hf : fX3_farmsOf M q p0 = some r) : Met l yX3_farmsOf (.code yX3_farmsOf cX3_farmsOf 2 (some .int) :: lw_g) (rmD 2) (PR Y D σ np b0 [.ref (σ q), .int p0] M N) (QR Y D σ np b0 (some (.int r)) M N) 0 0 (xA b0) := by
  refine x_met (by decide) (Nat.le_of_ble_eq_true rfl) (fun p e s m args below meth c hE hr => ?_)
  unfold fX3_farmsOf at hf
  refine x_pick [0, 1] (L' := [(0, .ref (σ q)), (1, .int p0)]) rfl ?_
  refine x_aload_n hE 0 dX3_farmsOf_0 rfl rfl ?_
  refine x_iload_n hE 1 dX3_farmsOf_1 rfl rfl ?_
  obtain ⟨v2, hc1, hf⟩ := bnd_some hf
  refine x_callV1 hE [.int p0] (rest := []) (v := .int v2) (c1 := M) (d1 := N) rfl yokX3_isOne yvX3_isOne lk_X3_69 rfl cl_3 (hE.kd (kO_3 hq)) (by decide) rfl rfl ⟨Nat.le_of_ble_eq_true rfl, Nat.le_of_ble_eq_true rfl⟩ ⟨Nat.zero_le _, Nat.zero_le _⟩ rfl (Nat.le_of_ble_eq_true rfl) dX3_farmsOf_2 (mX3_isOne l hq hc1) ?_
  refine x_if_eq hE 17 dX3_farmsOf_5 (by decide) hf (fun hf => ?_) (fun hf => ?_)
  · refine x_iconst hE (0 : Int32) dX3_farmsOf_17 (by decide) ?_
    replace hf := Option.some.inj hf
    subst hf
    exact x_ireturn hE (v := 0) hr rfl dX3_farmsOf_18
  · refine x_aload_n hE 0 dX3_farmsOf_8 rfl rfl ?_
    refine x_getR hE cl_3 (hE.kd (kO_3 hq)) (by decide) 9 (q + 6) rfl (by decide) lk_X3_27 dX3_farmsOf_9 ?_
    refine x_iload_n hE 1 dX3_farmsOf_12 rfl rfl ?_
    refine x_iald hE (hE.kd (kB_3_9 hq)) dX3_farmsOf_13 hf (fun hf => ?_)
    refine x_goto hE 18 dX3_farmsOf_14 (by decide) ?_
    replace hf := Option.some.inj hf
    subst hf
    exact x_ireturn hE (v := M (q + 6) p0.toNatClampNeg) hr rfl dX3_farmsOf_18
theorem yokX3_farmsOf : YOK yX3_farmsOf cX3_farmsOf 2 1 (some .int) := ⟨mem_g 1538 (by decide +kernel) (by decide +kernel), mem_g 136 (by decide +kernel) (by decide +kernel), by decide +kernel, by decide +kernel, by decide +kernel⟩
theorem yvX3_farmsOf : YV yX3_farmsOf := ⟨mem_g 1536 (by decide +kernel) (by decide +kernel), mem_g 1537 (by decide +kernel) (by decide +kernel)⟩
theorem dX3_handsOf_0 : decode cX3_handsOf 0 = .ok (.aload_n 0, 1) := by decide +kernel
theorem dX3_handsOf_1 : decode cX3_handsOf 1 = .ok (.iload_n 1, 1) := by decide +kernel
theorem dX3_handsOf_2 : decode cX3_handsOf 2 = .ok (.invokevirtual 69, 3) := by decide +kernel
theorem dX3_handsOf_5 : decode cX3_handsOf 5 = .ok (.ifCond .eq 12, 3) := by decide +kernel
theorem dX3_handsOf_8 : decode cX3_handsOf 8 = .ok (.aload_n 0, 1) := by decide +kernel
theorem dX3_handsOf_9 : decode cX3_handsOf 9 = .ok (.getfield 24, 3) := by decide +kernel
theorem dX3_handsOf_12 : decode cX3_handsOf 12 = .ok (.iload_n 1, 1) := by decide +kernel
theorem dX3_handsOf_13 : decode cX3_handsOf 13 = .ok (.iaload, 1) := by decide +kernel
theorem dX3_handsOf_14 : decode cX3_handsOf 14 = .ok (.goto 4, 3) := by decide +kernel
theorem dX3_handsOf_17 : decode cX3_handsOf 17 = .ok (.iconst 0, 1) := by decide +kernel
theorem dX3_handsOf_18 : decode cX3_handsOf 18 = .ok (.ireturn, 1) := by decide +kernel
theorem mX3_handsOf (l : Launch) {Y : Nat → ClassId} {D : va_G} {σ : Nat → Nat} {np b0 : Nat} {M : Mc} {N : Md} {q : Nat} {p0 : Int32} {r : Int32} (hq : is3 q) (hf : fX3_handsOf M q p0 = some r) : Met l yX3_handsOf (.code yX3_handsOf cX3_handsOf 2 (some .int) :: lw_g) (rmD 2) (PR Y D σ np b0 [.ref (σ q), .int p0] M N) (QR Y D σ np b0 (some (.int r)) M N) 0 0 (xA b0) := by
  refine x_met (by decide) (Nat.le_of_ble_eq_true rfl) (fun p e s m args below meth c hE hr => ?_)
  unfold fX3_handsOf at hf
  refine x_pick [0, 1] (L' := [(0, .ref (σ q)), (1, .int p0)]) rfl ?_
  refine x_aload_n hE 0 dX3_handsOf_0 rfl rfl ?_
  refine x_iload_n hE 1 dX3_handsOf_1 rfl rfl ?_
  obtain ⟨v2, hc1, hf⟩ := bnd_some hf
  refine x_callV1 hE [.int p0] (rest := []) (v := .int v2) (c1 := M) (d1 := N) rfl yokX3_isOne yvX3_isOne lk_X3_69 rfl cl_3 (hE.kd (kO_3 hq)) (by decide) rfl rfl ⟨Nat.le_of_ble_eq_true rfl, Nat.le_of_ble_eq_true rfl⟩ ⟨Nat.zero_le _, Nat.zero_le _⟩ rfl (Nat.le_of_ble_eq_true rfl) dX3_handsOf_2 (mX3_isOne l hq hc1) ?_
  refine x_if_eq hE 17 dX3_handsOf_5 (by decide) hf (fun hf => ?_) (fun hf => ?_)
  · refine x_iconst hE (0 : Int32) dX3_handsOf_17 (by decide) ?_
    replace hf := Option.some.inj hf
    subst hf
    exact x_ireturn hE (v := 0) hr rfl dX3_handsOf_18
  · refine x_aload_n hE 0 dX3_handsOf_8 rfl rfl ?_
    refine x_getR hE cl_3 (hE.kd (kO_3 hq)) (by decide) 8 (q + 5) rfl (by decide) lk_X3_24 dX3_handsOf_9 ?_
    refine x_iload_n hE 1 dX3_handsOf_12 rfl rfl ?_
    refine x_iald hE (hE.kd (kB_3_8 hq)) dX3_handsOf_13 hf (fun hf => ?_)
    refine x_goto hE 18 dX3_handsOf_14 (by decide) ?_
    replace hf := Option.some.inj hf
    subst hf
    exact x_ireturn hE (v := M (q + 5) p0.toNatClampNeg) hr rfl dX3_handsOf_18
theorem yokX3_handsOf : YOK yX3_handsOf cX3_handsOf 2 1 (some .int) := ⟨mem_g 1831 (by decide +kernel) (by decide +kernel), mem_g 136 (by decide +kernel) (by decide +kernel), by decide +kernel, by decide +kernel, by decide +kernel⟩
theorem yvX3_handsOf : YV yX3_handsOf := ⟨mem_g 1829 (by decide +kernel) (by decide +kernel), mem_g 1830 (by decide +kernel) (by decide +kernel)⟩
theorem dX3_orderOf_0 : decode cX3_orderOf 0 = .ok (.aload_n 0, 1) := by decide +kernel
theorem dX3_orderOf_1 : decode cX3_orderOf 1 = .ok (.iload_n 1, 1) := by decide +kernel
theorem dX3_orderOf_2 : decode cX3_orderOf 2 = .ok (.invokevirtual 69, 3) := by decide +kernel
theorem dX3_orderOf_5 : decode cX3_orderOf 5 = .ok (.ifCond .eq 12, 3) := by decide +kernel
theorem dX3_orderOf_8 : decode cX3_orderOf 8 = .ok (.aload_n 0, 1) := by decide +kernel
theorem dX3_orderOf_9 : decode cX3_orderOf 9 = .ok (.getfield 30, 3) := by decide +kernel
theorem dX3_orderOf_12 : decode cX3_orderOf 12 = .ok (.iload_n 1, 1) := by decide +kernel
theorem dX3_orderOf_13 : decode cX3_orderOf 13 = .ok (.iaload, 1) := by decide +kernel
theorem dX3_orderOf_14 : decode cX3_orderOf 14 = .ok (.goto 4, 3) := by decide +kernel
theorem dX3_orderOf_17 : decode cX3_orderOf 17 = .ok (.iconst (-1), 1) := by decide +kernel
theorem dX3_orderOf_18 : decode cX3_orderOf 18 = .ok (.ireturn, 1) := by decide +kernel
theorem mX3_orderOf (l : Launch) {Y : Nat → ClassId} {D : va_G} {σ : Nat → Nat} {np b0 : Nat} {M : Mc} {N : Md} {q : Nat} {p0 : Int32} {r : Int32} (hq : is3 q) (hf : fX3_orderOf M q p0 = some r) : Met l yX3_orderOf (.code yX3_orderOf cX3_orderOf 2 (some .int) :: lw_g) (rmD 2) (PR Y D σ np b0 [.ref (σ q), .int p0] M N) (QR Y D σ np b0 (some (.int r)) M N) 0 0 (xA b0) := by
  refine x_met (by decide) (Nat.le_of_ble_eq_true rfl) (fun p e s m args below meth c hE hr => ?_)
  unfold fX3_orderOf at hf
  refine x_pick [0, 1] (L' := [(0, .ref (σ q)), (1, .int p0)]) rfl ?_
  refine x_aload_n hE 0 dX3_orderOf_0 rfl rfl ?_
  refine x_iload_n hE 1 dX3_orderOf_1 rfl rfl ?_
  obtain ⟨v2, hc1, hf⟩ := bnd_some hf
  refine x_callV1 hE [.int p0] (rest := []) (v := .int v2) (c1 := M) (d1 := N) rfl yokX3_isOne yvX3_isOne lk_X3_69 rfl cl_3 (hE.kd (kO_3 hq)) (by decide) rfl rfl ⟨Nat.le_of_ble_eq_true rfl, Nat.le_of_ble_eq_true rfl⟩ ⟨Nat.zero_le _, Nat.zero_le _⟩ rfl (Nat.le_of_ble_eq_true rfl) dX3_orderOf_2 (mX3_isOne l hq hc1) ?_
  refine x_if_eq hE 17 dX3_orderOf_5 (by decide) hf (fun hf => ?_) (fun hf => ?_)
  · refine x_iconst hE (-1) dX3_orderOf_17 (by decide) ?_
    replace hf := Option.some.inj hf
    subst hf
    exact x_ireturn hE (v := (-1)) hr rfl dX3_orderOf_18
  · refine x_aload_n hE 0 dX3_orderOf_8 rfl rfl ?_
    refine x_getR hE cl_3 (hE.kd (kO_3 hq)) (by decide) 10 (q + 7) rfl (by decide) lk_X3_30 dX3_orderOf_9 ?_
    refine x_iload_n hE 1 dX3_orderOf_12 rfl rfl ?_
    refine x_iald hE (hE.kd (kB_3_10 hq)) dX3_orderOf_13 hf (fun hf => ?_)
    refine x_goto hE 18 dX3_orderOf_14 (by decide) ?_
    replace hf := Option.some.inj hf
    subst hf
    exact x_ireturn hE (v := M (q + 7) p0.toNatClampNeg) hr rfl dX3_orderOf_18
theorem yokX3_orderOf : YOK yX3_orderOf cX3_orderOf 2 1 (some .int) := ⟨mem_g 1216 (by decide +kernel) (by decide +kernel), mem_g 136 (by decide +kernel) (by decide +kernel), by decide +kernel, by decide +kernel, by decide +kernel⟩
theorem yvX3_orderOf : YV yX3_orderOf := ⟨mem_g 1214 (by decide +kernel) (by decide +kernel), mem_g 1215 (by decide +kernel) (by decide +kernel)⟩
theorem dX3_coinsOf_0 : decode cX3_coinsOf 0 = .ok (.aload_n 0, 1) := by decide +kernel
theorem dX3_coinsOf_1 : decode cX3_coinsOf 1 = .ok (.iload_n 1, 1) := by decide +kernel
theorem dX3_coinsOf_2 : decode cX3_coinsOf 2 = .ok (.invokevirtual 69, 3) := by decide +kernel
theorem dX3_coinsOf_5 : decode cX3_coinsOf 5 = .ok (.ifCond .eq 12, 3) := by decide +kernel
theorem dX3_coinsOf_8 : decode cX3_coinsOf 8 = .ok (.aload_n 0, 1) := by decide +kernel
theorem dX3_coinsOf_9 : decode cX3_coinsOf 9 = .ok (.getfield 15, 3) := by decide +kernel
theorem dX3_coinsOf_12 : decode cX3_coinsOf 12 = .ok (.iload_n 1, 1) := by decide +kernel
theorem dX3_coinsOf_13 : decode cX3_coinsOf 13 = .ok (.iaload, 1) := by decide +kernel
theorem dX3_coinsOf_14 : decode cX3_coinsOf 14 = .ok (.goto 4, 3) := by decide +kernel
theorem dX3_coinsOf_17 : decode cX3_coinsOf 17 = .ok (.iconst 0, 1) := by decide +kernel
theorem dX3_coinsOf_18 : decode cX3_coinsOf 18 = .ok (.ireturn, 1) := by decide +kernel
theorem mX3_coinsOf (l : Launch) {Y : Nat → ClassId} {D : va_G} {σ : Nat → Nat} {np b0 : Nat} {M : Mc} {N : Md} {q : Nat} {p0 : Int32} {r : Int32} (hq : is3 q) (hf : fX3_coinsOf M q p0 = some r) : Met l yX3_coinsOf (.code yX3_coinsOf cX3_coinsOf 2 (some .int) :: lw_g) (rmD 2) (PR Y D σ np b0 [.ref (σ q), .int p0] M N) (QR Y D σ np b0 (some (.int r)) M N) 0 0 (xA b0) := by
  refine x_met (by decide) (Nat.le_of_ble_eq_true rfl) (fun p e s m args below meth c hE hr => ?_)
  unfold fX3_coinsOf at hf
  refine x_pick [0, 1] (L' := [(0, .ref (σ q)), (1, .int p0)]) rfl ?_
  refine x_aload_n hE 0 dX3_coinsOf_0 rfl rfl ?_
  refine x_iload_n hE 1 dX3_coinsOf_1 rfl rfl ?_
  obtain ⟨v2, hc1, hf⟩ := bnd_some hf
  refine x_callV1 hE [.int p0] (rest := []) (v := .int v2) (c1 := M) (d1 := N) rfl yokX3_isOne yvX3_isOne lk_X3_69 rfl cl_3 (hE.kd (kO_3 hq)) (by decide) rfl rfl ⟨Nat.le_of_ble_eq_true rfl, Nat.le_of_ble_eq_true rfl⟩ ⟨Nat.zero_le _, Nat.zero_le _⟩ rfl (Nat.le_of_ble_eq_true rfl) dX3_coinsOf_2 (mX3_isOne l hq hc1) ?_
  refine x_if_eq hE 17 dX3_coinsOf_5 (by decide) hf (fun hf => ?_) (fun hf => ?_)
  · refine x_iconst hE (0 : Int32) dX3_coinsOf_17 (by decide) ?_
    replace hf := Option.some.inj hf
    subst hf
    exact x_ireturn hE (v := 0) hr rfl dX3_coinsOf_18
  · refine x_aload_n hE 0 dX3_coinsOf_8 rfl rfl ?_
    refine x_getR hE cl_3 (hE.kd (kO_3 hq)) (by decide) 5 (q + 2) rfl (by decide) lk_X3_15 dX3_coinsOf_9 ?_
    refine x_iload_n hE 1 dX3_coinsOf_12 rfl rfl ?_
    refine x_iald hE (hE.kd (kB_3_5 hq)) dX3_coinsOf_13 hf (fun hf => ?_)
    refine x_goto hE 18 dX3_coinsOf_14 (by decide) ?_
    replace hf := Option.some.inj hf
    subst hf
    exact x_ireturn hE (v := M (q + 2) p0.toNatClampNeg) hr rfl dX3_coinsOf_18
theorem yokX3_coinsOf : YOK yX3_coinsOf cX3_coinsOf 2 1 (some .int) := ⟨mem_g 712 (by decide +kernel) (by decide +kernel), mem_g 136 (by decide +kernel) (by decide +kernel), by decide +kernel, by decide +kernel, by decide +kernel⟩
theorem yvX3_coinsOf : YV yX3_coinsOf := ⟨mem_g 710 (by decide +kernel) (by decide +kernel), mem_g 711 (by decide +kernel) (by decide +kernel)⟩
theorem dX3_fact_0 : decode cX3_fact 0 = .ok (.aload_n 0, 1) := by decide +kernel
theorem dX3_fact_1 : decode cX3_fact 1 = .ok (.iload_n 1, 1) := by decide +kernel
theorem dX3_fact_2 : decode cX3_fact 2 = .ok (.invokevirtual 69, 3) := by decide +kernel
theorem dX3_fact_5 : decode cX3_fact 5 = .ok (.ifCond .ne 5, 3) := by decide +kernel
theorem dX3_fact_8 : decode cX3_fact 8 = .ok (.iconst (-1), 1) := by decide +kernel
theorem dX3_fact_9 : decode cX3_fact 9 = .ok (.ireturn, 1) := by decide +kernel
theorem dX3_fact_10 : decode cX3_fact 10 = .ok (.iload_n 2, 1) := by decide +kernel
theorem dX3_fact_11 : decode cX3_fact 11 = .ok (.tableswitch 101 0 7 #[45, 52, 59, 66, 73, 80, 87, 94], 45) := by decide +kernel
theorem dX3_fact_56 : decode cX3_fact 56 = .ok (.aload_n 0, 1) := by decide +kernel
theorem dX3_fact_57 : decode cX3_fact 57 = .ok (.getfield 9, 3) := by decide +kernel
theorem dX3_fact_60 : decode cX3_fact 60 = .ok (.iload_n 1, 1) := by decide +kernel
theorem dX3_fact_61 : decode cX3_fact 61 = .ok (.iaload, 1) := by decide +kernel
theorem dX3_fact_62 : decode cX3_fact 62 = .ok (.ireturn, 1) := by decide +kernel
theorem dX3_fact_63 : decode cX3_fact 63 = .ok (.aload_n 0, 1) := by decide +kernel
theorem dX3_fact_64 : decode cX3_fact 64 = .ok (.getfield 15, 3) := by decide +kernel
theorem dX3_fact_67 : decode cX3_fact 67 = .ok (.iload_n 1, 1) := by decide +kernel
theorem dX3_fact_68 : decode cX3_fact 68 = .ok (.iaload, 1) := by decide +kernel
theorem dX3_fact_69 : decode cX3_fact 69 = .ok (.ireturn, 1) := by decide +kernel
theorem dX3_fact_70 : decode cX3_fact 70 = .ok (.aload_n 0, 1) := by decide +kernel
theorem dX3_fact_71 : decode cX3_fact 71 = .ok (.getfield 18, 3) := by decide +kernel
theorem dX3_fact_74 : decode cX3_fact 74 = .ok (.iload_n 1, 1) := by decide +kernel
theorem dX3_fact_75 : decode cX3_fact 75 = .ok (.iaload, 1) := by decide +kernel
theorem dX3_fact_76 : decode cX3_fact 76 = .ok (.ireturn, 1) := by decide +kernel
theorem dX3_fact_77 : decode cX3_fact 77 = .ok (.aload_n 0, 1) := by decide +kernel
theorem dX3_fact_78 : decode cX3_fact 78 = .ok (.getfield 21, 3) := by decide +kernel
theorem dX3_fact_81 : decode cX3_fact 81 = .ok (.iload_n 1, 1) := by decide +kernel
theorem dX3_fact_82 : decode cX3_fact 82 = .ok (.iaload, 1) := by decide +kernel
theorem dX3_fact_83 : decode cX3_fact 83 = .ok (.ireturn, 1) := by decide +kernel
theorem dX3_fact_84 : decode cX3_fact 84 = .ok (.aload_n 0, 1) := by decide +kernel
theorem dX3_fact_85 : decode cX3_fact 85 = .ok (.getfield 24, 3) := by decide +kernel
theorem dX3_fact_88 : decode cX3_fact 88 = .ok (.iload_n 1, 1) := by decide +kernel
theorem dX3_fact_89 : decode cX3_fact 89 = .ok (.iaload, 1) := by decide +kernel
theorem dX3_fact_90 : decode cX3_fact 90 = .ok (.ireturn, 1) := by decide +kernel
theorem dX3_fact_91 : decode cX3_fact 91 = .ok (.aload_n 0, 1) := by decide +kernel
theorem dX3_fact_92 : decode cX3_fact 92 = .ok (.getfield 27, 3) := by decide +kernel
theorem dX3_fact_95 : decode cX3_fact 95 = .ok (.iload_n 1, 1) := by decide +kernel
theorem dX3_fact_96 : decode cX3_fact 96 = .ok (.iaload, 1) := by decide +kernel
theorem dX3_fact_97 : decode cX3_fact 97 = .ok (.ireturn, 1) := by decide +kernel
theorem dX3_fact_98 : decode cX3_fact 98 = .ok (.aload_n 0, 1) := by decide +kernel
theorem dX3_fact_99 : decode cX3_fact 99 = .ok (.getfield 30, 3) := by decide +kernel
theorem dX3_fact_102 : decode cX3_fact 102 = .ok (.iload_n 1, 1) := by decide +kernel
theorem dX3_fact_103 : decode cX3_fact 103 = .ok (.iaload, 1) := by decide +kernel
theorem dX3_fact_104 : decode cX3_fact 104 = .ok (.ireturn, 1) := by decide +kernel
theorem dX3_fact_105 : decode cX3_fact 105 = .ok (.aload_n 0, 1) := by decide +kernel
theorem dX3_fact_106 : decode cX3_fact 106 = .ok (.getfield 40, 3) := by decide +kernel
theorem dX3_fact_109 : decode cX3_fact 109 = .ok (.iload_n 1, 1) := by decide +kernel
theorem dX3_fact_110 : decode cX3_fact 110 = .ok (.iaload, 1) := by decide +kernel
theorem dX3_fact_111 : decode cX3_fact 111 = .ok (.ireturn, 1) := by decide +kernel
theorem dX3_fact_112 : decode cX3_fact 112 = .ok (.aload_n 0, 1) := by decide +kernel
theorem dX3_fact_113 : decode cX3_fact 113 = .ok (.getfield 43, 3) := by decide +kernel
theorem dX3_fact_116 : decode cX3_fact 116 = .ok (.iload_n 1, 1) := by decide +kernel
theorem dX3_fact_117 : decode cX3_fact 117 = .ok (.iaload, 1) := by decide +kernel
theorem dX3_fact_118 : decode cX3_fact 118 = .ok (.ireturn, 1) := by decide +kernel
theorem mX3_fact (l : Launch) {Y : Nat → ClassId} {D : va_G} {σ : Nat → Nat} {np b0 : Nat} {M : Mc} {N : Md} {q : Nat} {p0 : Int32} {p1 : Int32} {r : Int32} (hq : is3 q) (hf : fX3_fact M q p0 p1 = some r) : Met l yX3_fact (.code yX3_fact cX3_fact 3 (some .int) :: lw_g) (rmD 2) (PR Y D σ np b0 [.ref (σ q), .int p0, .int p1] M N) (QR Y D σ np b0 (some (.int r)) M N) 0 0 (xA b0) := by
  refine x_met (by decide) (Nat.le_of_ble_eq_true rfl) (fun p e s m args below meth c hE hr => ?_)
  unfold fX3_fact at hf
  refine x_pick [0, 1, 2] (L' := [(0, .ref (σ q)), (1, .int p0), (2, .int p1)]) rfl ?_
  refine x_aload_n hE 0 dX3_fact_0 rfl rfl ?_
  refine x_iload_n hE 1 dX3_fact_1 rfl rfl ?_
  obtain ⟨v2, hc1, hf⟩ := bnd_some hf
  refine x_callV1 hE [.int p0] (rest := []) (v := .int v2) (c1 := M) (d1 := N) rfl yokX3_isOne yvX3_isOne lk_X3_69 rfl cl_3 (hE.kd (kO_3 hq)) (by decide) rfl rfl ⟨Nat.le_of_ble_eq_true rfl, Nat.le_of_ble_eq_true rfl⟩ ⟨Nat.zero_le _, Nat.zero_le _⟩ rfl (Nat.le_of_ble_eq_true rfl) dX3_fact_2 (mX3_isOne l hq hc1) ?_
  refine x_if_ne hE 10 dX3_fact_5 (by decide) hf (fun hf => ?_) (fun hf => ?_)
  · refine x_iload_n hE 2 dX3_fact_10 rfl rfl ?_
    refine x_swi (0) hf (fun hsw hf => ?_) (fun hsw0 hf => ?_)
    · refine x_tabI hE 56 dX3_fact_11 hsw (by decide) (by decide) rfl (by decide) ?_
      refine x_aload_n hE 0 dX3_fact_56 rfl rfl ?_
      refine x_getR hE cl_3 (hE.kd (kO_3 hq)) (by decide) 4 (q + 1) rfl (by decide) lk_X3_9 dX3_fact_57 ?_
      refine x_iload_n hE 1 dX3_fact_60 rfl rfl ?_
      refine x_iald hE (hE.kd (kB_3_4 hq)) dX3_fact_61 hf (fun hf => ?_)
      replace hf := Option.some.inj hf
      subst hf
      exact x_ireturn hE (v := M (q + 1) p0.toNatClampNeg) hr rfl dX3_fact_62
    refine x_swi (nI 1) hf (fun hsw hf => ?_) (fun hsw1 hf => ?_)
    · refine x_tabI hE 63 dX3_fact_11 hsw (by decide) (by decide) rfl (by decide) ?_
      refine x_aload_n hE 0 dX3_fact_63 rfl rfl ?_
      refine x_getR hE cl_3 (hE.kd (kO_3 hq)) (by decide) 5 (q + 2) rfl (by decide) lk_X3_15 dX3_fact_64 ?_
      refine x_iload_n hE 1 dX3_fact_67 rfl rfl ?_
      refine x_iald hE (hE.kd (kB_3_5 hq)) dX3_fact_68 hf (fun hf => ?_)
      replace hf := Option.some.inj hf
      subst hf
      exact x_ireturn hE (v := M (q + 2) p0.toNatClampNeg) hr rfl dX3_fact_69
    refine x_swi (nI 2) hf (fun hsw hf => ?_) (fun hsw2 hf => ?_)
    · refine x_tabI hE 70 dX3_fact_11 hsw (by decide) (by decide) rfl (by decide) ?_
      refine x_aload_n hE 0 dX3_fact_70 rfl rfl ?_
      refine x_getR hE cl_3 (hE.kd (kO_3 hq)) (by decide) 6 (q + 3) rfl (by decide) lk_X3_18 dX3_fact_71 ?_
      refine x_iload_n hE 1 dX3_fact_74 rfl rfl ?_
      refine x_iald hE (hE.kd (kB_3_6 hq)) dX3_fact_75 hf (fun hf => ?_)
      replace hf := Option.some.inj hf
      subst hf
      exact x_ireturn hE (v := M (q + 3) p0.toNatClampNeg) hr rfl dX3_fact_76
    refine x_swi (nI 3) hf (fun hsw hf => ?_) (fun hsw3 hf => ?_)
    · refine x_tabI hE 77 dX3_fact_11 hsw (by decide) (by decide) rfl (by decide) ?_
      refine x_aload_n hE 0 dX3_fact_77 rfl rfl ?_
      refine x_getR hE cl_3 (hE.kd (kO_3 hq)) (by decide) 7 (q + 4) rfl (by decide) lk_X3_21 dX3_fact_78 ?_
      refine x_iload_n hE 1 dX3_fact_81 rfl rfl ?_
      refine x_iald hE (hE.kd (kB_3_7 hq)) dX3_fact_82 hf (fun hf => ?_)
      replace hf := Option.some.inj hf
      subst hf
      exact x_ireturn hE (v := M (q + 4) p0.toNatClampNeg) hr rfl dX3_fact_83
    refine x_swi (nI 4) hf (fun hsw hf => ?_) (fun hsw4 hf => ?_)
    · refine x_tabI hE 84 dX3_fact_11 hsw (by decide) (by decide) rfl (by decide) ?_
      refine x_aload_n hE 0 dX3_fact_84 rfl rfl ?_
      refine x_getR hE cl_3 (hE.kd (kO_3 hq)) (by decide) 8 (q + 5) rfl (by decide) lk_X3_24 dX3_fact_85 ?_
      refine x_iload_n hE 1 dX3_fact_88 rfl rfl ?_
      refine x_iald hE (hE.kd (kB_3_8 hq)) dX3_fact_89 hf (fun hf => ?_)
      replace hf := Option.some.inj hf
      subst hf
      exact x_ireturn hE (v := M (q + 5) p0.toNatClampNeg) hr rfl dX3_fact_90
    refine x_swi (nI 5) hf (fun hsw hf => ?_) (fun hsw5 hf => ?_)
    · refine x_tabI hE 91 dX3_fact_11 hsw (by decide) (by decide) rfl (by decide) ?_
      refine x_aload_n hE 0 dX3_fact_91 rfl rfl ?_
      refine x_getR hE cl_3 (hE.kd (kO_3 hq)) (by decide) 9 (q + 6) rfl (by decide) lk_X3_27 dX3_fact_92 ?_
      refine x_iload_n hE 1 dX3_fact_95 rfl rfl ?_
      refine x_iald hE (hE.kd (kB_3_9 hq)) dX3_fact_96 hf (fun hf => ?_)
      replace hf := Option.some.inj hf
      subst hf
      exact x_ireturn hE (v := M (q + 6) p0.toNatClampNeg) hr rfl dX3_fact_97
    refine x_swi (nI 6) hf (fun hsw hf => ?_) (fun hsw6 hf => ?_)
    · refine x_tabI hE 98 dX3_fact_11 hsw (by decide) (by decide) rfl (by decide) ?_
      refine x_aload_n hE 0 dX3_fact_98 rfl rfl ?_
      refine x_getR hE cl_3 (hE.kd (kO_3 hq)) (by decide) 10 (q + 7) rfl (by decide) lk_X3_30 dX3_fact_99 ?_
      refine x_iload_n hE 1 dX3_fact_102 rfl rfl ?_
      refine x_iald hE (hE.kd (kB_3_10 hq)) dX3_fact_103 hf (fun hf => ?_)
      replace hf := Option.some.inj hf
      subst hf
      exact x_ireturn hE (v := M (q + 7) p0.toNatClampNeg) hr rfl dX3_fact_104
    refine x_swi (nI 7) hf (fun hsw hf => ?_) (fun hsw7 hf => ?_)
    · refine x_tabI hE 105 dX3_fact_11 hsw (by decide) (by decide) rfl (by decide) ?_
      refine x_aload_n hE 0 dX3_fact_105 rfl rfl ?_
      refine x_getR hE cl_3 (hE.kd (kO_3 hq)) (by decide) 13 (q + 10) rfl (by decide) lk_X3_40 dX3_fact_106 ?_
      refine x_iload_n hE 1 dX3_fact_109 rfl rfl ?_
      refine x_iald hE (hE.kd (kB_3_13 hq)) dX3_fact_110 hf (fun hf => ?_)
      replace hf := Option.some.inj hf
      subst hf
      exact x_ireturn hE (v := M (q + 10) p0.toNatClampNeg) hr rfl dX3_fact_111
    refine x_tabO hE 112 dX3_fact_11 (x_out 8 rfl (fun k hk => match k, hk with | 0, _ => x_ne hsw0 (by decide) | 1, _ => x_ne hsw1 (by decide) | 2, _ => x_ne hsw2 (by decide) | 3, _ => x_ne hsw3 (by decide) | 4, _ => x_ne hsw4 (by decide) | 5, _ => x_ne hsw5 (by decide) | 6, _ => x_ne hsw6 (by decide) | 7, _ => x_ne hsw7 (by decide) | k + 8, hk => absurd hk (by omega))) (by decide) ?_
    refine x_aload_n hE 0 dX3_fact_112 rfl rfl ?_
    refine x_getR hE cl_3 (hE.kd (kO_3 hq)) (by decide) 14 (q + 11) rfl (by decide) lk_X3_43 dX3_fact_113 ?_
    refine x_iload_n hE 1 dX3_fact_116 rfl rfl ?_
    refine x_iald hE (hE.kd (kB_3_14 hq)) dX3_fact_117 hf (fun hf => ?_)
    replace hf := Option.some.inj hf
    subst hf
    exact x_ireturn hE (v := M (q + 11) p0.toNatClampNeg) hr rfl dX3_fact_118
  · refine x_iconst hE (-1) dX3_fact_8 (by decide) ?_
    replace hf := Option.some.inj hf
    subst hf
    exact x_ireturn hE (v := (-1)) hr rfl dX3_fact_9
theorem yokX3_fact : YOK yX3_fact cX3_fact 3 2 (some .int) := ⟨mem_g 979 (by decide +kernel) (by decide +kernel), mem_g 136 (by decide +kernel) (by decide +kernel), by decide +kernel, by decide +kernel, by decide +kernel⟩
theorem yvX3_fact : YV yX3_fact := ⟨mem_g 977 (by decide +kernel) (by decide +kernel), mem_g 978 (by decide +kernel) (by decide +kernel)⟩
theorem dX3_canPay_0 : decode cX3_canPay 0 = .ok (.aload_n 0, 1) := by decide +kernel
theorem dX3_canPay_1 : decode cX3_canPay 1 = .ok (.iload_n 1, 1) := by decide +kernel
theorem dX3_canPay_2 : decode cX3_canPay 2 = .ok (.invokevirtual 69, 3) := by decide +kernel
theorem dX3_canPay_5 : decode cX3_canPay 5 = .ok (.ifCond .eq 17, 3) := by decide +kernel
theorem dX3_canPay_8 : decode cX3_canPay 8 = .ok (.aload_n 0, 1) := by decide +kernel
theorem dX3_canPay_9 : decode cX3_canPay 9 = .ok (.getfield 15, 3) := by decide +kernel
theorem dX3_canPay_12 : decode cX3_canPay 12 = .ok (.iload_n 1, 1) := by decide +kernel
theorem dX3_canPay_13 : decode cX3_canPay 13 = .ok (.iaload, 1) := by decide +kernel
theorem dX3_canPay_14 : decode cX3_canPay 14 = .ok (.iload_n 2, 1) := by decide +kernel
theorem dX3_canPay_15 : decode cX3_canPay 15 = .ok (.if_icmp .lt 7, 3) := by decide +kernel
theorem dX3_canPay_18 : decode cX3_canPay 18 = .ok (.iconst 1, 1) := by decide +kernel
theorem dX3_canPay_19 : decode cX3_canPay 19 = .ok (.goto 4, 3) := by decide +kernel
theorem dX3_canPay_22 : decode cX3_canPay 22 = .ok (.iconst 0, 1) := by decide +kernel
theorem dX3_canPay_23 : decode cX3_canPay 23 = .ok (.ireturn, 1) := by decide +kernel
theorem mX3_canPay (l : Launch) {Y : Nat → ClassId} {D : va_G} {σ : Nat → Nat} {np b0 : Nat} {M : Mc} {N : Md} {q : Nat} {p0 : Int32} {p1 : Int32} {r : Int32} (hq : is3 q) (hf : fX3_canPay M q p0 p1 = some r) : Met l yX3_canPay (.code yX3_canPay cX3_canPay 3 (some .boolean) :: lw_g) (rmD 2) (PR Y D σ np b0 [.ref (σ q), .int p0, .int p1] M N) (QR Y D σ np b0 (some (.int r)) M N) 0 0 (xA b0) := by
  refine x_met (by decide) (Nat.le_of_ble_eq_true rfl) (fun p e s m args below meth c hE hr => ?_)
  unfold fX3_canPay at hf
  refine x_pick [0, 1, 2] (L' := [(0, .ref (σ q)), (1, .int p0), (2, .int p1)]) rfl ?_
  refine x_aload_n hE 0 dX3_canPay_0 rfl rfl ?_
  refine x_iload_n hE 1 dX3_canPay_1 rfl rfl ?_
  obtain ⟨v2, hc1, hf⟩ := bnd_some hf
  refine x_callV1 hE [.int p0] (rest := []) (v := .int v2) (c1 := M) (d1 := N) rfl yokX3_isOne yvX3_isOne lk_X3_69 rfl cl_3 (hE.kd (kO_3 hq)) (by decide) rfl rfl ⟨Nat.le_of_ble_eq_true rfl, Nat.le_of_ble_eq_true rfl⟩ ⟨Nat.zero_le _, Nat.zero_le _⟩ rfl (Nat.le_of_ble_eq_true rfl) dX3_canPay_2 (mX3_isOne l hq hc1) ?_
  refine x_if_eq hE 22 dX3_canPay_5 (by decide) hf (fun hf => ?_) (fun hf => ?_)
  · refine x_iconst hE (0 : Int32) dX3_canPay_22 (by decide) ?_
    replace hf := Option.some.inj hf
    subst hf
    exact x_ireturn hE (v := 0) hr rfl dX3_canPay_23
  · refine x_aload_n hE 0 dX3_canPay_8 rfl rfl ?_
    refine x_getR hE cl_3 (hE.kd (kO_3 hq)) (by decide) 5 (q + 2) rfl (by decide) lk_X3_15 dX3_canPay_9 ?_
    refine x_iload_n hE 1 dX3_canPay_12 rfl rfl ?_
    refine x_iald hE (hE.kd (kB_3_5 hq)) dX3_canPay_13 hf (fun hf => ?_)
    refine x_iload_n hE 2 dX3_canPay_14 rfl rfl ?_
    refine x_icmp_lt hE 22 dX3_canPay_15 (by decide) hf (fun hf => ?_) (fun hf => ?_)
    · refine x_iconst hE (0 : Int32) dX3_canPay_22 (by decide) ?_
      replace hf := Option.some.inj hf
      subst hf
      exact x_ireturn hE (v := 0) hr rfl dX3_canPay_23
    · refine x_iconst hE (nI 1) dX3_canPay_18 (by decide) ?_
      refine x_goto hE 23 dX3_canPay_19 (by decide) ?_
      replace hf := Option.some.inj hf
      subst hf
      exact x_ireturn hE (v := nI 1) hr rfl dX3_canPay_23
theorem yokX3_canPay : YOK yX3_canPay cX3_canPay 3 2 (some .boolean) := ⟨mem_g 1180 (by decide +kernel) (by decide +kernel), mem_g 136 (by decide +kernel) (by decide +kernel), by decide +kernel, by decide +kernel, by decide +kernel⟩
theorem yvX3_canPay : YV yX3_canPay := ⟨mem_g 1178 (by decide +kernel) (by decide +kernel), mem_g 1179 (by decide +kernel) (by decide +kernel)⟩
theorem dX3_spend_0 : decode cX3_spend 0 = .ok (.aload_n 0, 1) := by decide +kernel
theorem dX3_spend_1 : decode cX3_spend 1 = .ok (.iload_n 1, 1) := by decide +kernel
theorem dX3_spend_2 : decode cX3_spend 2 = .ok (.invokevirtual 69, 3) := by decide +kernel
theorem dX3_spend_5 : decode cX3_spend 5 = .ok (.ifCond .eq 13, 3) := by decide +kernel
theorem dX3_spend_8 : decode cX3_spend 8 = .ok (.aload_n 0, 1) := by decide +kernel
theorem dX3_spend_9 : decode cX3_spend 9 = .ok (.getfield 15, 3) := by decide +kernel
theorem dX3_spend_12 : decode cX3_spend 12 = .ok (.iload_n 1, 1) := by decide +kernel
theorem dX3_spend_13 : decode cX3_spend 13 = .ok (.dup2, 1) := by decide +kernel
theorem dX3_spend_14 : decode cX3_spend 14 = .ok (.iaload, 1) := by decide +kernel
theorem dX3_spend_15 : decode cX3_spend 15 = .ok (.iload_n 2, 1) := by decide +kernel
theorem dX3_spend_16 : decode cX3_spend 16 = .ok (.isub, 1) := by decide +kernel
theorem dX3_spend_17 : decode cX3_spend 17 = .ok (.iastore, 1) := by decide +kernel
theorem dX3_spend_18 : decode cX3_spend 18 = .ok (.return_, 1) := by decide +kernel
theorem mX3_spend (l : Launch) {Y : Nat → ClassId} {D : va_G} {σ : Nat → Nat} {np b0 : Nat} {M : Mc} {N : Md} {q : Nat} {p0 : Int32} {p1 : Int32} {r : Mc} (hq : is3 q) (hf : fX3_spend M q p0 p1 = some r) : Met l yX3_spend (.code yX3_spend cX3_spend 3 none :: lw_g) (rmD 2) (PR Y D σ np b0 [.ref (σ q), .int p0, .int p1] M N) (QR Y D σ np b0 none r N) 0 0 (xA b0) := by
  refine x_met (by decide) (Nat.le_of_ble_eq_true rfl) (fun p e s m args below meth c hE hr => ?_)
  unfold fX3_spend at hf
  refine x_pick [0, 1, 2] (L' := [(0, .ref (σ q)), (1, .int p0), (2, .int p1)]) rfl ?_
  refine x_aload_n hE 0 dX3_spend_0 rfl rfl ?_
  refine x_iload_n hE 1 dX3_spend_1 rfl rfl ?_
  obtain ⟨v2, hc1, hf⟩ := bnd_some hf
  refine x_callV1 hE [.int p0] (rest := []) (v := .int v2) (c1 := M) (d1 := N) rfl yokX3_isOne yvX3_isOne lk_X3_69 rfl cl_3 (hE.kd (kO_3 hq)) (by decide) rfl rfl ⟨Nat.le_of_ble_eq_true rfl, Nat.le_of_ble_eq_true rfl⟩ ⟨Nat.zero_le _, Nat.zero_le _⟩ rfl (Nat.le_of_ble_eq_true rfl) dX3_spend_2 (mX3_isOne l hq hc1) ?_
  refine x_if_eq hE 18 dX3_spend_5 (by decide) hf (fun hf => ?_) (fun hf => ?_)
  · replace hf := Option.some.inj hf
    subst hf
    exact x_vreturn hE hr dX3_spend_18
  · refine x_aload_n hE 0 dX3_spend_8 rfl rfl ?_
    refine x_getR hE cl_3 (hE.kd (kO_3 hq)) (by decide) 5 (q + 2) rfl (by decide) lk_X3_15 dX3_spend_9 ?_
    refine x_iload_n hE 1 dX3_spend_12 rfl rfl ?_
    refine x_dup2 hE dX3_spend_13 rfl rfl ?_
    refine x_iald hE (hE.kd (kB_3_5 hq)) dX3_spend_14 hf (fun hf => ?_)
    refine x_iload_n hE 2 dX3_spend_15 rfl rfl ?_
    refine x_isub hE dX3_spend_16 ?_
    refine x_iast hE (hE.kd (kB_3_5 hq)) dX3_spend_17 hf (fun M3 hf => ?_)
    replace hf := Option.some.inj hf
    subst hf
    exact x_vreturn hE hr dX3_spend_18
theorem yokX3_spend : YOK yX3_spend cX3_spend 3 2 none := ⟨mem_g 1189 (by decide +kernel) (by decide +kernel), mem_g 136 (by decide +kernel) (by decide +kernel), by decide +kernel, by decide +kernel, by decide +kernel⟩
theorem yvX3_spend : YV yX3_spend := ⟨mem_g 1187 (by decide +kernel) (by decide +kernel), mem_g 1188 (by decide +kernel) (by decide +kernel)⟩
theorem lk_X3_73 : Cond.constant RX3 73 (nI 1000000) ∈ lw_g := mem_g 1715 (by decide +kernel) (by decide +kernel)
theorem lk_X3_74 : Cond.methodLink RX3 74 Lib.Math.min.name ∈ lw_g := mem_g 1716 (by decide +kernel) (by decide +kernel)
theorem dX3_earn_0 : decode cX3_earn 0 = .ok (.aload_n 0, 1) := by decide +kernel
theorem dX3_earn_1 : decode cX3_earn 1 = .ok (.iload_n 1, 1) := by decide +kernel
theorem dX3_earn_2 : decode cX3_earn 2 = .ok (.invokevirtual 69, 3) := by decide +kernel
theorem dX3_earn_5 : decode cX3_earn 5 = .ok (.ifCond .eq 22, 3) := by decide +kernel
theorem dX3_earn_8 : decode cX3_earn 8 = .ok (.aload_n 0, 1) := by decide +kernel
theorem dX3_earn_9 : decode cX3_earn 9 = .ok (.getfield 15, 3) := by decide +kernel
theorem dX3_earn_12 : decode cX3_earn 12 = .ok (.iload_n 1, 1) := by decide +kernel
theorem dX3_earn_13 : decode cX3_earn 13 = .ok (.ldc 73, 2) := by decide +kernel
theorem dX3_earn_15 : decode cX3_earn 15 = .ok (.aload_n 0, 1) := by decide +kernel
theorem dX3_earn_16 : decode cX3_earn 16 = .ok (.getfield 15, 3) := by decide +kernel
theorem dX3_earn_19 : decode cX3_earn 19 = .ok (.iload_n 1, 1) := by decide +kernel
theorem dX3_earn_20 : decode cX3_earn 20 = .ok (.iaload, 1) := by decide +kernel
theorem dX3_earn_21 : decode cX3_earn 21 = .ok (.iload_n 2, 1) := by decide +kernel
theorem dX3_earn_22 : decode cX3_earn 22 = .ok (.iadd, 1) := by decide +kernel
theorem dX3_earn_23 : decode cX3_earn 23 = .ok (.invokestatic 74, 3) := by decide +kernel
theorem dX3_earn_26 : decode cX3_earn 26 = .ok (.iastore, 1) := by decide +kernel
theorem dX3_earn_27 : decode cX3_earn 27 = .ok (.return_, 1) := by decide +kernel
theorem mX3_earn (l : Launch) {Y : Nat → ClassId} {D : va_G} {σ : Nat → Nat} {np b0 : Nat} {M : Mc} {N : Md} {q : Nat} {p0 : Int32} {p1 : Int32} {r : Mc} (hq : is3 q) (hf : fX3_earn M q p0 p1 = some r) : Met l yX3_earn (.code yX3_earn cX3_earn 3 none :: lw_g) (rmD 2) (PR Y D σ np b0 [.ref (σ q), .int p0, .int p1] M N) (QR Y D σ np b0 none r N) 0 0 (xA b0) := by
  refine x_met (by decide) (Nat.le_of_ble_eq_true rfl) (fun p e s m args below meth c hE hr => ?_)
  unfold fX3_earn at hf
  refine x_pick [0, 1, 2] (L' := [(0, .ref (σ q)), (1, .int p0), (2, .int p1)]) rfl ?_
  refine x_aload_n hE 0 dX3_earn_0 rfl rfl ?_
  refine x_iload_n hE 1 dX3_earn_1 rfl rfl ?_
  obtain ⟨v2, hc1, hf⟩ := bnd_some hf
  refine x_callV1 hE [.int p0] (rest := []) (v := .int v2) (c1 := M) (d1 := N) rfl yokX3_isOne yvX3_isOne lk_X3_69 rfl cl_3 (hE.kd (kO_3 hq)) (by decide) rfl rfl ⟨Nat.le_of_ble_eq_true rfl, Nat.le_of_ble_eq_true rfl⟩ ⟨Nat.zero_le _, Nat.zero_le _⟩ rfl (Nat.le_of_ble_eq_true rfl) dX3_earn_2 (mX3_isOne l hq hc1) ?_
  refine x_if_eq hE 27 dX3_earn_5 (by decide) hf (fun hf => ?_) (fun hf => ?_)
  · replace hf := Option.some.inj hf
    subst hf
    exact x_vreturn hE hr dX3_earn_27
  · refine x_aload_n hE 0 dX3_earn_8 rfl rfl ?_
    refine x_getR hE cl_3 (hE.kd (kO_3 hq)) (by decide) 5 (q + 2) rfl (by decide) lk_X3_15 dX3_earn_9 ?_
    refine x_iload_n hE 1 dX3_earn_12 rfl rfl ?_
    refine x_ldc hE (nI 1000000) lk_X3_73 dX3_earn_13 ?_
    refine x_aload_n hE 0 dX3_earn_15 rfl rfl ?_
    refine x_getR hE cl_3 (hE.kd (kO_3 hq)) (by decide) 5 (q + 2) rfl (by decide) lk_X3_15 dX3_earn_16 ?_
    refine x_iload_n hE 1 dX3_earn_19 rfl rfl ?_
    refine x_iald hE (hE.kd (kB_3_5 hq)) dX3_earn_20 hf (fun hf => ?_)
    refine x_iload_n hE 2 dX3_earn_21 rfl rfl ?_
    refine x_iadd hE dX3_earn_22 ?_
    refine x_mmin hE lk_X3_74 (Nat.le_of_ble_eq_true rfl) dX3_earn_23 ?_
    refine x_iast hE (hE.kd (kB_3_5 hq)) dX3_earn_26 hf (fun M3 hf => ?_)
    replace hf := Option.some.inj hf
    subst hf
    exact x_vreturn hE hr dX3_earn_27
theorem yokX3_earn : YOK yX3_earn cX3_earn 3 2 none := ⟨mem_g 1714 (by decide +kernel) (by decide +kernel), mem_g 136 (by decide +kernel) (by decide +kernel), by decide +kernel, by decide +kernel, by decide +kernel⟩
theorem yvX3_earn : YV yX3_earn := ⟨mem_g 1712 (by decide +kernel) (by decide +kernel), mem_g 1713 (by decide +kernel) (by decide +kernel)⟩
theorem dX3_takeOrder_0 : decode cX3_takeOrder 0 = .ok (.aload_n 0, 1) := by decide +kernel
theorem dX3_takeOrder_1 : decode cX3_takeOrder 1 = .ok (.iload_n 1, 1) := by decide +kernel
theorem dX3_takeOrder_2 : decode cX3_takeOrder 2 = .ok (.invokevirtual 69, 3) := by decide +kernel
theorem dX3_takeOrder_5 : decode cX3_takeOrder 5 = .ok (.ifCond .ne 5, 3) := by decide +kernel
theorem dX3_takeOrder_8 : decode cX3_takeOrder 8 = .ok (.iconst (-1), 1) := by decide +kernel
theorem dX3_takeOrder_9 : decode cX3_takeOrder 9 = .ok (.ireturn, 1) := by decide +kernel
theorem dX3_takeOrder_10 : decode cX3_takeOrder 10 = .ok (.aload_n 0, 1) := by decide +kernel
theorem dX3_takeOrder_11 : decode cX3_takeOrder 11 = .ok (.getfield 15, 3) := by decide +kernel
theorem dX3_takeOrder_14 : decode cX3_takeOrder 14 = .ok (.iload_n 1, 1) := by decide +kernel
theorem dX3_takeOrder_15 : decode cX3_takeOrder 15 = .ok (.dup2, 1) := by decide +kernel
theorem dX3_takeOrder_16 : decode cX3_takeOrder 16 = .ok (.iaload, 1) := by decide +kernel
theorem dX3_takeOrder_17 : decode cX3_takeOrder 17 = .ok (.iload_n 2, 1) := by decide +kernel
theorem dX3_takeOrder_18 : decode cX3_takeOrder 18 = .ok (.isub, 1) := by decide +kernel
theorem dX3_takeOrder_19 : decode cX3_takeOrder 19 = .ok (.iastore, 1) := by decide +kernel
theorem dX3_takeOrder_20 : decode cX3_takeOrder 20 = .ok (.aload_n 0, 1) := by decide +kernel
theorem dX3_takeOrder_21 : decode cX3_takeOrder 21 = .ok (.getfield 30, 3) := by decide +kernel
theorem dX3_takeOrder_24 : decode cX3_takeOrder 24 = .ok (.iload_n 1, 1) := by decide +kernel
theorem dX3_takeOrder_25 : decode cX3_takeOrder 25 = .ok (.aload_n 0, 1) := by decide +kernel
theorem dX3_takeOrder_26 : decode cX3_takeOrder 26 = .ok (.getfield 56, 3) := by decide +kernel
theorem dX3_takeOrder_29 : decode cX3_takeOrder 29 = .ok (.iastore, 1) := by decide +kernel
theorem dX3_takeOrder_30 : decode cX3_takeOrder 30 = .ok (.aload_n 0, 1) := by decide +kernel
theorem dX3_takeOrder_31 : decode cX3_takeOrder 31 = .ok (.getfield 33, 3) := by decide +kernel
theorem dX3_takeOrder_34 : decode cX3_takeOrder 34 = .ok (.iload_n 1, 1) := by decide +kernel
theorem dX3_takeOrder_35 : decode cX3_takeOrder 35 = .ok (.iload_n 2, 1) := by decide +kernel
theorem dX3_takeOrder_36 : decode cX3_takeOrder 36 = .ok (.iastore, 1) := by decide +kernel
theorem dX3_takeOrder_37 : decode cX3_takeOrder 37 = .ok (.aload_n 0, 1) := by decide +kernel
theorem dX3_takeOrder_38 : decode cX3_takeOrder 38 = .ok (.dup, 1) := by decide +kernel
theorem dX3_takeOrder_39 : decode cX3_takeOrder 39 = .ok (.getfield 56, 3) := by decide +kernel
theorem dX3_takeOrder_42 : decode cX3_takeOrder 42 = .ok (.dup_x1, 1) := by decide +kernel
theorem dX3_takeOrder_43 : decode cX3_takeOrder 43 = .ok (.iconst 1, 1) := by decide +kernel
theorem dX3_takeOrder_44 : decode cX3_takeOrder 44 = .ok (.iadd, 1) := by decide +kernel
theorem dX3_takeOrder_45 : decode cX3_takeOrder 45 = .ok (.putfield 56, 3) := by decide +kernel
theorem dX3_takeOrder_48 : decode cX3_takeOrder 48 = .ok (.ireturn, 1) := by decide +kernel
theorem mX3_takeOrder (l : Launch) {Y : Nat → ClassId} {D : va_G} {σ : Nat → Nat} {np b0 : Nat} {M : Mc} {N : Md} {q : Nat} {p0 : Int32} {p1 : Int32} {r : Int32 × Mc} (hq : is3 q) (hf : fX3_takeOrder M q p0 p1 = some r) : Met l yX3_takeOrder (.code yX3_takeOrder cX3_takeOrder 3 (some .int) :: lw_g) (rmD 2) (PR Y D σ np b0 [.ref (σ q), .int p0, .int p1] M N) (QR Y D σ np b0 (some (.int r.1)) r.2 N) 0 0 (xA b0) := by
  refine x_met (by decide) (Nat.le_of_ble_eq_true rfl) (fun p e s m args below meth c hE hr => ?_)
  unfold fX3_takeOrder at hf
  refine x_pick [0, 1, 2] (L' := [(0, .ref (σ q)), (1, .int p0), (2, .int p1)]) rfl ?_
  refine x_aload_n hE 0 dX3_takeOrder_0 rfl rfl ?_
  refine x_iload_n hE 1 dX3_takeOrder_1 rfl rfl ?_
  obtain ⟨v2, hc1, hf⟩ := bnd_some hf
  refine x_callV1 hE [.int p0] (rest := []) (v := .int v2) (c1 := M) (d1 := N) rfl yokX3_isOne yvX3_isOne lk_X3_69 rfl cl_3 (hE.kd (kO_3 hq)) (by decide) rfl rfl ⟨Nat.le_of_ble_eq_true rfl, Nat.le_of_ble_eq_true rfl⟩ ⟨Nat.zero_le _, Nat.zero_le _⟩ rfl (Nat.le_of_ble_eq_true rfl) dX3_takeOrder_2 (mX3_isOne l hq hc1) ?_
  refine x_if_ne hE 10 dX3_takeOrder_5 (by decide) hf (fun hf => ?_) (fun hf => ?_)
  · refine x_aload_n hE 0 dX3_takeOrder_10 rfl rfl ?_
    refine x_getR hE cl_3 (hE.kd (kO_3 hq)) (by decide) 5 (q + 2) rfl (by decide) lk_X3_15 dX3_takeOrder_11 ?_
    refine x_iload_n hE 1 dX3_takeOrder_14 rfl rfl ?_
    refine x_dup2 hE dX3_takeOrder_15 rfl rfl ?_
    refine x_iald hE (hE.kd (kB_3_5 hq)) dX3_takeOrder_16 hf (fun hf => ?_)
    refine x_iload_n hE 2 dX3_takeOrder_17 rfl rfl ?_
    refine x_isub hE dX3_takeOrder_18 ?_
    refine x_iast hE (hE.kd (kB_3_5 hq)) dX3_takeOrder_19 hf (fun M3 hf => ?_)
    refine x_aload_n hE 0 dX3_takeOrder_20 rfl rfl ?_
    refine x_getR hE cl_3 (hE.kd (kO_3 hq)) (by decide) 10 (q + 7) rfl (by decide) lk_X3_30 dX3_takeOrder_21 ?_
    refine x_iload_n hE 1 dX3_takeOrder_24 rfl rfl ?_
    refine x_aload_n hE 0 dX3_takeOrder_25 rfl rfl ?_
    refine x_getI hE cl_3 (hE.kd (kO_3 hq)) (by decide) 3 rfl (by decide) lk_X3_56 dX3_takeOrder_26 ?_
    refine x_iast hE (hE.kd (kB_3_10 hq)) dX3_takeOrder_29 hf (fun M4 hf => ?_)
    refine x_aload_n hE 0 dX3_takeOrder_30 rfl rfl ?_
    refine x_getR hE cl_3 (hE.kd (kO_3 hq)) (by decide) 11 (q + 8) rfl (by decide) lk_X3_33 dX3_takeOrder_31 ?_
    refine x_iload_n hE 1 dX3_takeOrder_34 rfl rfl ?_
    refine x_iload_n hE 2 dX3_takeOrder_35 rfl rfl ?_
    refine x_iast hE (hE.kd (kB_3_11 hq)) dX3_takeOrder_36 hf (fun M5 hf => ?_)
    refine x_aload_n hE 0 dX3_takeOrder_37 rfl rfl ?_
    refine x_dup hE dX3_takeOrder_38 rfl ?_
    refine x_getI hE cl_3 (hE.kd (kO_3 hq)) (by decide) 3 rfl (by decide) lk_X3_56 dX3_takeOrder_39 ?_
    refine x_dup_x1 hE dX3_takeOrder_42 rfl rfl ?_
    refine x_iconst hE (nI 1) dX3_takeOrder_43 (by decide) ?_
    refine x_iadd hE dX3_takeOrder_44 ?_
    refine x_putI hE cl_3 (hE.kd (kO_3 hq)) (by decide) 3 rfl (by decide) lk_X3_56 rfl rfl rfl rfl dX3_takeOrder_45 hf (fun M6 hf => ?_)
    replace hf := Option.some.inj hf
    subst hf
    exact x_ireturn hE (v := M5 q 3) hr rfl dX3_takeOrder_48
  · refine x_iconst hE (-1) dX3_takeOrder_8 (by decide) ?_
    replace hf := Option.some.inj hf
    subst hf
    exact x_ireturn hE (v := (-1)) hr rfl dX3_takeOrder_9
theorem yokX3_takeOrder : YOK yX3_takeOrder cX3_takeOrder 3 2 (some .int) := ⟨mem_g 1220 (by decide +kernel) (by decide +kernel), mem_g 136 (by decide +kernel) (by decide +kernel), by decide +kernel, by decide +kernel, by decide +kernel⟩
theorem yvX3_takeOrder : YV yX3_takeOrder := ⟨mem_g 1218 (by decide +kernel) (by decide +kernel), mem_g 1219 (by decide +kernel) (by decide +kernel)⟩
theorem dX3_mayChooseStill_0 : decode cX3_mayChooseStill 0 = .ok (.aload_n 0, 1) := by decide +kernel
theorem dX3_mayChooseStill_1 : decode cX3_mayChooseStill 1 = .ok (.iload_n 1, 1) := by decide +kernel
theorem dX3_mayChooseStill_2 : decode cX3_mayChooseStill 2 = .ok (.invokevirtual 69, 3) := by decide +kernel
theorem dX3_mayChooseStill_5 : decode cX3_mayChooseStill 5 = .ok (.ifCond .eq 26, 3) := by decide +kernel
theorem dX3_mayChooseStill_8 : decode cX3_mayChooseStill 8 = .ok (.aload_n 0, 1) := by decide +kernel
theorem dX3_mayChooseStill_9 : decode cX3_mayChooseStill 9 = .ok (.getfield 30, 3) := by decide +kernel
theorem dX3_mayChooseStill_12 : decode cX3_mayChooseStill 12 = .ok (.iload_n 1, 1) := by decide +kernel
theorem dX3_mayChooseStill_13 : decode cX3_mayChooseStill 13 = .ok (.iaload, 1) := by decide +kernel
theorem dX3_mayChooseStill_14 : decode cX3_mayChooseStill 14 = .ok (.iconst (-1), 1) := by decide +kernel
theorem dX3_mayChooseStill_15 : decode cX3_mayChooseStill 15 = .ok (.if_icmp .eq 16, 3) := by decide +kernel
theorem dX3_mayChooseStill_18 : decode cX3_mayChooseStill 18 = .ok (.aload_n 0, 1) := by decide +kernel
theorem dX3_mayChooseStill_19 : decode cX3_mayChooseStill 19 = .ok (.getfield 36, 3) := by decide +kernel
theorem dX3_mayChooseStill_22 : decode cX3_mayChooseStill 22 = .ok (.iload_n 1, 1) := by decide +kernel
theorem dX3_mayChooseStill_23 : decode cX3_mayChooseStill 23 = .ok (.baload, 1) := by decide +kernel
theorem dX3_mayChooseStill_24 : decode cX3_mayChooseStill 24 = .ok (.ifCond .ne 7, 3) := by decide +kernel
theorem dX3_mayChooseStill_27 : decode cX3_mayChooseStill 27 = .ok (.iconst 1, 1) := by decide +kernel
theorem dX3_mayChooseStill_28 : decode cX3_mayChooseStill 28 = .ok (.goto 4, 3) := by decide +kernel
theorem dX3_mayChooseStill_31 : decode cX3_mayChooseStill 31 = .ok (.iconst 0, 1) := by decide +kernel
theorem dX3_mayChooseStill_32 : decode cX3_mayChooseStill 32 = .ok (.ireturn, 1) := by decide +kernel
theorem mX3_mayChooseStill (l : Launch) {Y : Nat → ClassId} {D : va_G} {σ : Nat → Nat} {np b0 : Nat} {M : Mc} {N : Md} {q : Nat} {p0 : Int32} {r : Int32} (hq : is3 q) (hf : fX3_mayChooseStill M q p0 = some r) : Met l yX3_mayChooseStill (.code yX3_mayChooseStill cX3_mayChooseStill 2 (some .boolean) :: lw_g) (rmD 2) (PR Y D σ np b0 [.ref (σ q), .int p0] M N) (QR Y D σ np b0 (some (.int r)) M N) 0 0 (xA b0) := by
  refine x_met (by decide) (Nat.le_of_ble_eq_true rfl) (fun p e s m args below meth c hE hr => ?_)
  unfold fX3_mayChooseStill at hf
  refine x_pick [0, 1] (L' := [(0, .ref (σ q)), (1, .int p0)]) rfl ?_
  refine x_aload_n hE 0 dX3_mayChooseStill_0 rfl rfl ?_
  refine x_iload_n hE 1 dX3_mayChooseStill_1 rfl rfl ?_
  obtain ⟨v2, hc1, hf⟩ := bnd_some hf
  refine x_callV1 hE [.int p0] (rest := []) (v := .int v2) (c1 := M) (d1 := N) rfl yokX3_isOne yvX3_isOne lk_X3_69 rfl cl_3 (hE.kd (kO_3 hq)) (by decide) rfl rfl ⟨Nat.le_of_ble_eq_true rfl, Nat.le_of_ble_eq_true rfl⟩ ⟨Nat.zero_le _, Nat.zero_le _⟩ rfl (Nat.le_of_ble_eq_true rfl) dX3_mayChooseStill_2 (mX3_isOne l hq hc1) ?_
  refine x_if_eq hE 31 dX3_mayChooseStill_5 (by decide) hf (fun hf => ?_) (fun hf => ?_)
  · refine x_iconst hE (0 : Int32) dX3_mayChooseStill_31 (by decide) ?_
    replace hf := Option.some.inj hf
    subst hf
    exact x_ireturn hE (v := 0) hr rfl dX3_mayChooseStill_32
  · refine x_aload_n hE 0 dX3_mayChooseStill_8 rfl rfl ?_
    refine x_getR hE cl_3 (hE.kd (kO_3 hq)) (by decide) 10 (q + 7) rfl (by decide) lk_X3_30 dX3_mayChooseStill_9 ?_
    refine x_iload_n hE 1 dX3_mayChooseStill_12 rfl rfl ?_
    refine x_iald hE (hE.kd (kB_3_10 hq)) dX3_mayChooseStill_13 hf (fun hf => ?_)
    refine x_iconst hE (-1) dX3_mayChooseStill_14 (by decide) ?_
    refine x_icmp_eq hE 31 dX3_mayChooseStill_15 (by decide) hf (fun hf => ?_) (fun hf => ?_)
    · refine x_iconst hE (0 : Int32) dX3_mayChooseStill_31 (by decide) ?_
      replace hf := Option.some.inj hf
      subst hf
      exact x_ireturn hE (v := 0) hr rfl dX3_mayChooseStill_32
    · refine x_aload_n hE 0 dX3_mayChooseStill_18 rfl rfl ?_
      refine x_getR hE cl_3 (hE.kd (kO_3 hq)) (by decide) 12 (q + 9) rfl (by decide) lk_X3_36 dX3_mayChooseStill_19 ?_
      refine x_iload_n hE 1 dX3_mayChooseStill_22 rfl rfl ?_
      refine x_zald hE (hE.kd (kB_3_12 hq)) dX3_mayChooseStill_23 hf (fun hf => ?_)
      refine x_if_ne hE 31 dX3_mayChooseStill_24 (by decide) hf (fun hf => ?_) (fun hf => ?_)
      · refine x_iconst hE (0 : Int32) dX3_mayChooseStill_31 (by decide) ?_
        replace hf := Option.some.inj hf
        subst hf
        exact x_ireturn hE (v := 0) hr rfl dX3_mayChooseStill_32
      · refine x_iconst hE (nI 1) dX3_mayChooseStill_27 (by decide) ?_
        refine x_goto hE 32 dX3_mayChooseStill_28 (by decide) ?_
        replace hf := Option.some.inj hf
        subst hf
        exact x_ireturn hE (v := nI 1) hr rfl dX3_mayChooseStill_32
theorem yokX3_mayChooseStill : YOK yX3_mayChooseStill cX3_mayChooseStill 2 1 (some .boolean) := ⟨mem_g 1231 (by decide +kernel) (by decide +kernel), mem_g 136 (by decide +kernel) (by decide +kernel), by decide +kernel, by decide +kernel, by decide +kernel⟩
theorem yvX3_mayChooseStill : YV yX3_mayChooseStill := ⟨mem_g 1229 (by decide +kernel) (by decide +kernel), mem_g 1230 (by decide +kernel) (by decide +kernel)⟩
theorem lk_X3_80 : Cond.methodLink RX3 80 yX3_mayChooseStill ∈ lw_g := mem_g 1237 (by decide +kernel) (by decide +kernel)
theorem lk_X3_83 : Cond.methodLink RX3 83 yX3_orderOf ∈ lw_g := mem_g 1238 (by decide +kernel) (by decide +kernel)
theorem lk_X3_87 : Cond.methodLink RX3 87 yX3_isHere ∈ lw_g := mem_g 1239 (by decide +kernel) (by decide +kernel)
theorem dX3_mustWait_0 : decode cX3_mustWait 0 = .ok (.iconst 0, 1) := by decide +kernel
theorem dX3_mustWait_1 : decode cX3_mustWait 1 = .ok (.istore 4, 2) := by decide +kernel
theorem dX3_mustWait_3 : decode cX3_mustWait 3 = .ok (.iload 4, 2) := by decide +kernel
theorem dX3_mustWait_5 : decode cX3_mustWait 5 = .ok (.aload_n 0, 1) := by decide +kernel
theorem dX3_mustWait_6 : decode cX3_mustWait 6 = .ok (.getfield 46, 3) := by decide +kernel
theorem dX3_mustWait_9 : decode cX3_mustWait 9 = .ok (.if_icmp .ge 76, 3) := by decide +kernel
theorem dX3_mustWait_12 : decode cX3_mustWait 12 = .ok (.iload 4, 2) := by decide +kernel
theorem dX3_mustWait_14 : decode cX3_mustWait 14 = .ok (.bipush 100, 2) := by decide +kernel
theorem dX3_mustWait_16 : decode cX3_mustWait 16 = .ok (.if_icmp .ge 69, 3) := by decide +kernel
theorem dX3_mustWait_19 : decode cX3_mustWait 19 = .ok (.aload_n 0, 1) := by decide +kernel
theorem dX3_mustWait_20 : decode cX3_mustWait 20 = .ok (.iload 4, 2) := by decide +kernel
theorem dX3_mustWait_22 : decode cX3_mustWait 22 = .ok (.invokevirtual 80, 3) := by decide +kernel
theorem dX3_mustWait_25 : decode cX3_mustWait 25 = .ok (.ifCond .eq 22, 3) := by decide +kernel
theorem dX3_mustWait_28 : decode cX3_mustWait 28 = .ok (.aload_n 0, 1) := by decide +kernel
theorem dX3_mustWait_29 : decode cX3_mustWait 29 = .ok (.getfield 30, 3) := by decide +kernel
theorem dX3_mustWait_32 : decode cX3_mustWait 32 = .ok (.iload 4, 2) := by decide +kernel
theorem dX3_mustWait_34 : decode cX3_mustWait 34 = .ok (.iaload, 1) := by decide +kernel
theorem dX3_mustWait_35 : decode cX3_mustWait 35 = .ok (.aload_n 0, 1) := by decide +kernel
theorem dX3_mustWait_36 : decode cX3_mustWait 36 = .ok (.iload_n 1, 1) := by decide +kernel
theorem dX3_mustWait_37 : decode cX3_mustWait 37 = .ok (.invokevirtual 83, 3) := by decide +kernel
theorem dX3_mustWait_40 : decode cX3_mustWait 40 = .ok (.if_icmp .ge 7, 3) := by decide +kernel
theorem dX3_mustWait_43 : decode cX3_mustWait 43 = .ok (.iconst 1, 1) := by decide +kernel
theorem dX3_mustWait_44 : decode cX3_mustWait 44 = .ok (.goto 4, 3) := by decide +kernel
theorem dX3_mustWait_47 : decode cX3_mustWait 47 = .ok (.iconst 0, 1) := by decide +kernel
theorem dX3_mustWait_48 : decode cX3_mustWait 48 = .ok (.istore 5, 2) := by decide +kernel
theorem dX3_mustWait_50 : decode cX3_mustWait 50 = .ok (.iload 5, 2) := by decide +kernel
theorem dX3_mustWait_52 : decode cX3_mustWait 52 = .ok (.ifCond .eq 27, 3) := by decide +kernel
theorem dX3_mustWait_55 : decode cX3_mustWait 55 = .ok (.aload_n 0, 1) := by decide +kernel
theorem dX3_mustWait_56 : decode cX3_mustWait 56 = .ok (.iload 4, 2) := by decide +kernel
theorem dX3_mustWait_58 : decode cX3_mustWait 58 = .ok (.invokevirtual 87, 3) := by decide +kernel
theorem dX3_mustWait_61 : decode cX3_mustWait 61 = .ok (.ifCond .eq 18, 3) := by decide +kernel
theorem dX3_mustWait_64 : decode cX3_mustWait 64 = .ok (.iload_n 2, 1) := by decide +kernel
theorem dX3_mustWait_65 : decode cX3_mustWait 65 = .ok (.aload_n 0, 1) := by decide +kernel
theorem dX3_mustWait_66 : decode cX3_mustWait 66 = .ok (.getfield 43, 3) := by decide +kernel
theorem dX3_mustWait_69 : decode cX3_mustWait 69 = .ok (.iload 4, 2) := by decide +kernel
theorem dX3_mustWait_71 : decode cX3_mustWait 71 = .ok (.iaload, 1) := by decide +kernel
theorem dX3_mustWait_72 : decode cX3_mustWait 72 = .ok (.isub, 1) := by decide +kernel
theorem dX3_mustWait_73 : decode cX3_mustWait 73 = .ok (.iload_n 3, 1) := by decide +kernel
theorem dX3_mustWait_74 : decode cX3_mustWait 74 = .ok (.if_icmp .ge 5, 3) := by decide +kernel
theorem dX3_mustWait_77 : decode cX3_mustWait 77 = .ok (.iconst 1, 1) := by decide +kernel
theorem dX3_mustWait_78 : decode cX3_mustWait 78 = .ok (.ireturn, 1) := by decide +kernel
theorem dX3_mustWait_79 : decode cX3_mustWait 79 = .ok (.iinc 4 1, 3) := by decide +kernel
theorem dX3_mustWait_82 : decode cX3_mustWait 82 = .ok (.goto (-79), 3) := by decide +kernel
theorem dX3_mustWait_85 : decode cX3_mustWait 85 = .ok (.iconst 0, 1) := by decide +kernel
theorem dX3_mustWait_86 : decode cX3_mustWait 86 = .ok (.ireturn, 1) := by decide +kernel
theorem wX3_mustWait_J79 {p : Program} {l : Launch} {e : Env} {s : State} {m : MethodId} {args : Array Value} {below : List Frame} {meth : Method} {c : Code} {Y : Nat → ClassId} {D : va_G} {σ : Nat → Nat} {np b0 : Nat} {q : Nat} {r : Int32} {K3 : Mc → Int32 → Int32 → Int32 → Int32 → Option (Int32)} {M : Mc} {N : Md} {X1 : Int32} {X2 : Int32} {X3 : Int32} {X4 : Int32} (hE : EOK p s m args meth c cX3_mustWait 6 RX3 Y D σ np b0) (hr : meth.sig.returnType = (some .boolean)) (hq : is3 q) (hK3 : ∀ (M : Mc) (N : Md) (X1 : Int32) (X2 : Int32) (X3 : Int32) (X4 : Int32), K3 M X1 X2 X3 X4 = some r → Xw p l e (rmD 3) s m args below meth c 6 Y D σ np b0 0 0 (MQ below (QR Y D σ np b0 (some (.int r)) M N) args s 0 0 (xA b0)) 3 [(0, .ref (σ q)), (1, .int X1), (2, .int X2), (3, .int X3), (4, .int X4)] [] M N) (hf : fX3_mustWait_J79 q K3 M X1 X2 X3 X4 = some r) : Xw p l e (rmD 3) s m args below meth c 6 Y D σ np b0 0 0 (MQ below (QR Y D σ np b0 (some (.int r)) M N) args s 0 0 (xA b0)) 79 [(0, .ref (σ q)), (1, .int X1), (2, .int X2), (3, .int X3), (4, .int X4)] [] M N := by
  unfold fX3_mustWait_J79 at hf
  refine x_iinc hE 4 (X4 + nI 1) (L' := [(4, .int (X4 + nI 1)), (0, .ref (σ q)), (1, .int X1), (2, .int X2), (3, .int X3)]) dX3_mustWait_79 rfl rfl (by decide) rfl ?_
  refine x_pick [1, 2, 3, 4, 0] (L' := [(0, .ref (σ q)), (1, .int X1), (2, .int X2), (3, .int X3), (4, .int (X4 + nI 1))]) rfl ?_
  refine x_goto hE 3 dX3_mustWait_82 (by decide) ?_
  exact hK3 _ _ _ _ _ _ hf
theorem wX3_mustWait_J48 {p : Program} {l : Launch} {e : Env} {s : State} {m : MethodId} {args : Array Value} {below : List Frame} {meth : Method} {c : Code} {Y : Nat → ClassId} {D : va_G} {σ : Nat → Nat} {np b0 : Nat} {q : Nat} {r : Int32} {K3 : Mc → Int32 → Int32 → Int32 → Int32 → Option (Int32)} {M : Mc} {N : Md} {X1 : Int32} {X2 : Int32} {X3 : Int32} {X4 : Int32} {Z0 : Int32} (hE : EOK p s m args meth c cX3_mustWait 6 RX3 Y D σ np b0) (hr : meth.sig.returnType = (some .boolean)) (hq : is3 q) (hK3 : ∀ (M : Mc) (N : Md) (X1 : Int32) (X2 : Int32) (X3 : Int32) (X4 : Int32), K3 M X1 X2 X3 X4 = some r → Xw p l e (rmD 3) s m args below meth c 6 Y D σ np b0 0 0 (MQ below (QR Y D σ np b0 (some (.int r)) M N) args s 0 0 (xA b0)) 3 [(0, .ref (σ q)), (1, .int X1), (2, .int X2), (3, .int X3), (4, .int X4)] [] M N) (hf : fX3_mustWait_J48 q K3 M X1 X2 X3 X4 Z0 = some r) : Xw p l e (rmD 3) s m args below meth c 6 Y D σ np b0 0 0 (MQ below (QR Y D σ np b0 (some (.int r)) M N) args s 0 0 (xA b0)) 48 [(0, .ref (σ q)), (1, .int X1), (2, .int X2), (3, .int X3), (4, .int X4)] [.int Z0] M N := by
  unfold fX3_mustWait_J48 at hf
  refine x_istore hE (L' := [(5, .int Z0), (0, .ref (σ q)), (1, .int X1), (2, .int X2), (3, .int X3), (4, .int X4)]) dX3_mustWait_48 (by decide) rfl ?_
  refine x_pick [1, 2, 3, 4, 5, 0] (L' := [(0, .ref (σ q)), (1, .int X1), (2, .int X2), (3, .int X3), (4, .int X4), (5, .int Z0)]) rfl ?_
  refine x_iload hE 5 dX3_mustWait_50 rfl ?_
  refine x_if_eq hE 79 dX3_mustWait_52 (by decide) hf (fun hf => ?_) (fun hf => ?_)
  · refine x_pick [0, 1, 2, 3, 4] (L' := [(0, .ref (σ q)), (1, .int X1), (2, .int X2), (3, .int X3), (4, .int X4)]) rfl ?_
    exact wX3_mustWait_J79 hE hr hq hK3 hf
  · refine x_aload_n hE 0 dX3_mustWait_55 rfl rfl ?_
    refine x_iload hE 4 dX3_mustWait_56 rfl ?_
    obtain ⟨v6, hc5, hf⟩ := bnd_some hf
    refine x_callV1 hE [.int X4] (rest := []) (v := .int v6) (c1 := M) (d1 := N) rfl yokX3_isHere yvX3_isHere lk_X3_87 rfl cl_3 (hE.kd (kO_3 hq)) (by decide) rfl rfl ⟨Nat.le_of_ble_eq_true rfl, Nat.le_of_ble_eq_true rfl⟩ ⟨Nat.zero_le _, Nat.zero_le _⟩ rfl (Nat.le_of_ble_eq_true rfl) dX3_mustWait_58 (mX3_isHere l hq hc5) ?_
    refine x_if_eq hE 79 dX3_mustWait_61 (by decide) hf (fun hf => ?_) (fun hf => ?_)
    · refine x_pick [0, 1, 2, 3, 4] (L' := [(0, .ref (σ q)), (1, .int X1), (2, .int X2), (3, .int X3), (4, .int X4)]) rfl ?_
      exact wX3_mustWait_J79 hE hr hq hK3 hf
    · refine x_iload_n hE 2 dX3_mustWait_64 rfl rfl ?_
      refine x_aload_n hE 0 dX3_mustWait_65 rfl rfl ?_
      refine x_getR hE cl_3 (hE.kd (kO_3 hq)) (by decide) 14 (q + 11) rfl (by decide) lk_X3_43 dX3_mustWait_66 ?_
      refine x_iload hE 4 dX3_mustWait_69 rfl ?_
      refine x_iald hE (hE.kd (kB_3_14 hq)) dX3_mustWait_71 hf (fun hf => ?_)
      refine x_isub hE dX3_mustWait_72 ?_
      refine x_iload_n hE 3 dX3_mustWait_73 rfl rfl ?_
      refine x_icmp_ge hE 79 dX3_mustWait_74 (by decide) hf (fun hf => ?_) (fun hf => ?_)
      · refine x_pick [0, 1, 2, 3, 4] (L' := [(0, .ref (σ q)), (1, .int X1), (2, .int X2), (3, .int X3), (4, .int X4)]) rfl ?_
        exact wX3_mustWait_J79 hE hr hq hK3 hf
      · refine x_iconst hE (nI 1) dX3_mustWait_77 (by decide) ?_
        replace hf := Option.some.inj hf
        subst hf
        exact x_ireturn hE (v := nI 1) hr rfl dX3_mustWait_78
theorem wX3_mustWait_J47 {p : Program} {l : Launch} {e : Env} {s : State} {m : MethodId} {args : Array Value} {below : List Frame} {meth : Method} {c : Code} {Y : Nat → ClassId} {D : va_G} {σ : Nat → Nat} {np b0 : Nat} {q : Nat} {r : Int32} {K3 : Mc → Int32 → Int32 → Int32 → Int32 → Option (Int32)} {M : Mc} {N : Md} {X1 : Int32} {X2 : Int32} {X3 : Int32} {X4 : Int32} (hE : EOK p s m args meth c cX3_mustWait 6 RX3 Y D σ np b0) (hr : meth.sig.returnType = (some .boolean)) (hq : is3 q) (hK3 : ∀ (M : Mc) (N : Md) (X1 : Int32) (X2 : Int32) (X3 : Int32) (X4 : Int32), K3 M X1 X2 X3 X4 = some r → Xw p l e (rmD 3) s m args below meth c 6 Y D σ np b0 0 0 (MQ below (QR Y D σ np b0 (some (.int r)) M N) args s 0 0 (xA b0)) 3 [(0, .ref (σ q)), (1, .int X1), (2, .int X2), (3, .int X3), (4, .int X4)] [] M N) (hf : fX3_mustWait_J47 q K3 M X1 X2 X3 X4 = some r) : Xw p l e (rmD 3) s m args below meth c 6 Y D σ np b0 0 0 (MQ below (QR Y D σ np b0 (some (.int r)) M N) args s 0 0 (xA b0)) 47 [(0, .ref (σ q)), (1, .int X1), (2, .int X2), (3, .int X3), (4, .int X4)] [] M N := by
  unfold fX3_mustWait_J47 at hf
  refine x_iconst hE (0 : Int32) dX3_mustWait_47 (by decide) ?_
  exact wX3_mustWait_J48 hE hr hq hK3 hf
theorem wX3_mustWait_L3 {p : Program} {l : Launch} {e : Env} {s : State} {m : MethodId} {args : Array Value} {below : List Frame} {meth : Method} {c : Code} {Y : Nat → ClassId} {D : va_G} {σ : Nat → Nat} {np b0 : Nat} {q : Nat} {r : Int32} (hE : EOK p s m args meth c cX3_mustWait 6 RX3 Y D σ np b0) (hr : meth.sig.returnType = (some .boolean)) (hq : is3 q) : ∀ (n : Nat) (M : Mc) (N : Md) (X1 : Int32) (X2 : Int32) (X3 : Int32) (X4 : Int32), fX3_mustWait_L3 q n M X1 X2 X3 X4 = some r → Xw p l e (rmD 3) s m args below meth c 6 Y D σ np b0 0 0 (MQ below (QR Y D σ np b0 (some (.int r)) M N) args s 0 0 (xA b0)) 3 [(0, .ref (σ q)), (1, .int X1), (2, .int X2), (3, .int X3), (4, .int X4)] [] M N := by
  intro n
  induction n with
  | zero =>
    intro M N X1 X2 X3 X4 hf
    cases hf
  | succ n ih =>
    intro M N X1 X2 X3 X4 hf
    rw [fX3_mustWait_L3.eq_2] at hf
    refine x_iload hE 4 dX3_mustWait_3 rfl ?_
    refine x_aload_n hE 0 dX3_mustWait_5 rfl rfl ?_
    refine x_getI hE cl_3 (hE.kd (kO_3 hq)) (by decide) 0 rfl (by decide) lk_X3_46 dX3_mustWait_6 ?_
    refine x_icmp_ge hE 85 dX3_mustWait_9 (by decide) hf (fun hf => ?_) (fun hf => ?_)
    · refine x_iconst hE (0 : Int32) dX3_mustWait_85 (by decide) ?_
      replace hf := Option.some.inj hf
      subst hf
      exact x_ireturn hE (v := 0) hr rfl dX3_mustWait_86
    · refine x_iload hE 4 dX3_mustWait_12 rfl ?_
      refine x_bipush hE (nI 100) dX3_mustWait_14 (by decide) ?_
      refine x_icmp_ge hE 85 dX3_mustWait_16 (by decide) hf (fun hf => ?_) (fun hf => ?_)
      · refine x_iconst hE (0 : Int32) dX3_mustWait_85 (by decide) ?_
        replace hf := Option.some.inj hf
        subst hf
        exact x_ireturn hE (v := 0) hr rfl dX3_mustWait_86
      · refine x_aload_n hE 0 dX3_mustWait_19 rfl rfl ?_
        refine x_iload hE 4 dX3_mustWait_20 rfl ?_
        obtain ⟨v2, hc1, hf⟩ := bnd_some hf
        refine x_callV1 hE [.int X4] (rest := []) (v := .int v2) (c1 := M) (d1 := N) rfl yokX3_mayChooseStill yvX3_mayChooseStill lk_X3_80 rfl cl_3 (hE.kd (kO_3 hq)) (by decide) rfl rfl ⟨Nat.le_of_ble_eq_true rfl, Nat.le_of_ble_eq_true rfl⟩ ⟨Nat.zero_le _, Nat.zero_le _⟩ rfl (Nat.le_of_ble_eq_true rfl) dX3_mustWait_22 (mX3_mayChooseStill l hq hc1) ?_
        refine x_if_eq hE 47 dX3_mustWait_25 (by decide) hf (fun hf => ?_) (fun hf => ?_)
        · exact wX3_mustWait_J47 hE hr hq (fun _ _ _ _ _ _ hf => ih _ _ _ _ _ _ hf) hf
        · refine x_aload_n hE 0 dX3_mustWait_28 rfl rfl ?_
          refine x_getR hE cl_3 (hE.kd (kO_3 hq)) (by decide) 10 (q + 7) rfl (by decide) lk_X3_30 dX3_mustWait_29 ?_
          refine x_iload hE 4 dX3_mustWait_32 rfl ?_
          refine x_iald hE (hE.kd (kB_3_10 hq)) dX3_mustWait_34 hf (fun hf => ?_)
          refine x_aload_n hE 0 dX3_mustWait_35 rfl rfl ?_
          refine x_iload_n hE 1 dX3_mustWait_36 rfl rfl ?_
          obtain ⟨v4, hc3, hf⟩ := bnd_some hf
          refine x_callV1 hE [.int X1] (rest := [.int (M (q + 7) X4.toNatClampNeg)]) (v := .int v4) (c1 := M) (d1 := N) rfl yokX3_orderOf yvX3_orderOf lk_X3_83 rfl cl_3 (hE.kd (kO_3 hq)) (by decide) rfl rfl ⟨Nat.le_of_ble_eq_true rfl, Nat.le_of_ble_eq_true rfl⟩ ⟨Nat.zero_le _, Nat.zero_le _⟩ rfl (Nat.le_of_ble_eq_true rfl) dX3_mustWait_37 (mX3_orderOf l hq hc3) ?_
          refine x_icmp_ge hE 47 dX3_mustWait_40 (by decide) hf (fun hf => ?_) (fun hf => ?_)
          · exact wX3_mustWait_J47 hE hr hq (fun _ _ _ _ _ _ hf => ih _ _ _ _ _ _ hf) hf
          · refine x_iconst hE (nI 1) dX3_mustWait_43 (by decide) ?_
            refine x_goto hE 48 dX3_mustWait_44 (by decide) ?_
            exact wX3_mustWait_J48 hE hr hq (fun _ _ _ _ _ _ hf => ih _ _ _ _ _ _ hf) hf
theorem mX3_mustWait (l : Launch) {Y : Nat → ClassId} {D : va_G} {σ : Nat → Nat} {np b0 : Nat} {M : Mc} {N : Md} {q : Nat} {p0 : Int32} {p1 : Int32} {p2 : Int32} {r : Int32} (hq : is3 q) (hf : fX3_mustWait M q p0 p1 p2 = some r) : Met l yX3_mustWait (.code yX3_mustWait cX3_mustWait 6 (some .boolean) :: lw_g) (rmD 3) (PR Y D σ np b0 [.ref (σ q), .int p0, .int p1, .int p2] M N) (QR Y D σ np b0 (some (.int r)) M N) 0 0 (xA b0) := by
  refine x_met (by decide) (Nat.le_of_ble_eq_true rfl) (fun p e s m args below meth c hE hr => ?_)
  unfold fX3_mustWait at hf
  refine x_pick [0, 1, 2, 3] (L' := [(0, .ref (σ q)), (1, .int p0), (2, .int p1), (3, .int p2)]) rfl ?_
  refine x_iconst hE (0 : Int32) dX3_mustWait_0 (by decide) ?_
  refine x_istore hE (L' := [(4, .int 0), (0, .ref (σ q)), (1, .int p0), (2, .int p1), (3, .int p2)]) dX3_mustWait_1 (by decide) rfl ?_
  refine x_pick [1, 2, 3, 4, 0] (L' := [(0, .ref (σ q)), (1, .int p0), (2, .int p1), (3, .int p2), (4, .int 0)]) rfl ?_
  exact wX3_mustWait_L3 hE hr hq FU _ _ _ _ _ _ hf
theorem yokX3_mustWait : YOK yX3_mustWait cX3_mustWait 6 3 (some .boolean) := ⟨mem_g 1236 (by decide +kernel) (by decide +kernel), mem_g 136 (by decide +kernel) (by decide +kernel), by decide +kernel, by decide +kernel, by decide +kernel⟩
theorem yvX3_mustWait : YV yX3_mustWait := ⟨mem_g 1234 (by decide +kernel) (by decide +kernel), mem_g 1235 (by decide +kernel) (by decide +kernel)⟩
theorem dX3_useOrder_0 : decode cX3_useOrder 0 = .ok (.aload_n 0, 1) := by decide +kernel
theorem dX3_useOrder_1 : decode cX3_useOrder 1 = .ok (.iload_n 1, 1) := by decide +kernel
theorem dX3_useOrder_2 : decode cX3_useOrder 2 = .ok (.invokevirtual 69, 3) := by decide +kernel
theorem dX3_useOrder_5 : decode cX3_useOrder 5 = .ok (.ifCond .ne 5, 3) := by decide +kernel
theorem dX3_useOrder_8 : decode cX3_useOrder 8 = .ok (.iconst (-1), 1) := by decide +kernel
theorem dX3_useOrder_9 : decode cX3_useOrder 9 = .ok (.ireturn, 1) := by decide +kernel
theorem dX3_useOrder_10 : decode cX3_useOrder 10 = .ok (.aload_n 0, 1) := by decide +kernel
theorem dX3_useOrder_11 : decode cX3_useOrder 11 = .ok (.getfield 36, 3) := by decide +kernel
theorem dX3_useOrder_14 : decode cX3_useOrder 14 = .ok (.iload_n 1, 1) := by decide +kernel
theorem dX3_useOrder_15 : decode cX3_useOrder 15 = .ok (.iconst 1, 1) := by decide +kernel
theorem dX3_useOrder_16 : decode cX3_useOrder 16 = .ok (.bastore, 1) := by decide +kernel
theorem dX3_useOrder_17 : decode cX3_useOrder 17 = .ok (.aload_n 0, 1) := by decide +kernel
theorem dX3_useOrder_18 : decode cX3_useOrder 18 = .ok (.getfield 33, 3) := by decide +kernel
theorem dX3_useOrder_21 : decode cX3_useOrder 21 = .ok (.iload_n 1, 1) := by decide +kernel
theorem dX3_useOrder_22 : decode cX3_useOrder 22 = .ok (.iaload, 1) := by decide +kernel
theorem dX3_useOrder_23 : decode cX3_useOrder 23 = .ok (.ireturn, 1) := by decide +kernel
theorem mX3_useOrder (l : Launch) {Y : Nat → ClassId} {D : va_G} {σ : Nat → Nat} {np b0 : Nat} {M : Mc} {N : Md} {q : Nat} {p0 : Int32} {r : Int32 × Mc} (hq : is3 q) (hf : fX3_useOrder M q p0 = some r) : Met l yX3_useOrder (.code yX3_useOrder cX3_useOrder 2 (some .int) :: lw_g) (rmD 2) (PR Y D σ np b0 [.ref (σ q), .int p0] M N) (QR Y D σ np b0 (some (.int r.1)) r.2 N) 0 0 (xA b0) := by
  refine x_met (by decide) (Nat.le_of_ble_eq_true rfl) (fun p e s m args below meth c hE hr => ?_)
  unfold fX3_useOrder at hf
  refine x_pick [0, 1] (L' := [(0, .ref (σ q)), (1, .int p0)]) rfl ?_
  refine x_aload_n hE 0 dX3_useOrder_0 rfl rfl ?_
  refine x_iload_n hE 1 dX3_useOrder_1 rfl rfl ?_
  obtain ⟨v2, hc1, hf⟩ := bnd_some hf
  refine x_callV1 hE [.int p0] (rest := []) (v := .int v2) (c1 := M) (d1 := N) rfl yokX3_isOne yvX3_isOne lk_X3_69 rfl cl_3 (hE.kd (kO_3 hq)) (by decide) rfl rfl ⟨Nat.le_of_ble_eq_true rfl, Nat.le_of_ble_eq_true rfl⟩ ⟨Nat.zero_le _, Nat.zero_le _⟩ rfl (Nat.le_of_ble_eq_true rfl) dX3_useOrder_2 (mX3_isOne l hq hc1) ?_
  refine x_if_ne hE 10 dX3_useOrder_5 (by decide) hf (fun hf => ?_) (fun hf => ?_)
  · refine x_aload_n hE 0 dX3_useOrder_10 rfl rfl ?_
    refine x_getR hE cl_3 (hE.kd (kO_3 hq)) (by decide) 12 (q + 9) rfl (by decide) lk_X3_36 dX3_useOrder_11 ?_
    refine x_iload_n hE 1 dX3_useOrder_14 rfl rfl ?_
    refine x_iconst hE (nI 1) dX3_useOrder_15 (by decide) ?_
    refine x_zast hE (hE.kd (kB_3_12 hq)) dX3_useOrder_16 hf (fun M3 hf => ?_)
    refine x_aload_n hE 0 dX3_useOrder_17 rfl rfl ?_
    refine x_getR hE cl_3 (hE.kd (kO_3 hq)) (by decide) 11 (q + 8) rfl (by decide) lk_X3_33 dX3_useOrder_18 ?_
    refine x_iload_n hE 1 dX3_useOrder_21 rfl rfl ?_
    refine x_iald hE (hE.kd (kB_3_11 hq)) dX3_useOrder_22 hf (fun hf => ?_)
    replace hf := Option.some.inj hf
    subst hf
    exact x_ireturn hE (v := M3 (q + 8) p0.toNatClampNeg) hr rfl dX3_useOrder_23
  · refine x_iconst hE (-1) dX3_useOrder_8 (by decide) ?_
    replace hf := Option.some.inj hf
    subst hf
    exact x_ireturn hE (v := (-1)) hr rfl dX3_useOrder_9
theorem yokX3_useOrder : YOK yX3_useOrder cX3_useOrder 2 1 (some .int) := ⟨mem_g 1243 (by decide +kernel) (by decide +kernel), mem_g 136 (by decide +kernel) (by decide +kernel), by decide +kernel, by decide +kernel, by decide +kernel⟩
theorem yvX3_useOrder : YV yX3_useOrder := ⟨mem_g 1241 (by decide +kernel) (by decide +kernel), mem_g 1242 (by decide +kernel) (by decide +kernel)⟩
theorem dX3_sailOrders_0 : decode cX3_sailOrders 0 = .ok (.iconst 0, 1) := by decide +kernel
theorem dX3_sailOrders_1 : decode cX3_sailOrders 1 = .ok (.istore_n 2, 1) := by decide +kernel
theorem dX3_sailOrders_2 : decode cX3_sailOrders 2 = .ok (.iload_n 2, 1) := by decide +kernel
theorem dX3_sailOrders_3 : decode cX3_sailOrders 3 = .ok (.aload_n 0, 1) := by decide +kernel
theorem dX3_sailOrders_4 : decode cX3_sailOrders 4 = .ok (.getfield 46, 3) := by decide +kernel
theorem dX3_sailOrders_7 : decode cX3_sailOrders 7 = .ok (.if_icmp .ge 48, 3) := by decide +kernel
theorem dX3_sailOrders_10 : decode cX3_sailOrders 10 = .ok (.iload_n 2, 1) := by decide +kernel
theorem dX3_sailOrders_11 : decode cX3_sailOrders 11 = .ok (.bipush 100, 2) := by decide +kernel
theorem dX3_sailOrders_13 : decode cX3_sailOrders 13 = .ok (.if_icmp .ge 42, 3) := by decide +kernel
theorem dX3_sailOrders_16 : decode cX3_sailOrders 16 = .ok (.aload_n 0, 1) := by decide +kernel
theorem dX3_sailOrders_17 : decode cX3_sailOrders 17 = .ok (.getfield 18, 3) := by decide +kernel
theorem dX3_sailOrders_20 : decode cX3_sailOrders 20 = .ok (.iload_n 2, 1) := by decide +kernel
theorem dX3_sailOrders_21 : decode cX3_sailOrders 21 = .ok (.iaload, 1) := by decide +kernel
theorem dX3_sailOrders_22 : decode cX3_sailOrders 22 = .ok (.ifCond .ne 27, 3) := by decide +kernel
theorem dX3_sailOrders_25 : decode cX3_sailOrders 25 = .ok (.aload_n 0, 1) := by decide +kernel
theorem dX3_sailOrders_26 : decode cX3_sailOrders 26 = .ok (.getfield 30, 3) := by decide +kernel
theorem dX3_sailOrders_29 : decode cX3_sailOrders 29 = .ok (.iload_n 2, 1) := by decide +kernel
theorem dX3_sailOrders_30 : decode cX3_sailOrders 30 = .ok (.iaload, 1) := by decide +kernel
theorem dX3_sailOrders_31 : decode cX3_sailOrders 31 = .ok (.iconst (-1), 1) := by decide +kernel
theorem dX3_sailOrders_32 : decode cX3_sailOrders 32 = .ok (.if_icmp .eq 17, 3) := by decide +kernel
theorem dX3_sailOrders_35 : decode cX3_sailOrders 35 = .ok (.aload_n 0, 1) := by decide +kernel
theorem dX3_sailOrders_36 : decode cX3_sailOrders 36 = .ok (.getfield 18, 3) := by decide +kernel
theorem dX3_sailOrders_39 : decode cX3_sailOrders 39 = .ok (.iload_n 2, 1) := by decide +kernel
theorem dX3_sailOrders_40 : decode cX3_sailOrders 40 = .ok (.iconst 1, 1) := by decide +kernel
theorem dX3_sailOrders_41 : decode cX3_sailOrders 41 = .ok (.iastore, 1) := by decide +kernel
theorem dX3_sailOrders_42 : decode cX3_sailOrders 42 = .ok (.aload_n 0, 1) := by decide +kernel
theorem dX3_sailOrders_43 : decode cX3_sailOrders 43 = .ok (.getfield 43, 3) := by decide +kernel
theorem dX3_sailOrders_46 : decode cX3_sailOrders 46 = .ok (.iload_n 2, 1) := by decide +kernel
theorem dX3_sailOrders_47 : decode cX3_sailOrders 47 = .ok (.iload_n 1, 1) := by decide +kernel
theorem dX3_sailOrders_48 : decode cX3_sailOrders 48 = .ok (.iastore, 1) := by decide +kernel
theorem dX3_sailOrders_49 : decode cX3_sailOrders 49 = .ok (.iinc 2 1, 3) := by decide +kernel
theorem dX3_sailOrders_52 : decode cX3_sailOrders 52 = .ok (.goto (-50), 3) := by decide +kernel
theorem dX3_sailOrders_55 : decode cX3_sailOrders 55 = .ok (.return_, 1) := by decide +kernel
theorem wX3_sailOrders_J49 {p : Program} {l : Launch} {e : Env} {s : State} {m : MethodId} {args : Array Value} {below : List Frame} {meth : Method} {c : Code} {Y : Nat → ClassId} {D : va_G} {σ : Nat → Nat} {np b0 : Nat} {q : Nat} {r : Mc} {K2 : Mc → Int32 → Int32 → Option (Mc)} {M : Mc} {N : Md} {X1 : Int32} {X2 : Int32} (hE : EOK p s m args meth c cX3_sailOrders 3 RX3 Y D σ np b0) (hr : meth.sig.returnType = none) (hq : is3 q) (hK2 : ∀ (M : Mc) (N : Md) (X1 : Int32) (X2 : Int32), K2 M X1 X2 = some r → Xw p l e (rmD 1) s m args below meth c 3 Y D σ np b0 0 0 (MQ below (QR Y D σ np b0 none r N) args s 0 0 (xA b0)) 2 [(0, .ref (σ q)), (1, .int X1), (2, .int X2)] [] M N) (hf : fX3_sailOrders_J49 q K2 M X1 X2 = some r) : Xw p l e (rmD 1) s m args below meth c 3 Y D σ np b0 0 0 (MQ below (QR Y D σ np b0 none r N) args s 0 0 (xA b0)) 49 [(0, .ref (σ q)), (1, .int X1), (2, .int X2)] [] M N := by
  unfold fX3_sailOrders_J49 at hf
  refine x_iinc hE 2 (X2 + nI 1) (L' := [(2, .int (X2 + nI 1)), (0, .ref (σ q)), (1, .int X1)]) dX3_sailOrders_49 rfl rfl (by decide) rfl ?_
  refine x_pick [1, 2, 0] (L' := [(0, .ref (σ q)), (1, .int X1), (2, .int (X2 + nI 1))]) rfl ?_
  refine x_goto hE 2 dX3_sailOrders_52 (by decide) ?_
  exact hK2 _ _ _ _ hf
theorem wX3_sailOrders_L2 {p : Program} {l : Launch} {e : Env} {s : State} {m : MethodId} {args : Array Value} {below : List Frame} {meth : Method} {c : Code} {Y : Nat → ClassId} {D : va_G} {σ : Nat → Nat} {np b0 : Nat} {q : Nat} {r : Mc} (hE : EOK p s m args meth c cX3_sailOrders 3 RX3 Y D σ np b0) (hr : meth.sig.returnType = none) (hq : is3 q) : ∀ (n : Nat) (M : Mc) (N : Md) (X1 : Int32) (X2 : Int32), fX3_sailOrders_L2 q n M X1 X2 = some r → Xw p l e (rmD 1) s m args below meth c 3 Y D σ np b0 0 0 (MQ below (QR Y D σ np b0 none r N) args s 0 0 (xA b0)) 2 [(0, .ref (σ q)), (1, .int X1), (2, .int X2)] [] M N := by
  intro n
  induction n with
  | zero =>
    intro M N X1 X2 hf
    cases hf
  | succ n ih =>
    intro M N X1 X2 hf
    rw [fX3_sailOrders_L2.eq_2] at hf
    refine x_iload_n hE 2 dX3_sailOrders_2 rfl rfl ?_
    refine x_aload_n hE 0 dX3_sailOrders_3 rfl rfl ?_
    refine x_getI hE cl_3 (hE.kd (kO_3 hq)) (by decide) 0 rfl (by decide) lk_X3_46 dX3_sailOrders_4 ?_
    refine x_icmp_ge hE 55 dX3_sailOrders_7 (by decide) hf (fun hf => ?_) (fun hf => ?_)
    · replace hf := Option.some.inj hf
      subst hf
      exact x_vreturn hE hr dX3_sailOrders_55
    · refine x_iload_n hE 2 dX3_sailOrders_10 rfl rfl ?_
      refine x_bipush hE (nI 100) dX3_sailOrders_11 (by decide) ?_
      refine x_icmp_ge hE 55 dX3_sailOrders_13 (by decide) hf (fun hf => ?_) (fun hf => ?_)
      · replace hf := Option.some.inj hf
        subst hf
        exact x_vreturn hE hr dX3_sailOrders_55
      · refine x_aload_n hE 0 dX3_sailOrders_16 rfl rfl ?_
        refine x_getR hE cl_3 (hE.kd (kO_3 hq)) (by decide) 6 (q + 3) rfl (by decide) lk_X3_18 dX3_sailOrders_17 ?_
        refine x_iload_n hE 2 dX3_sailOrders_20 rfl rfl ?_
        refine x_iald hE (hE.kd (kB_3_6 hq)) dX3_sailOrders_21 hf (fun hf => ?_)
        refine x_if_ne hE 49 dX3_sailOrders_22 (by decide) hf (fun hf => ?_) (fun hf => ?_)
        · exact wX3_sailOrders_J49 hE hr hq (fun _ _ _ _ hf => ih _ _ _ _ hf) hf
        · refine x_aload_n hE 0 dX3_sailOrders_25 rfl rfl ?_
          refine x_getR hE cl_3 (hE.kd (kO_3 hq)) (by decide) 10 (q + 7) rfl (by decide) lk_X3_30 dX3_sailOrders_26 ?_
          refine x_iload_n hE 2 dX3_sailOrders_29 rfl rfl ?_
          refine x_iald hE (hE.kd (kB_3_10 hq)) dX3_sailOrders_30 hf (fun hf => ?_)
          refine x_iconst hE (-1) dX3_sailOrders_31 (by decide) ?_
          refine x_icmp_eq hE 49 dX3_sailOrders_32 (by decide) hf (fun hf => ?_) (fun hf => ?_)
          · exact wX3_sailOrders_J49 hE hr hq (fun _ _ _ _ hf => ih _ _ _ _ hf) hf
          · refine x_aload_n hE 0 dX3_sailOrders_35 rfl rfl ?_
            refine x_getR hE cl_3 (hE.kd (kO_3 hq)) (by decide) 6 (q + 3) rfl (by decide) lk_X3_18 dX3_sailOrders_36 ?_
            refine x_iload_n hE 2 dX3_sailOrders_39 rfl rfl ?_
            refine x_iconst hE (nI 1) dX3_sailOrders_40 (by decide) ?_
            refine x_iast hE (hE.kd (kB_3_6 hq)) dX3_sailOrders_41 hf (fun M1 hf => ?_)
            refine x_aload_n hE 0 dX3_sailOrders_42 rfl rfl ?_
            refine x_getR hE cl_3 (hE.kd (kO_3 hq)) (by decide) 14 (q + 11) rfl (by decide) lk_X3_43 dX3_sailOrders_43 ?_
            refine x_iload_n hE 2 dX3_sailOrders_46 rfl rfl ?_
            refine x_iload_n hE 1 dX3_sailOrders_47 rfl rfl ?_
            refine x_iast hE (hE.kd (kB_3_14 hq)) dX3_sailOrders_48 hf (fun M2 hf => ?_)
            exact wX3_sailOrders_J49 hE hr hq (fun _ _ _ _ hf => ih _ _ _ _ hf) hf
theorem mX3_sailOrders (l : Launch) {Y : Nat → ClassId} {D : va_G} {σ : Nat → Nat} {np b0 : Nat} {M : Mc} {N : Md} {q : Nat} {p0 : Int32} {r : Mc} (hq : is3 q) (hf : fX3_sailOrders M q p0 = some r) : Met l yX3_sailOrders (.code yX3_sailOrders cX3_sailOrders 3 none :: lw_g) (rmD 1) (PR Y D σ np b0 [.ref (σ q), .int p0] M N) (QR Y D σ np b0 none r N) 0 0 (xA b0) := by
  refine x_met (by decide) (Nat.le_of_ble_eq_true rfl) (fun p e s m args below meth c hE hr => ?_)
  unfold fX3_sailOrders at hf
  refine x_pick [0, 1] (L' := [(0, .ref (σ q)), (1, .int p0)]) rfl ?_
  refine x_iconst hE (0 : Int32) dX3_sailOrders_0 (by decide) ?_
  refine x_istore_n hE (L' := [(2, .int 0), (0, .ref (σ q)), (1, .int p0)]) dX3_sailOrders_1 rfl (by decide) rfl ?_
  refine x_pick [1, 2, 0] (L' := [(0, .ref (σ q)), (1, .int p0), (2, .int 0)]) rfl ?_
  exact wX3_sailOrders_L2 hE hr hq FU _ _ _ _ hf
theorem yokX3_sailOrders : YOK yX3_sailOrders cX3_sailOrders 3 1 none := ⟨mem_g 682 (by decide +kernel) (by decide +kernel), mem_g 136 (by decide +kernel) (by decide +kernel), by decide +kernel, by decide +kernel, by decide +kernel⟩
theorem yvX3_sailOrders : YV yX3_sailOrders := ⟨mem_g 680 (by decide +kernel) (by decide +kernel), mem_g 681 (by decide +kernel) (by decide +kernel)⟩
theorem dX3_disembark_0 : decode cX3_disembark 0 = .ok (.iconst 0, 1) := by decide +kernel
theorem dX3_disembark_1 : decode cX3_disembark 1 = .ok (.istore_n 2, 1) := by decide +kernel
theorem dX3_disembark_2 : decode cX3_disembark 2 = .ok (.iload_n 2, 1) := by decide +kernel
theorem dX3_disembark_3 : decode cX3_disembark 3 = .ok (.aload_n 0, 1) := by decide +kernel
theorem dX3_disembark_4 : decode cX3_disembark 4 = .ok (.getfield 46, 3) := by decide +kernel
theorem dX3_disembark_7 : decode cX3_disembark 7 = .ok (.if_icmp .ge 52, 3) := by decide +kernel
theorem dX3_disembark_10 : decode cX3_disembark 10 = .ok (.iload_n 2, 1) := by decide +kernel
theorem dX3_disembark_11 : decode cX3_disembark 11 = .ok (.bipush 100, 2) := by decide +kernel
theorem dX3_disembark_13 : decode cX3_disembark 13 = .ok (.if_icmp .ge 46, 3) := by decide +kernel
theorem dX3_disembark_16 : decode cX3_disembark 16 = .ok (.aload_n 0, 1) := by decide +kernel
theorem dX3_disembark_17 : decode cX3_disembark 17 = .ok (.getfield 18, 3) := by decide +kernel
theorem dX3_disembark_20 : decode cX3_disembark 20 = .ok (.iload_n 2, 1) := by decide +kernel
theorem dX3_disembark_21 : decode cX3_disembark 21 = .ok (.iaload, 1) := by decide +kernel
theorem dX3_disembark_22 : decode cX3_disembark 22 = .ok (.iconst 1, 1) := by decide +kernel
theorem dX3_disembark_23 : decode cX3_disembark 23 = .ok (.if_icmp .ne 30, 3) := by decide +kernel
theorem dX3_disembark_26 : decode cX3_disembark 26 = .ok (.aload_n 0, 1) := by decide +kernel
theorem dX3_disembark_27 : decode cX3_disembark 27 = .ok (.getfield 43, 3) := by decide +kernel
theorem dX3_disembark_30 : decode cX3_disembark 30 = .ok (.iload_n 2, 1) := by decide +kernel
theorem dX3_disembark_31 : decode cX3_disembark 31 = .ok (.iaload, 1) := by decide +kernel
theorem dX3_disembark_32 : decode cX3_disembark 32 = .ok (.iload_n 1, 1) := by decide +kernel
theorem dX3_disembark_33 : decode cX3_disembark 33 = .ok (.if_icmp .ne 20, 3) := by decide +kernel
theorem dX3_disembark_36 : decode cX3_disembark 36 = .ok (.aload_n 0, 1) := by decide +kernel
theorem dX3_disembark_37 : decode cX3_disembark 37 = .ok (.getfield 18, 3) := by decide +kernel
theorem dX3_disembark_40 : decode cX3_disembark 40 = .ok (.iload_n 2, 1) := by decide +kernel
theorem dX3_disembark_41 : decode cX3_disembark 41 = .ok (.iconst 2, 1) := by decide +kernel
theorem dX3_disembark_42 : decode cX3_disembark 42 = .ok (.iastore, 1) := by decide +kernel
theorem dX3_disembark_43 : decode cX3_disembark 43 = .ok (.aload_n 0, 1) := by decide +kernel
theorem dX3_disembark_44 : decode cX3_disembark 44 = .ok (.dup, 1) := by decide +kernel
theorem dX3_disembark_45 : decode cX3_disembark 45 = .ok (.getfield 50, 3) := by decide +kernel
theorem dX3_disembark_48 : decode cX3_disembark 48 = .ok (.iconst 1, 1) := by decide +kernel
theorem dX3_disembark_49 : decode cX3_disembark 49 = .ok (.iadd, 1) := by decide +kernel
theorem dX3_disembark_50 : decode cX3_disembark 50 = .ok (.putfield 50, 3) := by decide +kernel
theorem dX3_disembark_53 : decode cX3_disembark 53 = .ok (.iinc 2 1, 3) := by decide +kernel
theorem dX3_disembark_56 : decode cX3_disembark 56 = .ok (.goto (-54), 3) := by decide +kernel
theorem dX3_disembark_59 : decode cX3_disembark 59 = .ok (.return_, 1) := by decide +kernel
theorem wX3_disembark_J53 {p : Program} {l : Launch} {e : Env} {s : State} {m : MethodId} {args : Array Value} {below : List Frame} {meth : Method} {c : Code} {Y : Nat → ClassId} {D : va_G} {σ : Nat → Nat} {np b0 : Nat} {q : Nat} {r : Mc} {K2 : Mc → Int32 → Int32 → Option (Mc)} {M : Mc} {N : Md} {X1 : Int32} {X2 : Int32} (hE : EOK p s m args meth c cX3_disembark 3 RX3 Y D σ np b0) (hr : meth.sig.returnType = none) (hq : is3 q) (hK2 : ∀ (M : Mc) (N : Md) (X1 : Int32) (X2 : Int32), K2 M X1 X2 = some r → Xw p l e (rmD 1) s m args below meth c 3 Y D σ np b0 0 0 (MQ below (QR Y D σ np b0 none r N) args s 0 0 (xA b0)) 2 [(0, .ref (σ q)), (1, .int X1), (2, .int X2)] [] M N) (hf : fX3_disembark_J53 q K2 M X1 X2 = some r) : Xw p l e (rmD 1) s m args below meth c 3 Y D σ np b0 0 0 (MQ below (QR Y D σ np b0 none r N) args s 0 0 (xA b0)) 53 [(0, .ref (σ q)), (1, .int X1), (2, .int X2)] [] M N := by
  unfold fX3_disembark_J53 at hf
  refine x_iinc hE 2 (X2 + nI 1) (L' := [(2, .int (X2 + nI 1)), (0, .ref (σ q)), (1, .int X1)]) dX3_disembark_53 rfl rfl (by decide) rfl ?_
  refine x_pick [1, 2, 0] (L' := [(0, .ref (σ q)), (1, .int X1), (2, .int (X2 + nI 1))]) rfl ?_
  refine x_goto hE 2 dX3_disembark_56 (by decide) ?_
  exact hK2 _ _ _ _ hf
theorem wX3_disembark_L2 {p : Program} {l : Launch} {e : Env} {s : State} {m : MethodId} {args : Array Value} {below : List Frame} {meth : Method} {c : Code} {Y : Nat → ClassId} {D : va_G} {σ : Nat → Nat} {np b0 : Nat} {q : Nat} {r : Mc} (hE : EOK p s m args meth c cX3_disembark 3 RX3 Y D σ np b0) (hr : meth.sig.returnType = none) (hq : is3 q) : ∀ (n : Nat) (M : Mc) (N : Md) (X1 : Int32) (X2 : Int32), fX3_disembark_L2 q n M X1 X2 = some r → Xw p l e (rmD 1) s m args below meth c 3 Y D σ np b0 0 0 (MQ below (QR Y D σ np b0 none r N) args s 0 0 (xA b0)) 2 [(0, .ref (σ q)), (1, .int X1), (2, .int X2)] [] M N := by
  intro n
  induction n with
  | zero =>
    intro M N X1 X2 hf
    cases hf
  | succ n ih =>
    intro M N X1 X2 hf
    rw [fX3_disembark_L2.eq_2] at hf
    refine x_iload_n hE 2 dX3_disembark_2 rfl rfl ?_
    refine x_aload_n hE 0 dX3_disembark_3 rfl rfl ?_
    refine x_getI hE cl_3 (hE.kd (kO_3 hq)) (by decide) 0 rfl (by decide) lk_X3_46 dX3_disembark_4 ?_
    refine x_icmp_ge hE 59 dX3_disembark_7 (by decide) hf (fun hf => ?_) (fun hf => ?_)
    · replace hf := Option.some.inj hf
      subst hf
      exact x_vreturn hE hr dX3_disembark_59
    · refine x_iload_n hE 2 dX3_disembark_10 rfl rfl ?_
      refine x_bipush hE (nI 100) dX3_disembark_11 (by decide) ?_
      refine x_icmp_ge hE 59 dX3_disembark_13 (by decide) hf (fun hf => ?_) (fun hf => ?_)
      · replace hf := Option.some.inj hf
        subst hf
        exact x_vreturn hE hr dX3_disembark_59
      · refine x_aload_n hE 0 dX3_disembark_16 rfl rfl ?_
        refine x_getR hE cl_3 (hE.kd (kO_3 hq)) (by decide) 6 (q + 3) rfl (by decide) lk_X3_18 dX3_disembark_17 ?_
        refine x_iload_n hE 2 dX3_disembark_20 rfl rfl ?_
        refine x_iald hE (hE.kd (kB_3_6 hq)) dX3_disembark_21 hf (fun hf => ?_)
        refine x_iconst hE (nI 1) dX3_disembark_22 (by decide) ?_
        refine x_icmp_ne hE 53 dX3_disembark_23 (by decide) hf (fun hf => ?_) (fun hf => ?_)
        · exact wX3_disembark_J53 hE hr hq (fun _ _ _ _ hf => ih _ _ _ _ hf) hf
        · refine x_aload_n hE 0 dX3_disembark_26 rfl rfl ?_
          refine x_getR hE cl_3 (hE.kd (kO_3 hq)) (by decide) 14 (q + 11) rfl (by decide) lk_X3_43 dX3_disembark_27 ?_
          refine x_iload_n hE 2 dX3_disembark_30 rfl rfl ?_
          refine x_iald hE (hE.kd (kB_3_14 hq)) dX3_disembark_31 hf (fun hf => ?_)
          refine x_iload_n hE 1 dX3_disembark_32 rfl rfl ?_
          refine x_icmp_ne hE 53 dX3_disembark_33 (by decide) hf (fun hf => ?_) (fun hf => ?_)
          · exact wX3_disembark_J53 hE hr hq (fun _ _ _ _ hf => ih _ _ _ _ hf) hf
          · refine x_aload_n hE 0 dX3_disembark_36 rfl rfl ?_
            refine x_getR hE cl_3 (hE.kd (kO_3 hq)) (by decide) 6 (q + 3) rfl (by decide) lk_X3_18 dX3_disembark_37 ?_
            refine x_iload_n hE 2 dX3_disembark_40 rfl rfl ?_
            refine x_iconst hE (nI 2) dX3_disembark_41 (by decide) ?_
            refine x_iast hE (hE.kd (kB_3_6 hq)) dX3_disembark_42 hf (fun M1 hf => ?_)
            refine x_aload_n hE 0 dX3_disembark_43 rfl rfl ?_
            refine x_dup hE dX3_disembark_44 rfl ?_
            refine x_getI hE cl_3 (hE.kd (kO_3 hq)) (by decide) 1 rfl (by decide) lk_X3_50 dX3_disembark_45 ?_
            refine x_iconst hE (nI 1) dX3_disembark_48 (by decide) ?_
            refine x_iadd hE dX3_disembark_49 ?_
            refine x_putI hE cl_3 (hE.kd (kO_3 hq)) (by decide) 1 rfl (by decide) lk_X3_50 rfl rfl rfl rfl dX3_disembark_50 hf (fun M2 hf => ?_)
            exact wX3_disembark_J53 hE hr hq (fun _ _ _ _ hf => ih _ _ _ _ hf) hf
theorem mX3_disembark (l : Launch) {Y : Nat → ClassId} {D : va_G} {σ : Nat → Nat} {np b0 : Nat} {M : Mc} {N : Md} {q : Nat} {p0 : Int32} {r : Mc} (hq : is3 q) (hf : fX3_disembark M q p0 = some r) : Met l yX3_disembark (.code yX3_disembark cX3_disembark 3 none :: lw_g) (rmD 1) (PR Y D σ np b0 [.ref (σ q), .int p0] M N) (QR Y D σ np b0 none r N) 0 0 (xA b0) := by
  refine x_met (by decide) (Nat.le_of_ble_eq_true rfl) (fun p e s m args below meth c hE hr => ?_)
  unfold fX3_disembark at hf
  refine x_pick [0, 1] (L' := [(0, .ref (σ q)), (1, .int p0)]) rfl ?_
  refine x_iconst hE (0 : Int32) dX3_disembark_0 (by decide) ?_
  refine x_istore_n hE (L' := [(2, .int 0), (0, .ref (σ q)), (1, .int p0)]) dX3_disembark_1 rfl (by decide) rfl ?_
  refine x_pick [1, 2, 0] (L' := [(0, .ref (σ q)), (1, .int p0), (2, .int 0)]) rfl ?_
  exact wX3_disembark_L2 hE hr hq FU _ _ _ _ hf
theorem yokX3_disembark : YOK yX3_disembark cX3_disembark 3 1 none := ⟨mem_g 1680 (by decide +kernel) (by decide +kernel), mem_g 136 (by decide +kernel) (by decide +kernel), by decide +kernel, by decide +kernel, by decide +kernel⟩
theorem yvX3_disembark : YV yX3_disembark := ⟨mem_g 1678 (by decide +kernel) (by decide +kernel), mem_g 1679 (by decide +kernel) (by decide +kernel)⟩
theorem dX3_release_0 : decode cX3_release 0 = .ok (.iload_n 1, 1) := by decide +kernel
theorem dX3_release_1 : decode cX3_release 1 = .ok (.ifCond .lt 19, 3) := by decide +kernel
theorem dX3_release_4 : decode cX3_release 4 = .ok (.iload_n 1, 1) := by decide +kernel
theorem dX3_release_5 : decode cX3_release 5 = .ok (.bipush 100, 2) := by decide +kernel
theorem dX3_release_7 : decode cX3_release 7 = .ok (.if_icmp .ge 13, 3) := by decide +kernel
theorem dX3_release_10 : decode cX3_release 10 = .ok (.aload_n 0, 1) := by decide +kernel
theorem dX3_release_11 : decode cX3_release 11 = .ok (.getfield 18, 3) := by decide +kernel
theorem dX3_release_14 : decode cX3_release 14 = .ok (.iload_n 1, 1) := by decide +kernel
theorem dX3_release_15 : decode cX3_release 15 = .ok (.iaload, 1) := by decide +kernel
theorem dX3_release_16 : decode cX3_release 16 = .ok (.iconst 3, 1) := by decide +kernel
theorem dX3_release_17 : decode cX3_release 17 = .ok (.if_icmp .eq 4, 3) := by decide +kernel
theorem dX3_release_20 : decode cX3_release 20 = .ok (.return_, 1) := by decide +kernel
theorem dX3_release_21 : decode cX3_release 21 = .ok (.aload_n 0, 1) := by decide +kernel
theorem dX3_release_22 : decode cX3_release 22 = .ok (.getfield 21, 3) := by decide +kernel
theorem dX3_release_25 : decode cX3_release 25 = .ok (.iload_n 1, 1) := by decide +kernel
theorem dX3_release_26 : decode cX3_release 26 = .ok (.iaload, 1) := by decide +kernel
theorem dX3_release_27 : decode cX3_release 27 = .ok (.istore_n 2, 1) := by decide +kernel
theorem dX3_release_28 : decode cX3_release 28 = .ok (.iload_n 2, 1) := by decide +kernel
theorem dX3_release_29 : decode cX3_release 29 = .ok (.ifCond .lt 19, 3) := by decide +kernel
theorem dX3_release_32 : decode cX3_release 32 = .ok (.iload_n 2, 1) := by decide +kernel
theorem dX3_release_33 : decode cX3_release 33 = .ok (.bipush 100, 2) := by decide +kernel
theorem dX3_release_35 : decode cX3_release 35 = .ok (.if_icmp .ge 13, 3) := by decide +kernel
theorem dX3_release_38 : decode cX3_release 38 = .ok (.aload_n 0, 1) := by decide +kernel
theorem dX3_release_39 : decode cX3_release 39 = .ok (.getfield 24, 3) := by decide +kernel
theorem dX3_release_42 : decode cX3_release 42 = .ok (.iload_n 2, 1) := by decide +kernel
theorem dX3_release_43 : decode cX3_release 43 = .ok (.dup2, 1) := by decide +kernel
theorem dX3_release_44 : decode cX3_release 44 = .ok (.iaload, 1) := by decide +kernel
theorem dX3_release_45 : decode cX3_release 45 = .ok (.iconst 1, 1) := by decide +kernel
theorem dX3_release_46 : decode cX3_release 46 = .ok (.isub, 1) := by decide +kernel
theorem dX3_release_47 : decode cX3_release 47 = .ok (.iastore, 1) := by decide +kernel
theorem dX3_release_48 : decode cX3_release 48 = .ok (.aload_n 0, 1) := by decide +kernel
theorem dX3_release_49 : decode cX3_release 49 = .ok (.getfield 21, 3) := by decide +kernel
theorem dX3_release_52 : decode cX3_release 52 = .ok (.iload_n 1, 1) := by decide +kernel
theorem dX3_release_53 : decode cX3_release 53 = .ok (.iconst (-1), 1) := by decide +kernel
theorem dX3_release_54 : decode cX3_release 54 = .ok (.iastore, 1) := by decide +kernel
theorem dX3_release_55 : decode cX3_release 55 = .ok (.aload_n 0, 1) := by decide +kernel
theorem dX3_release_56 : decode cX3_release 56 = .ok (.getfield 18, 3) := by decide +kernel
theorem dX3_release_59 : decode cX3_release 59 = .ok (.iload_n 1, 1) := by decide +kernel
theorem dX3_release_60 : decode cX3_release 60 = .ok (.iconst 2, 1) := by decide +kernel
theorem dX3_release_61 : decode cX3_release 61 = .ok (.iastore, 1) := by decide +kernel
theorem dX3_release_62 : decode cX3_release 62 = .ok (.return_, 1) := by decide +kernel
theorem wX3_release_J48 {p : Program} {l : Launch} {e : Env} {s : State} {m : MethodId} {args : Array Value} {below : List Frame} {meth : Method} {c : Code} {Y : Nat → ClassId} {D : va_G} {σ : Nat → Nat} {np b0 : Nat} {q : Nat} {r : Mc} {M : Mc} {N : Md} {X1 : Int32} (hE : EOK p s m args meth c cX3_release 3 RX3 Y D σ np b0) (hr : meth.sig.returnType = none) (hq : is3 q) (hf : fX3_release_J48 q M X1 = some r) : Xw p l e (rmD 1) s m args below meth c 3 Y D σ np b0 0 0 (MQ below (QR Y D σ np b0 none r N) args s 0 0 (xA b0)) 48 [(0, .ref (σ q)), (1, .int X1)] [] M N := by
  unfold fX3_release_J48 at hf
  refine x_aload_n hE 0 dX3_release_48 rfl rfl ?_
  refine x_getR hE cl_3 (hE.kd (kO_3 hq)) (by decide) 7 (q + 4) rfl (by decide) lk_X3_21 dX3_release_49 ?_
  refine x_iload_n hE 1 dX3_release_52 rfl rfl ?_
  refine x_iconst hE (-1) dX3_release_53 (by decide) ?_
  refine x_iast hE (hE.kd (kB_3_7 hq)) dX3_release_54 hf (fun M3 hf => ?_)
  refine x_aload_n hE 0 dX3_release_55 rfl rfl ?_
  refine x_getR hE cl_3 (hE.kd (kO_3 hq)) (by decide) 6 (q + 3) rfl (by decide) lk_X3_18 dX3_release_56 ?_
  refine x_iload_n hE 1 dX3_release_59 rfl rfl ?_
  refine x_iconst hE (nI 2) dX3_release_60 (by decide) ?_
  refine x_iast hE (hE.kd (kB_3_6 hq)) dX3_release_61 hf (fun M4 hf => ?_)
  replace hf := Option.some.inj hf
  subst hf
  exact x_vreturn hE hr dX3_release_62
theorem mX3_release (l : Launch) {Y : Nat → ClassId} {D : va_G} {σ : Nat → Nat} {np b0 : Nat} {M : Mc} {N : Md} {q : Nat} {p0 : Int32} {r : Mc} (hq : is3 q) (hf : fX3_release M q p0 = some r) : Met l yX3_release (.code yX3_release cX3_release 3 none :: lw_g) (rmD 1) (PR Y D σ np b0 [.ref (σ q), .int p0] M N) (QR Y D σ np b0 none r N) 0 0 (xA b0) := by
  refine x_met (by decide) (Nat.le_of_ble_eq_true rfl) (fun p e s m args below meth c hE hr => ?_)
  unfold fX3_release at hf
  refine x_pick [0, 1] (L' := [(0, .ref (σ q)), (1, .int p0)]) rfl ?_
  refine x_iload_n hE 1 dX3_release_0 rfl rfl ?_
  refine x_if_lt hE 20 dX3_release_1 (by decide) hf (fun hf => ?_) (fun hf => ?_)
  · replace hf := Option.some.inj hf
    subst hf
    exact x_vreturn hE hr dX3_release_20
  · refine x_iload_n hE 1 dX3_release_4 rfl rfl ?_
    refine x_bipush hE (nI 100) dX3_release_5 (by decide) ?_
    refine x_icmp_ge hE 20 dX3_release_7 (by decide) hf (fun hf => ?_) (fun hf => ?_)
    · replace hf := Option.some.inj hf
      subst hf
      exact x_vreturn hE hr dX3_release_20
    · refine x_aload_n hE 0 dX3_release_10 rfl rfl ?_
      refine x_getR hE cl_3 (hE.kd (kO_3 hq)) (by decide) 6 (q + 3) rfl (by decide) lk_X3_18 dX3_release_11 ?_
      refine x_iload_n hE 1 dX3_release_14 rfl rfl ?_
      refine x_iald hE (hE.kd (kB_3_6 hq)) dX3_release_15 hf (fun hf => ?_)
      refine x_iconst hE (nI 3) dX3_release_16 (by decide) ?_
      refine x_icmp_eq hE 21 dX3_release_17 (by decide) hf (fun hf => ?_) (fun hf => ?_)
      · refine x_aload_n hE 0 dX3_release_21 rfl rfl ?_
        refine x_getR hE cl_3 (hE.kd (kO_3 hq)) (by decide) 7 (q + 4) rfl (by decide) lk_X3_21 dX3_release_22 ?_
        refine x_iload_n hE 1 dX3_release_25 rfl rfl ?_
        refine x_iald hE (hE.kd (kB_3_7 hq)) dX3_release_26 hf (fun hf => ?_)
        refine x_ltI hf (fun v1 hf => ?_)
        refine x_istore_n hE (L' := [(2, .int v1), (0, .ref (σ q)), (1, .int p0)]) dX3_release_27 rfl (by decide) rfl ?_
        refine x_pick [1, 2, 0] (L' := [(0, .ref (σ q)), (1, .int p0), (2, .int v1)]) rfl ?_
        refine x_iload_n hE 2 dX3_release_28 rfl rfl ?_
        refine x_if_lt hE 48 dX3_release_29 (by decide) hf (fun hf => ?_) (fun hf => ?_)
        · refine x_pick [0, 1] (L' := [(0, .ref (σ q)), (1, .int p0)]) rfl ?_
          exact wX3_release_J48 hE hr hq hf
        · refine x_iload_n hE 2 dX3_release_32 rfl rfl ?_
          refine x_bipush hE (nI 100) dX3_release_33 (by decide) ?_
          refine x_icmp_ge hE 48 dX3_release_35 (by decide) hf (fun hf => ?_) (fun hf => ?_)
          · refine x_pick [0, 1] (L' := [(0, .ref (σ q)), (1, .int p0)]) rfl ?_
            exact wX3_release_J48 hE hr hq hf
          · refine x_aload_n hE 0 dX3_release_38 rfl rfl ?_
            refine x_getR hE cl_3 (hE.kd (kO_3 hq)) (by decide) 8 (q + 5) rfl (by decide) lk_X3_24 dX3_release_39 ?_
            refine x_iload_n hE 2 dX3_release_42 rfl rfl ?_
            refine x_dup2 hE dX3_release_43 rfl rfl ?_
            refine x_iald hE (hE.kd (kB_3_8 hq)) dX3_release_44 hf (fun hf => ?_)
            refine x_iconst hE (nI 1) dX3_release_45 (by decide) ?_
            refine x_isub hE dX3_release_46 ?_
            refine x_iast hE (hE.kd (kB_3_8 hq)) dX3_release_47 hf (fun M2 hf => ?_)
            refine x_pick [0, 1] (L' := [(0, .ref (σ q)), (1, .int p0)]) rfl ?_
            exact wX3_release_J48 hE hr hq hf
      · replace hf := Option.some.inj hf
        subst hf
        exact x_vreturn hE hr dX3_release_20
theorem yokX3_release : YOK yX3_release cX3_release 3 1 none := ⟨mem_g 1201 (by decide +kernel) (by decide +kernel), mem_g 136 (by decide +kernel) (by decide +kernel), by decide +kernel, by decide +kernel, by decide +kernel⟩
theorem yvX3_release : YV yX3_release := ⟨mem_g 1199 (by decide +kernel) (by decide +kernel), mem_g 1200 (by decide +kernel) (by decide +kernel)⟩
theorem lk_X3_90 : Cond.methodLink RX3 90 yX3_release ∈ lw_g := mem_g 1198 (by decide +kernel) (by decide +kernel)
theorem dX3_gainFarm_0 : decode cX3_gainFarm 0 = .ok (.aload_n 0, 1) := by decide +kernel
theorem dX3_gainFarm_1 : decode cX3_gainFarm 1 = .ok (.iload_n 1, 1) := by decide +kernel
theorem dX3_gainFarm_2 : decode cX3_gainFarm 2 = .ok (.invokevirtual 69, 3) := by decide +kernel
theorem dX3_gainFarm_5 : decode cX3_gainFarm 5 = .ok (.ifCond .ne 4, 3) := by decide +kernel
theorem dX3_gainFarm_8 : decode cX3_gainFarm 8 = .ok (.return_, 1) := by decide +kernel
theorem dX3_gainFarm_9 : decode cX3_gainFarm 9 = .ok (.aload_n 0, 1) := by decide +kernel
theorem dX3_gainFarm_10 : decode cX3_gainFarm 10 = .ok (.iload_n 1, 1) := by decide +kernel
theorem dX3_gainFarm_11 : decode cX3_gainFarm 11 = .ok (.invokevirtual 90, 3) := by decide +kernel
theorem dX3_gainFarm_14 : decode cX3_gainFarm 14 = .ok (.aload_n 0, 1) := by decide +kernel
theorem dX3_gainFarm_15 : decode cX3_gainFarm 15 = .ok (.getfield 27, 3) := by decide +kernel
theorem dX3_gainFarm_18 : decode cX3_gainFarm 18 = .ok (.iload_n 1, 1) := by decide +kernel
theorem dX3_gainFarm_19 : decode cX3_gainFarm 19 = .ok (.dup2, 1) := by decide +kernel
theorem dX3_gainFarm_20 : decode cX3_gainFarm 20 = .ok (.iaload, 1) := by decide +kernel
theorem dX3_gainFarm_21 : decode cX3_gainFarm 21 = .ok (.iconst 1, 1) := by decide +kernel
theorem dX3_gainFarm_22 : decode cX3_gainFarm 22 = .ok (.iadd, 1) := by decide +kernel
theorem dX3_gainFarm_23 : decode cX3_gainFarm 23 = .ok (.iastore, 1) := by decide +kernel
theorem dX3_gainFarm_24 : decode cX3_gainFarm 24 = .ok (.aload_n 0, 1) := by decide +kernel
theorem dX3_gainFarm_25 : decode cX3_gainFarm 25 = .ok (.getfield 18, 3) := by decide +kernel
theorem dX3_gainFarm_28 : decode cX3_gainFarm 28 = .ok (.iload_n 1, 1) := by decide +kernel
theorem dX3_gainFarm_29 : decode cX3_gainFarm 29 = .ok (.iconst 4, 1) := by decide +kernel
theorem dX3_gainFarm_30 : decode cX3_gainFarm 30 = .ok (.iastore, 1) := by decide +kernel
theorem dX3_gainFarm_31 : decode cX3_gainFarm 31 = .ok (.return_, 1) := by decide +kernel
theorem mX3_gainFarm (l : Launch) {Y : Nat → ClassId} {D : va_G} {σ : Nat → Nat} {np b0 : Nat} {M : Mc} {N : Md} {q : Nat} {p0 : Int32} {r : Mc} (hq : is3 q) (hf : fX3_gainFarm M q p0 = some r) : Met l yX3_gainFarm (.code yX3_gainFarm cX3_gainFarm 2 none :: lw_g) (rmD 2) (PR Y D σ np b0 [.ref (σ q), .int p0] M N) (QR Y D σ np b0 none r N) 0 0 (xA b0) := by
  refine x_met (by decide) (Nat.le_of_ble_eq_true rfl) (fun p e s m args below meth c hE hr => ?_)
  unfold fX3_gainFarm at hf
  refine x_pick [0, 1] (L' := [(0, .ref (σ q)), (1, .int p0)]) rfl ?_
  refine x_aload_n hE 0 dX3_gainFarm_0 rfl rfl ?_
  refine x_iload_n hE 1 dX3_gainFarm_1 rfl rfl ?_
  obtain ⟨v2, hc1, hf⟩ := bnd_some hf
  refine x_callV1 hE [.int p0] (rest := []) (v := .int v2) (c1 := M) (d1 := N) rfl yokX3_isOne yvX3_isOne lk_X3_69 rfl cl_3 (hE.kd (kO_3 hq)) (by decide) rfl rfl ⟨Nat.le_of_ble_eq_true rfl, Nat.le_of_ble_eq_true rfl⟩ ⟨Nat.zero_le _, Nat.zero_le _⟩ rfl (Nat.le_of_ble_eq_true rfl) dX3_gainFarm_2 (mX3_isOne l hq hc1) ?_
  refine x_if_ne hE 9 dX3_gainFarm_5 (by decide) hf (fun hf => ?_) (fun hf => ?_)
  · refine x_aload_n hE 0 dX3_gainFarm_9 rfl rfl ?_
    refine x_iload_n hE 1 dX3_gainFarm_10 rfl rfl ?_
    obtain ⟨M4, hc3, hf⟩ := bnd_some hf
    refine x_callV0 hE [.int p0] (rest := []) (c1 := M4) (d1 := N) rfl yokX3_release yvX3_release lk_X3_90 rfl cl_3 (hE.kd (kO_3 hq)) (by decide) rfl rfl ⟨Nat.le_of_ble_eq_true rfl, Nat.le_of_ble_eq_true rfl⟩ ⟨Nat.zero_le _, Nat.zero_le _⟩ rfl (Nat.le_of_ble_eq_true rfl) dX3_gainFarm_11 (mX3_release l hq hc3) ?_
    refine x_aload_n hE 0 dX3_gainFarm_14 rfl rfl ?_
    refine x_getR hE cl_3 (hE.kd (kO_3 hq)) (by decide) 9 (q + 6) rfl (by decide) lk_X3_27 dX3_gainFarm_15 ?_
    refine x_iload_n hE 1 dX3_gainFarm_18 rfl rfl ?_
    refine x_dup2 hE dX3_gainFarm_19 rfl rfl ?_
    refine x_iald hE (hE.kd (kB_3_9 hq)) dX3_gainFarm_20 hf (fun hf => ?_)
    refine x_iconst hE (nI 1) dX3_gainFarm_21 (by decide) ?_
    refine x_iadd hE dX3_gainFarm_22 ?_
    refine x_iast hE (hE.kd (kB_3_9 hq)) dX3_gainFarm_23 hf (fun M5 hf => ?_)
    refine x_aload_n hE 0 dX3_gainFarm_24 rfl rfl ?_
    refine x_getR hE cl_3 (hE.kd (kO_3 hq)) (by decide) 6 (q + 3) rfl (by decide) lk_X3_18 dX3_gainFarm_25 ?_
    refine x_iload_n hE 1 dX3_gainFarm_28 rfl rfl ?_
    refine x_iconst hE (nI 4) dX3_gainFarm_29 (by decide) ?_
    refine x_iast hE (hE.kd (kB_3_6 hq)) dX3_gainFarm_30 hf (fun M6 hf => ?_)
    replace hf := Option.some.inj hf
    subst hf
    exact x_vreturn hE hr dX3_gainFarm_31
  · replace hf := Option.some.inj hf
    subst hf
    exact x_vreturn hE hr dX3_gainFarm_8
theorem yokX3_gainFarm : YOK yX3_gainFarm cX3_gainFarm 2 1 none := ⟨mem_g 1197 (by decide +kernel) (by decide +kernel), mem_g 136 (by decide +kernel) (by decide +kernel), by decide +kernel, by decide +kernel, by decide +kernel⟩
theorem yvX3_gainFarm : YV yX3_gainFarm := ⟨mem_g 1195 (by decide +kernel) (by decide +kernel), mem_g 1196 (by decide +kernel) (by decide +kernel)⟩
theorem dX3_loseFarm_0 : decode cX3_loseFarm 0 = .ok (.aload_n 0, 1) := by decide +kernel
theorem dX3_loseFarm_1 : decode cX3_loseFarm 1 = .ok (.iload_n 1, 1) := by decide +kernel
theorem dX3_loseFarm_2 : decode cX3_loseFarm 2 = .ok (.invokevirtual 69, 3) := by decide +kernel
theorem dX3_loseFarm_5 : decode cX3_loseFarm 5 = .ok (.ifCond .ne 4, 3) := by decide +kernel
theorem dX3_loseFarm_8 : decode cX3_loseFarm 8 = .ok (.return_, 1) := by decide +kernel
theorem dX3_loseFarm_9 : decode cX3_loseFarm 9 = .ok (.aload_n 0, 1) := by decide +kernel
theorem dX3_loseFarm_10 : decode cX3_loseFarm 10 = .ok (.getfield 27, 3) := by decide +kernel
theorem dX3_loseFarm_13 : decode cX3_loseFarm 13 = .ok (.iload_n 1, 1) := by decide +kernel
theorem dX3_loseFarm_14 : decode cX3_loseFarm 14 = .ok (.dup2, 1) := by decide +kernel
theorem dX3_loseFarm_15 : decode cX3_loseFarm 15 = .ok (.iaload, 1) := by decide +kernel
theorem dX3_loseFarm_16 : decode cX3_loseFarm 16 = .ok (.iconst 1, 1) := by decide +kernel
theorem dX3_loseFarm_17 : decode cX3_loseFarm 17 = .ok (.isub, 1) := by decide +kernel
theorem dX3_loseFarm_18 : decode cX3_loseFarm 18 = .ok (.iastore, 1) := by decide +kernel
theorem dX3_loseFarm_19 : decode cX3_loseFarm 19 = .ok (.aload_n 0, 1) := by decide +kernel
theorem dX3_loseFarm_20 : decode cX3_loseFarm 20 = .ok (.getfield 27, 3) := by decide +kernel
theorem dX3_loseFarm_23 : decode cX3_loseFarm 23 = .ok (.iload_n 1, 1) := by decide +kernel
theorem dX3_loseFarm_24 : decode cX3_loseFarm 24 = .ok (.iaload, 1) := by decide +kernel
theorem dX3_loseFarm_25 : decode cX3_loseFarm 25 = .ok (.ifCond .le 4, 3) := by decide +kernel
theorem dX3_loseFarm_28 : decode cX3_loseFarm 28 = .ok (.return_, 1) := by decide +kernel
theorem dX3_loseFarm_29 : decode cX3_loseFarm 29 = .ok (.aload_n 0, 1) := by decide +kernel
theorem dX3_loseFarm_30 : decode cX3_loseFarm 30 = .ok (.getfield 18, 3) := by decide +kernel
theorem dX3_loseFarm_33 : decode cX3_loseFarm 33 = .ok (.iload_n 1, 1) := by decide +kernel
theorem dX3_loseFarm_34 : decode cX3_loseFarm 34 = .ok (.iconst 2, 1) := by decide +kernel
theorem dX3_loseFarm_35 : decode cX3_loseFarm 35 = .ok (.iastore, 1) := by decide +kernel
theorem dX3_loseFarm_36 : decode cX3_loseFarm 36 = .ok (.iconst 0, 1) := by decide +kernel
theorem dX3_loseFarm_37 : decode cX3_loseFarm 37 = .ok (.istore_n 2, 1) := by decide +kernel
theorem dX3_loseFarm_38 : decode cX3_loseFarm 38 = .ok (.iload_n 2, 1) := by decide +kernel
theorem dX3_loseFarm_39 : decode cX3_loseFarm 39 = .ok (.aload_n 0, 1) := by decide +kernel
theorem dX3_loseFarm_40 : decode cX3_loseFarm 40 = .ok (.getfield 46, 3) := by decide +kernel
theorem dX3_loseFarm_43 : decode cX3_loseFarm 43 = .ok (.if_icmp .ge 30, 3) := by decide +kernel
theorem dX3_loseFarm_46 : decode cX3_loseFarm 46 = .ok (.iload_n 2, 1) := by decide +kernel
theorem dX3_loseFarm_47 : decode cX3_loseFarm 47 = .ok (.bipush 100, 2) := by decide +kernel
theorem dX3_loseFarm_49 : decode cX3_loseFarm 49 = .ok (.if_icmp .ge 24, 3) := by decide +kernel
theorem dX3_loseFarm_52 : decode cX3_loseFarm 52 = .ok (.aload_n 0, 1) := by decide +kernel
theorem dX3_loseFarm_53 : decode cX3_loseFarm 53 = .ok (.getfield 21, 3) := by decide +kernel
theorem dX3_loseFarm_56 : decode cX3_loseFarm 56 = .ok (.iload_n 2, 1) := by decide +kernel
theorem dX3_loseFarm_57 : decode cX3_loseFarm 57 = .ok (.iaload, 1) := by decide +kernel
theorem dX3_loseFarm_58 : decode cX3_loseFarm 58 = .ok (.iload_n 1, 1) := by decide +kernel
theorem dX3_loseFarm_59 : decode cX3_loseFarm 59 = .ok (.if_icmp .ne 8, 3) := by decide +kernel
theorem dX3_loseFarm_62 : decode cX3_loseFarm 62 = .ok (.aload_n 0, 1) := by decide +kernel
theorem dX3_loseFarm_63 : decode cX3_loseFarm 63 = .ok (.iload_n 2, 1) := by decide +kernel
theorem dX3_loseFarm_64 : decode cX3_loseFarm 64 = .ok (.invokevirtual 90, 3) := by decide +kernel
theorem dX3_loseFarm_67 : decode cX3_loseFarm 67 = .ok (.iinc 2 1, 3) := by decide +kernel
theorem dX3_loseFarm_70 : decode cX3_loseFarm 70 = .ok (.goto (-32), 3) := by decide +kernel
theorem dX3_loseFarm_73 : decode cX3_loseFarm 73 = .ok (.return_, 1) := by decide +kernel
theorem wX3_loseFarm_J67 {p : Program} {l : Launch} {e : Env} {s : State} {m : MethodId} {args : Array Value} {below : List Frame} {meth : Method} {c : Code} {Y : Nat → ClassId} {D : va_G} {σ : Nat → Nat} {np b0 : Nat} {q : Nat} {r : Mc} {K38 : Mc → Int32 → Int32 → Option (Mc)} {M : Mc} {N : Md} {X1 : Int32} {X2 : Int32} (hE : EOK p s m args meth c cX3_loseFarm 3 RX3 Y D σ np b0) (hr : meth.sig.returnType = none) (hq : is3 q) (hK38 : ∀ (M : Mc) (N : Md) (X1 : Int32) (X2 : Int32), K38 M X1 X2 = some r → Xw p l e (rmD 2) s m args below meth c 3 Y D σ np b0 0 0 (MQ below (QR Y D σ np b0 none r N) args s 0 0 (xA b0)) 38 [(0, .ref (σ q)), (1, .int X1), (2, .int X2)] [] M N) (hf : fX3_loseFarm_J67 q K38 M X1 X2 = some r) : Xw p l e (rmD 2) s m args below meth c 3 Y D σ np b0 0 0 (MQ below (QR Y D σ np b0 none r N) args s 0 0 (xA b0)) 67 [(0, .ref (σ q)), (1, .int X1), (2, .int X2)] [] M N := by
  unfold fX3_loseFarm_J67 at hf
  refine x_iinc hE 2 (X2 + nI 1) (L' := [(2, .int (X2 + nI 1)), (0, .ref (σ q)), (1, .int X1)]) dX3_loseFarm_67 rfl rfl (by decide) rfl ?_
  refine x_pick [1, 2, 0] (L' := [(0, .ref (σ q)), (1, .int X1), (2, .int (X2 + nI 1))]) rfl ?_
  refine x_goto hE 38 dX3_loseFarm_70 (by decide) ?_
  exact hK38 _ _ _ _ hf
theorem wX3_loseFarm_L38 {p : Program} {l : Launch} {e : Env} {s : State} {m : MethodId} {args : Array Value} {below : List Frame} {meth : Method} {c : Code} {Y : Nat → ClassId} {D : va_G} {σ : Nat → Nat} {np b0 : Nat} {q : Nat} {r : Mc} (hE : EOK p s m args meth c cX3_loseFarm 3 RX3 Y D σ np b0) (hr : meth.sig.returnType = none) (hq : is3 q) : ∀ (n : Nat) (M : Mc) (N : Md) (X1 : Int32) (X2 : Int32), fX3_loseFarm_L38 q n M X1 X2 = some r → Xw p l e (rmD 2) s m args below meth c 3 Y D σ np b0 0 0 (MQ below (QR Y D σ np b0 none r N) args s 0 0 (xA b0)) 38 [(0, .ref (σ q)), (1, .int X1), (2, .int X2)] [] M N := by
  intro n
  induction n with
  | zero =>
    intro M N X1 X2 hf
    cases hf
  | succ n ih =>
    intro M N X1 X2 hf
    rw [fX3_loseFarm_L38.eq_2] at hf
    refine x_iload_n hE 2 dX3_loseFarm_38 rfl rfl ?_
    refine x_aload_n hE 0 dX3_loseFarm_39 rfl rfl ?_
    refine x_getI hE cl_3 (hE.kd (kO_3 hq)) (by decide) 0 rfl (by decide) lk_X3_46 dX3_loseFarm_40 ?_
    refine x_icmp_ge hE 73 dX3_loseFarm_43 (by decide) hf (fun hf => ?_) (fun hf => ?_)
    · replace hf := Option.some.inj hf
      subst hf
      exact x_vreturn hE hr dX3_loseFarm_73
    · refine x_iload_n hE 2 dX3_loseFarm_46 rfl rfl ?_
      refine x_bipush hE (nI 100) dX3_loseFarm_47 (by decide) ?_
      refine x_icmp_ge hE 73 dX3_loseFarm_49 (by decide) hf (fun hf => ?_) (fun hf => ?_)
      · replace hf := Option.some.inj hf
        subst hf
        exact x_vreturn hE hr dX3_loseFarm_73
      · refine x_aload_n hE 0 dX3_loseFarm_52 rfl rfl ?_
        refine x_getR hE cl_3 (hE.kd (kO_3 hq)) (by decide) 7 (q + 4) rfl (by decide) lk_X3_21 dX3_loseFarm_53 ?_
        refine x_iload_n hE 2 dX3_loseFarm_56 rfl rfl ?_
        refine x_iald hE (hE.kd (kB_3_7 hq)) dX3_loseFarm_57 hf (fun hf => ?_)
        refine x_iload_n hE 1 dX3_loseFarm_58 rfl rfl ?_
        refine x_icmp_ne hE 67 dX3_loseFarm_59 (by decide) hf (fun hf => ?_) (fun hf => ?_)
        · exact wX3_loseFarm_J67 hE hr hq (fun _ _ _ _ hf => ih _ _ _ _ hf) hf
        · refine x_aload_n hE 0 dX3_loseFarm_62 rfl rfl ?_
          refine x_iload_n hE 2 dX3_loseFarm_63 rfl rfl ?_
          obtain ⟨M6, hc5, hf⟩ := bnd_some hf
          refine x_callV0 hE [.int X2] (rest := []) (c1 := M6) (d1 := N) rfl yokX3_release yvX3_release lk_X3_90 rfl cl_3 (hE.kd (kO_3 hq)) (by decide) rfl rfl ⟨Nat.le_of_ble_eq_true rfl, Nat.le_of_ble_eq_true rfl⟩ ⟨Nat.zero_le _, Nat.zero_le _⟩ rfl (Nat.le_of_ble_eq_true rfl) dX3_loseFarm_64 (mX3_release l hq hc5) ?_
          exact wX3_loseFarm_J67 hE hr hq (fun _ _ _ _ hf => ih _ _ _ _ hf) hf
theorem mX3_loseFarm (l : Launch) {Y : Nat → ClassId} {D : va_G} {σ : Nat → Nat} {np b0 : Nat} {M : Mc} {N : Md} {q : Nat} {p0 : Int32} {r : Mc} (hq : is3 q) (hf : fX3_loseFarm M q p0 = some r) : Met l yX3_loseFarm (.code yX3_loseFarm cX3_loseFarm 3 none :: lw_g) (rmD 2) (PR Y D σ np b0 [.ref (σ q), .int p0] M N) (QR Y D σ np b0 none r N) 0 0 (xA b0) := by
  refine x_met (by decide) (Nat.le_of_ble_eq_true rfl) (fun p e s m args below meth c hE hr => ?_)
  unfold fX3_loseFarm at hf
  refine x_pick [0, 1] (L' := [(0, .ref (σ q)), (1, .int p0)]) rfl ?_
  refine x_aload_n hE 0 dX3_loseFarm_0 rfl rfl ?_
  refine x_iload_n hE 1 dX3_loseFarm_1 rfl rfl ?_
  obtain ⟨v2, hc1, hf⟩ := bnd_some hf
  refine x_callV1 hE [.int p0] (rest := []) (v := .int v2) (c1 := M) (d1 := N) rfl yokX3_isOne yvX3_isOne lk_X3_69 rfl cl_3 (hE.kd (kO_3 hq)) (by decide) rfl rfl ⟨Nat.le_of_ble_eq_true rfl, Nat.le_of_ble_eq_true rfl⟩ ⟨Nat.zero_le _, Nat.zero_le _⟩ rfl (Nat.le_of_ble_eq_true rfl) dX3_loseFarm_2 (mX3_isOne l hq hc1) ?_
  refine x_if_ne hE 9 dX3_loseFarm_5 (by decide) hf (fun hf => ?_) (fun hf => ?_)
  · refine x_aload_n hE 0 dX3_loseFarm_9 rfl rfl ?_
    refine x_getR hE cl_3 (hE.kd (kO_3 hq)) (by decide) 9 (q + 6) rfl (by decide) lk_X3_27 dX3_loseFarm_10 ?_
    refine x_iload_n hE 1 dX3_loseFarm_13 rfl rfl ?_
    refine x_dup2 hE dX3_loseFarm_14 rfl rfl ?_
    refine x_iald hE (hE.kd (kB_3_9 hq)) dX3_loseFarm_15 hf (fun hf => ?_)
    refine x_iconst hE (nI 1) dX3_loseFarm_16 (by decide) ?_
    refine x_isub hE dX3_loseFarm_17 ?_
    refine x_iast hE (hE.kd (kB_3_9 hq)) dX3_loseFarm_18 hf (fun M3 hf => ?_)
    refine x_aload_n hE 0 dX3_loseFarm_19 rfl rfl ?_
    refine x_getR hE cl_3 (hE.kd (kO_3 hq)) (by decide) 9 (q + 6) rfl (by decide) lk_X3_27 dX3_loseFarm_20 ?_
    refine x_iload_n hE 1 dX3_loseFarm_23 rfl rfl ?_
    refine x_iald hE (hE.kd (kB_3_9 hq)) dX3_loseFarm_24 hf (fun hf => ?_)
    refine x_if_le hE 29 dX3_loseFarm_25 (by decide) hf (fun hf => ?_) (fun hf => ?_)
    · refine x_aload_n hE 0 dX3_loseFarm_29 rfl rfl ?_
      refine x_getR hE cl_3 (hE.kd (kO_3 hq)) (by decide) 6 (q + 3) rfl (by decide) lk_X3_18 dX3_loseFarm_30 ?_
      refine x_iload_n hE 1 dX3_loseFarm_33 rfl rfl ?_
      refine x_iconst hE (nI 2) dX3_loseFarm_34 (by decide) ?_
      refine x_iast hE (hE.kd (kB_3_6 hq)) dX3_loseFarm_35 hf (fun M4 hf => ?_)
      refine x_iconst hE (0 : Int32) dX3_loseFarm_36 (by decide) ?_
      refine x_istore_n hE (L' := [(2, .int 0), (0, .ref (σ q)), (1, .int p0)]) dX3_loseFarm_37 rfl (by decide) rfl ?_
      refine x_pick [1, 2, 0] (L' := [(0, .ref (σ q)), (1, .int p0), (2, .int 0)]) rfl ?_
      exact wX3_loseFarm_L38 hE hr hq FU _ _ _ _ hf
    · replace hf := Option.some.inj hf
      subst hf
      exact x_vreturn hE hr dX3_loseFarm_28
  · replace hf := Option.some.inj hf
    subst hf
    exact x_vreturn hE hr dX3_loseFarm_8
theorem yokX3_loseFarm : YOK yX3_loseFarm cX3_loseFarm 3 1 none := ⟨mem_g 1720 (by decide +kernel) (by decide +kernel), mem_g 136 (by decide +kernel) (by decide +kernel), by decide +kernel, by decide +kernel, by decide +kernel⟩
theorem yvX3_loseFarm : YV yX3_loseFarm := ⟨mem_g 1718 (by decide +kernel) (by decide +kernel), mem_g 1719 (by decide +kernel) (by decide +kernel)⟩
theorem dX3_hireBy_0 : decode cX3_hireBy 0 = .ok (.aload_n 0, 1) := by decide +kernel
theorem dX3_hireBy_1 : decode cX3_hireBy 1 = .ok (.iload_n 1, 1) := by decide +kernel
theorem dX3_hireBy_2 : decode cX3_hireBy 2 = .ok (.invokevirtual 69, 3) := by decide +kernel
theorem dX3_hireBy_5 : decode cX3_hireBy 5 = .ok (.ifCond .eq 11, 3) := by decide +kernel
theorem dX3_hireBy_8 : decode cX3_hireBy 8 = .ok (.aload_n 0, 1) := by decide +kernel
theorem dX3_hireBy_9 : decode cX3_hireBy 9 = .ok (.iload_n 2, 1) := by decide +kernel
theorem dX3_hireBy_10 : decode cX3_hireBy 10 = .ok (.invokevirtual 69, 3) := by decide +kernel
theorem dX3_hireBy_13 : decode cX3_hireBy 13 = .ok (.ifCond .ne 4, 3) := by decide +kernel
theorem dX3_hireBy_16 : decode cX3_hireBy 16 = .ok (.return_, 1) := by decide +kernel
theorem dX3_hireBy_17 : decode cX3_hireBy 17 = .ok (.aload_n 0, 1) := by decide +kernel
theorem dX3_hireBy_18 : decode cX3_hireBy 18 = .ok (.getfield 24, 3) := by decide +kernel
theorem dX3_hireBy_21 : decode cX3_hireBy 21 = .ok (.iload_n 2, 1) := by decide +kernel
theorem dX3_hireBy_22 : decode cX3_hireBy 22 = .ok (.dup2, 1) := by decide +kernel
theorem dX3_hireBy_23 : decode cX3_hireBy 23 = .ok (.iaload, 1) := by decide +kernel
theorem dX3_hireBy_24 : decode cX3_hireBy 24 = .ok (.iconst 1, 1) := by decide +kernel
theorem dX3_hireBy_25 : decode cX3_hireBy 25 = .ok (.iadd, 1) := by decide +kernel
theorem dX3_hireBy_26 : decode cX3_hireBy 26 = .ok (.iastore, 1) := by decide +kernel
theorem dX3_hireBy_27 : decode cX3_hireBy 27 = .ok (.aload_n 0, 1) := by decide +kernel
theorem dX3_hireBy_28 : decode cX3_hireBy 28 = .ok (.getfield 21, 3) := by decide +kernel
theorem dX3_hireBy_31 : decode cX3_hireBy 31 = .ok (.iload_n 1, 1) := by decide +kernel
theorem dX3_hireBy_32 : decode cX3_hireBy 32 = .ok (.iload_n 2, 1) := by decide +kernel
theorem dX3_hireBy_33 : decode cX3_hireBy 33 = .ok (.iastore, 1) := by decide +kernel
theorem dX3_hireBy_34 : decode cX3_hireBy 34 = .ok (.aload_n 0, 1) := by decide +kernel
theorem dX3_hireBy_35 : decode cX3_hireBy 35 = .ok (.getfield 18, 3) := by decide +kernel
theorem dX3_hireBy_38 : decode cX3_hireBy 38 = .ok (.iload_n 1, 1) := by decide +kernel
theorem dX3_hireBy_39 : decode cX3_hireBy 39 = .ok (.iconst 3, 1) := by decide +kernel
theorem dX3_hireBy_40 : decode cX3_hireBy 40 = .ok (.iastore, 1) := by decide +kernel
theorem dX3_hireBy_41 : decode cX3_hireBy 41 = .ok (.return_, 1) := by decide +kernel
theorem mX3_hireBy (l : Launch) {Y : Nat → ClassId} {D : va_G} {σ : Nat → Nat} {np b0 : Nat} {M : Mc} {N : Md} {q : Nat} {p0 : Int32} {p1 : Int32} {r : Mc} (hq : is3 q) (hf : fX3_hireBy M q p0 p1 = some r) : Met l yX3_hireBy (.code yX3_hireBy cX3_hireBy 3 none :: lw_g) (rmD 2) (PR Y D σ np b0 [.ref (σ q), .int p0, .int p1] M N) (QR Y D σ np b0 none r N) 0 0 (xA b0) := by
  refine x_met (by decide) (Nat.le_of_ble_eq_true rfl) (fun p e s m args below meth c hE hr => ?_)
  unfold fX3_hireBy at hf
  refine x_pick [0, 1, 2] (L' := [(0, .ref (σ q)), (1, .int p0), (2, .int p1)]) rfl ?_
  refine x_aload_n hE 0 dX3_hireBy_0 rfl rfl ?_
  refine x_iload_n hE 1 dX3_hireBy_1 rfl rfl ?_
  obtain ⟨v2, hc1, hf⟩ := bnd_some hf
  refine x_callV1 hE [.int p0] (rest := []) (v := .int v2) (c1 := M) (d1 := N) rfl yokX3_isOne yvX3_isOne lk_X3_69 rfl cl_3 (hE.kd (kO_3 hq)) (by decide) rfl rfl ⟨Nat.le_of_ble_eq_true rfl, Nat.le_of_ble_eq_true rfl⟩ ⟨Nat.zero_le _, Nat.zero_le _⟩ rfl (Nat.le_of_ble_eq_true rfl) dX3_hireBy_2 (mX3_isOne l hq hc1) ?_
  refine x_if_eq hE 16 dX3_hireBy_5 (by decide) hf (fun hf => ?_) (fun hf => ?_)
  · replace hf := Option.some.inj hf
    subst hf
    exact x_vreturn hE hr dX3_hireBy_16
  · refine x_aload_n hE 0 dX3_hireBy_8 rfl rfl ?_
    refine x_iload_n hE 2 dX3_hireBy_9 rfl rfl ?_
    obtain ⟨v4, hc3, hf⟩ := bnd_some hf
    refine x_callV1 hE [.int p1] (rest := []) (v := .int v4) (c1 := M) (d1 := N) rfl yokX3_isOne yvX3_isOne lk_X3_69 rfl cl_3 (hE.kd (kO_3 hq)) (by decide) rfl rfl ⟨Nat.le_of_ble_eq_true rfl, Nat.le_of_ble_eq_true rfl⟩ ⟨Nat.zero_le _, Nat.zero_le _⟩ rfl (Nat.le_of_ble_eq_true rfl) dX3_hireBy_10 (mX3_isOne l hq hc3) ?_
    refine x_if_ne hE 17 dX3_hireBy_13 (by decide) hf (fun hf => ?_) (fun hf => ?_)
    · refine x_aload_n hE 0 dX3_hireBy_17 rfl rfl ?_
      refine x_getR hE cl_3 (hE.kd (kO_3 hq)) (by decide) 8 (q + 5) rfl (by decide) lk_X3_24 dX3_hireBy_18 ?_
      refine x_iload_n hE 2 dX3_hireBy_21 rfl rfl ?_
      refine x_dup2 hE dX3_hireBy_22 rfl rfl ?_
      refine x_iald hE (hE.kd (kB_3_8 hq)) dX3_hireBy_23 hf (fun hf => ?_)
      refine x_iconst hE (nI 1) dX3_hireBy_24 (by decide) ?_
      refine x_iadd hE dX3_hireBy_25 ?_
      refine x_iast hE (hE.kd (kB_3_8 hq)) dX3_hireBy_26 hf (fun M5 hf => ?_)
      refine x_aload_n hE 0 dX3_hireBy_27 rfl rfl ?_
      refine x_getR hE cl_3 (hE.kd (kO_3 hq)) (by decide) 7 (q + 4) rfl (by decide) lk_X3_21 dX3_hireBy_28 ?_
      refine x_iload_n hE 1 dX3_hireBy_31 rfl rfl ?_
      refine x_iload_n hE 2 dX3_hireBy_32 rfl rfl ?_
      refine x_iast hE (hE.kd (kB_3_7 hq)) dX3_hireBy_33 hf (fun M6 hf => ?_)
      refine x_aload_n hE 0 dX3_hireBy_34 rfl rfl ?_
      refine x_getR hE cl_3 (hE.kd (kO_3 hq)) (by decide) 6 (q + 3) rfl (by decide) lk_X3_18 dX3_hireBy_35 ?_
      refine x_iload_n hE 1 dX3_hireBy_38 rfl rfl ?_
      refine x_iconst hE (nI 3) dX3_hireBy_39 (by decide) ?_
      refine x_iast hE (hE.kd (kB_3_6 hq)) dX3_hireBy_40 hf (fun M7 hf => ?_)
      replace hf := Option.some.inj hf
      subst hf
      exact x_vreturn hE hr dX3_hireBy_41
    · replace hf := Option.some.inj hf
      subst hf
      exact x_vreturn hE hr dX3_hireBy_16
theorem yokX3_hireBy : YOK yX3_hireBy cX3_hireBy 3 2 none := ⟨mem_g 1768 (by decide +kernel) (by decide +kernel), mem_g 136 (by decide +kernel) (by decide +kernel), by decide +kernel, by decide +kernel, by decide +kernel⟩
theorem yvX3_hireBy : YV yX3_hireBy := ⟨mem_g 1766 (by decide +kernel) (by decide +kernel), mem_g 1767 (by decide +kernel) (by decide +kernel)⟩
theorem dX3_findBoss_0 : decode cX3_findBoss 0 = .ok (.iconst (-1), 1) := by decide +kernel
theorem dX3_findBoss_1 : decode cX3_findBoss 1 = .ok (.istore_n 2, 1) := by decide +kernel
theorem dX3_findBoss_2 : decode cX3_findBoss 2 = .ok (.iconst 4, 1) := by decide +kernel
theorem dX3_findBoss_3 : decode cX3_findBoss 3 = .ok (.istore_n 3, 1) := by decide +kernel
theorem dX3_findBoss_4 : decode cX3_findBoss 4 = .ok (.iconst 0, 1) := by decide +kernel
theorem dX3_findBoss_5 : decode cX3_findBoss 5 = .ok (.istore 4, 2) := by decide +kernel
theorem dX3_findBoss_7 : decode cX3_findBoss 7 = .ok (.iload 4, 2) := by decide +kernel
theorem dX3_findBoss_9 : decode cX3_findBoss 9 = .ok (.aload_n 0, 1) := by decide +kernel
theorem dX3_findBoss_10 : decode cX3_findBoss 10 = .ok (.getfield 46, 3) := by decide +kernel
theorem dX3_findBoss_13 : decode cX3_findBoss 13 = .ok (.if_icmp .ge 60, 3) := by decide +kernel
theorem dX3_findBoss_16 : decode cX3_findBoss 16 = .ok (.iload 4, 2) := by decide +kernel
theorem dX3_findBoss_18 : decode cX3_findBoss 18 = .ok (.bipush 100, 2) := by decide +kernel
theorem dX3_findBoss_20 : decode cX3_findBoss 20 = .ok (.if_icmp .ge 53, 3) := by decide +kernel
theorem dX3_findBoss_23 : decode cX3_findBoss 23 = .ok (.aload_n 0, 1) := by decide +kernel
theorem dX3_findBoss_24 : decode cX3_findBoss 24 = .ok (.getfield 18, 3) := by decide +kernel
theorem dX3_findBoss_27 : decode cX3_findBoss 27 = .ok (.iload 4, 2) := by decide +kernel
theorem dX3_findBoss_29 : decode cX3_findBoss 29 = .ok (.iaload, 1) := by decide +kernel
theorem dX3_findBoss_30 : decode cX3_findBoss 30 = .ok (.iconst 4, 1) := by decide +kernel
theorem dX3_findBoss_31 : decode cX3_findBoss 31 = .ok (.if_icmp .ne 36, 3) := by decide +kernel
theorem dX3_findBoss_34 : decode cX3_findBoss 34 = .ok (.aload_n 0, 1) := by decide +kernel
theorem dX3_findBoss_35 : decode cX3_findBoss 35 = .ok (.getfield 24, 3) := by decide +kernel
theorem dX3_findBoss_38 : decode cX3_findBoss 38 = .ok (.iload 4, 2) := by decide +kernel
theorem dX3_findBoss_40 : decode cX3_findBoss 40 = .ok (.iaload, 1) := by decide +kernel
theorem dX3_findBoss_41 : decode cX3_findBoss 41 = .ok (.iload_n 3, 1) := by decide +kernel
theorem dX3_findBoss_42 : decode cX3_findBoss 42 = .ok (.if_icmp .ge 25, 3) := by decide +kernel
theorem dX3_findBoss_45 : decode cX3_findBoss 45 = .ok (.aload_n 0, 1) := by decide +kernel
theorem dX3_findBoss_46 : decode cX3_findBoss 46 = .ok (.getfield 15, 3) := by decide +kernel
theorem dX3_findBoss_49 : decode cX3_findBoss 49 = .ok (.iload 4, 2) := by decide +kernel
theorem dX3_findBoss_51 : decode cX3_findBoss 51 = .ok (.iaload, 1) := by decide +kernel
theorem dX3_findBoss_52 : decode cX3_findBoss 52 = .ok (.iload_n 1, 1) := by decide +kernel
theorem dX3_findBoss_53 : decode cX3_findBoss 53 = .ok (.if_icmp .lt 14, 3) := by decide +kernel
theorem dX3_findBoss_56 : decode cX3_findBoss 56 = .ok (.iload 4, 2) := by decide +kernel
theorem dX3_findBoss_58 : decode cX3_findBoss 58 = .ok (.istore_n 2, 1) := by decide +kernel
theorem dX3_findBoss_59 : decode cX3_findBoss 59 = .ok (.aload_n 0, 1) := by decide +kernel
theorem dX3_findBoss_60 : decode cX3_findBoss 60 = .ok (.getfield 24, 3) := by decide +kernel
theorem dX3_findBoss_63 : decode cX3_findBoss 63 = .ok (.iload 4, 2) := by decide +kernel
theorem dX3_findBoss_65 : decode cX3_findBoss 65 = .ok (.iaload, 1) := by decide +kernel
theorem dX3_findBoss_66 : decode cX3_findBoss 66 = .ok (.istore_n 3, 1) := by decide +kernel
theorem dX3_findBoss_67 : decode cX3_findBoss 67 = .ok (.iinc 4 1, 3) := by decide +kernel
theorem dX3_findBoss_70 : decode cX3_findBoss 70 = .ok (.goto (-63), 3) := by decide +kernel
theorem dX3_findBoss_73 : decode cX3_findBoss 73 = .ok (.iload_n 2, 1) := by decide +kernel
theorem dX3_findBoss_74 : decode cX3_findBoss 74 = .ok (.ireturn, 1) := by decide +kernel
theorem wX3_findBoss_J67 {p : Program} {l : Launch} {e : Env} {s : State} {m : MethodId} {args : Array Value} {below : List Frame} {meth : Method} {c : Code} {Y : Nat → ClassId} {D : va_G} {σ : Nat → Nat} {np b0 : Nat} {q : Nat} {r : Int32} {K7 : Mc → Int32 → Int32 → Int32 → Int32 → Option (Int32)} {M : Mc} {N : Md} {X1 : Int32} {X2 : Int32} {X3 : Int32} {X4 : Int32} (hE : EOK p s m args meth c cX3_findBoss 5 RX3 Y D σ np b0) (hr : meth.sig.returnType = (some .int)) (hq : is3 q) (hK7 : ∀ (M : Mc) (N : Md) (X1 : Int32) (X2 : Int32) (X3 : Int32) (X4 : Int32), K7 M X1 X2 X3 X4 = some r → Xw p l e (rmD 1) s m args below meth c 5 Y D σ np b0 0 0 (MQ below (QR Y D σ np b0 (some (.int r)) M N) args s 0 0 (xA b0)) 7 [(0, .ref (σ q)), (1, .int X1), (2, .int X2), (3, .int X3), (4, .int X4)] [] M N) (hf : fX3_findBoss_J67 q K7 M X1 X2 X3 X4 = some r) : Xw p l e (rmD 1) s m args below meth c 5 Y D σ np b0 0 0 (MQ below (QR Y D σ np b0 (some (.int r)) M N) args s 0 0 (xA b0)) 67 [(0, .ref (σ q)), (1, .int X1), (2, .int X2), (3, .int X3), (4, .int X4)] [] M N := by
  unfold fX3_findBoss_J67 at hf
  refine x_iinc hE 4 (X4 + nI 1) (L' := [(4, .int (X4 + nI 1)), (0, .ref (σ q)), (1, .int X1), (2, .int X2), (3, .int X3)]) dX3_findBoss_67 rfl rfl (by decide) rfl ?_
  refine x_pick [1, 2, 3, 4, 0] (L' := [(0, .ref (σ q)), (1, .int X1), (2, .int X2), (3, .int X3), (4, .int (X4 + nI 1))]) rfl ?_
  refine x_goto hE 7 dX3_findBoss_70 (by decide) ?_
  exact hK7 _ _ _ _ _ _ hf
theorem wX3_findBoss_L7 {p : Program} {l : Launch} {e : Env} {s : State} {m : MethodId} {args : Array Value} {below : List Frame} {meth : Method} {c : Code} {Y : Nat → ClassId} {D : va_G} {σ : Nat → Nat} {np b0 : Nat} {q : Nat} {r : Int32} (hE : EOK p s m args meth c cX3_findBoss 5 RX3 Y D σ np b0) (hr : meth.sig.returnType = (some .int)) (hq : is3 q) : ∀ (n : Nat) (M : Mc) (N : Md) (X1 : Int32) (X2 : Int32) (X3 : Int32) (X4 : Int32), fX3_findBoss_L7 q n M X1 X2 X3 X4 = some r → Xw p l e (rmD 1) s m args below meth c 5 Y D σ np b0 0 0 (MQ below (QR Y D σ np b0 (some (.int r)) M N) args s 0 0 (xA b0)) 7 [(0, .ref (σ q)), (1, .int X1), (2, .int X2), (3, .int X3), (4, .int X4)] [] M N := by
  intro n
  induction n with
  | zero =>
    intro M N X1 X2 X3 X4 hf
    cases hf
  | succ n ih =>
    intro M N X1 X2 X3 X4 hf
    rw [fX3_findBoss_L7.eq_2] at hf
    refine x_iload hE 4 dX3_findBoss_7 rfl ?_
    refine x_aload_n hE 0 dX3_findBoss_9 rfl rfl ?_
    refine x_getI hE cl_3 (hE.kd (kO_3 hq)) (by decide) 0 rfl (by decide) lk_X3_46 dX3_findBoss_10 ?_
    refine x_icmp_ge hE 73 dX3_findBoss_13 (by decide) hf (fun hf => ?_) (fun hf => ?_)
    · refine x_iload_n hE 2 dX3_findBoss_73 rfl rfl ?_
      replace hf := Option.some.inj hf
      subst hf
      exact x_ireturn hE (v := X2) hr rfl dX3_findBoss_74
    · refine x_iload hE 4 dX3_findBoss_16 rfl ?_
      refine x_bipush hE (nI 100) dX3_findBoss_18 (by decide) ?_
      refine x_icmp_ge hE 73 dX3_findBoss_20 (by decide) hf (fun hf => ?_) (fun hf => ?_)
      · refine x_iload_n hE 2 dX3_findBoss_73 rfl rfl ?_
        replace hf := Option.some.inj hf
        subst hf
        exact x_ireturn hE (v := X2) hr rfl dX3_findBoss_74
      · refine x_aload_n hE 0 dX3_findBoss_23 rfl rfl ?_
        refine x_getR hE cl_3 (hE.kd (kO_3 hq)) (by decide) 6 (q + 3) rfl (by decide) lk_X3_18 dX3_findBoss_24 ?_
        refine x_iload hE 4 dX3_findBoss_27 rfl ?_
        refine x_iald hE (hE.kd (kB_3_6 hq)) dX3_findBoss_29 hf (fun hf => ?_)
        refine x_iconst hE (nI 4) dX3_findBoss_30 (by decide) ?_
        refine x_icmp_ne hE 67 dX3_findBoss_31 (by decide) hf (fun hf => ?_) (fun hf => ?_)
        · exact wX3_findBoss_J67 hE hr hq (fun _ _ _ _ _ _ hf => ih _ _ _ _ _ _ hf) hf
        · refine x_aload_n hE 0 dX3_findBoss_34 rfl rfl ?_
          refine x_getR hE cl_3 (hE.kd (kO_3 hq)) (by decide) 8 (q + 5) rfl (by decide) lk_X3_24 dX3_findBoss_35 ?_
          refine x_iload hE 4 dX3_findBoss_38 rfl ?_
          refine x_iald hE (hE.kd (kB_3_8 hq)) dX3_findBoss_40 hf (fun hf => ?_)
          refine x_iload_n hE 3 dX3_findBoss_41 rfl rfl ?_
          refine x_icmp_ge hE 67 dX3_findBoss_42 (by decide) hf (fun hf => ?_) (fun hf => ?_)
          · exact wX3_findBoss_J67 hE hr hq (fun _ _ _ _ _ _ hf => ih _ _ _ _ _ _ hf) hf
          · refine x_aload_n hE 0 dX3_findBoss_45 rfl rfl ?_
            refine x_getR hE cl_3 (hE.kd (kO_3 hq)) (by decide) 5 (q + 2) rfl (by decide) lk_X3_15 dX3_findBoss_46 ?_
            refine x_iload hE 4 dX3_findBoss_49 rfl ?_
            refine x_iald hE (hE.kd (kB_3_5 hq)) dX3_findBoss_51 hf (fun hf => ?_)
            refine x_iload_n hE 1 dX3_findBoss_52 rfl rfl ?_
            refine x_icmp_lt hE 67 dX3_findBoss_53 (by decide) hf (fun hf => ?_) (fun hf => ?_)
            · exact wX3_findBoss_J67 hE hr hq (fun _ _ _ _ _ _ hf => ih _ _ _ _ _ _ hf) hf
            · refine x_iload hE 4 dX3_findBoss_56 rfl ?_
              refine x_istore_n hE (L' := [(2, .int X4), (0, .ref (σ q)), (1, .int X1), (3, .int X3), (4, .int X4)]) dX3_findBoss_58 rfl (by decide) rfl ?_
              refine x_pick [1, 2, 0, 3, 4] (L' := [(0, .ref (σ q)), (1, .int X1), (2, .int X4), (3, .int X3), (4, .int X4)]) rfl ?_
              refine x_aload_n hE 0 dX3_findBoss_59 rfl rfl ?_
              refine x_getR hE cl_3 (hE.kd (kO_3 hq)) (by decide) 8 (q + 5) rfl (by decide) lk_X3_24 dX3_findBoss_60 ?_
              refine x_iload hE 4 dX3_findBoss_63 rfl ?_
              refine x_iald hE (hE.kd (kB_3_8 hq)) dX3_findBoss_65 hf (fun hf => ?_)
              refine x_ltI hf (fun v1 hf => ?_)
              refine x_istore_n hE (L' := [(3, .int v1), (0, .ref (σ q)), (1, .int X1), (2, .int X4), (4, .int X4)]) dX3_findBoss_66 rfl (by decide) rfl ?_
              refine x_pick [1, 2, 3, 0, 4] (L' := [(0, .ref (σ q)), (1, .int X1), (2, .int X4), (3, .int v1), (4, .int X4)]) rfl ?_
              exact wX3_findBoss_J67 hE hr hq (fun _ _ _ _ _ _ hf => ih _ _ _ _ _ _ hf) hf
theorem mX3_findBoss (l : Launch) {Y : Nat → ClassId} {D : va_G} {σ : Nat → Nat} {np b0 : Nat} {M : Mc} {N : Md} {q : Nat} {p0 : Int32} {r : Int32} (hq : is3 q) (hf : fX3_findBoss M q p0 = some r) : Met l yX3_findBoss (.code yX3_findBoss cX3_findBoss 5 (some .int) :: lw_g) (rmD 1) (PR Y D σ np b0 [.ref (σ q), .int p0] M N) (QR Y D σ np b0 (some (.int r)) M N) 0 0 (xA b0) := by
  refine x_met (by decide) (Nat.le_of_ble_eq_true rfl) (fun p e s m args below meth c hE hr => ?_)
  unfold fX3_findBoss at hf
  refine x_pick [0, 1] (L' := [(0, .ref (σ q)), (1, .int p0)]) rfl ?_
  refine x_iconst hE (-1) dX3_findBoss_0 (by decide) ?_
  refine x_istore_n hE (L' := [(2, .int (-1)), (0, .ref (σ q)), (1, .int p0)]) dX3_findBoss_1 rfl (by decide) rfl ?_
  refine x_pick [1, 2, 0] (L' := [(0, .ref (σ q)), (1, .int p0), (2, .int (-1))]) rfl ?_
  refine x_iconst hE (nI 4) dX3_findBoss_2 (by decide) ?_
  refine x_istore_n hE (L' := [(3, .int (nI 4)), (0, .ref (σ q)), (1, .int p0), (2, .int (-1))]) dX3_findBoss_3 rfl (by decide) rfl ?_
  refine x_pick [1, 2, 3, 0] (L' := [(0, .ref (σ q)), (1, .int p0), (2, .int (-1)), (3, .int (nI 4))]) rfl ?_
  refine x_iconst hE (0 : Int32) dX3_findBoss_4 (by decide) ?_
  refine x_istore hE (L' := [(4, .int 0), (0, .ref (σ q)), (1, .int p0), (2, .int (-1)), (3, .int (nI 4))]) dX3_findBoss_5 (by decide) rfl ?_
  refine x_pick [1, 2, 3, 4, 0] (L' := [(0, .ref (σ q)), (1, .int p0), (2, .int (-1)), (3, .int (nI 4)), (4, .int 0)]) rfl ?_
  exact wX3_findBoss_L7 hE hr hq FU _ _ _ _ _ _ hf
theorem yokX3_findBoss : YOK yX3_findBoss cX3_findBoss 5 1 (some .int) := ⟨mem_g 1764 (by decide +kernel) (by decide +kernel), mem_g 136 (by decide +kernel) (by decide +kernel), by decide +kernel, by decide +kernel, by decide +kernel⟩
theorem yvX3_findBoss : YV yX3_findBoss := ⟨mem_g 1762 (by decide +kernel) (by decide +kernel), mem_g 1763 (by decide +kernel) (by decide +kernel)⟩
theorem lk_X3_94 : Cond.methodLink RX3 94 yX3_canPay ∈ lw_g := mem_g 1752 (by decide +kernel) (by decide +kernel)
theorem lk_X3_97 : Cond.methodLink RX3 97 yX3_spend ∈ lw_g := mem_g 1753 (by decide +kernel) (by decide +kernel)
theorem lk_X3_101 : Cond.methodLink RX3 101 yX3_earn ∈ lw_g := mem_g 1754 (by decide +kernel) (by decide +kernel)
theorem dX3_payWage_0 : decode cX3_payWage 0 = .ok (.aload_n 0, 1) := by decide +kernel
theorem dX3_payWage_1 : decode cX3_payWage 1 = .ok (.iload_n 1, 1) := by decide +kernel
theorem dX3_payWage_2 : decode cX3_payWage 2 = .ok (.invokevirtual 69, 3) := by decide +kernel
theorem dX3_payWage_5 : decode cX3_payWage 5 = .ok (.ifCond .ne 4, 3) := by decide +kernel
theorem dX3_payWage_8 : decode cX3_payWage 8 = .ok (.return_, 1) := by decide +kernel
theorem dX3_payWage_9 : decode cX3_payWage 9 = .ok (.aload_n 0, 1) := by decide +kernel
theorem dX3_payWage_10 : decode cX3_payWage 10 = .ok (.getfield 21, 3) := by decide +kernel
theorem dX3_payWage_13 : decode cX3_payWage 13 = .ok (.iload_n 1, 1) := by decide +kernel
theorem dX3_payWage_14 : decode cX3_payWage 14 = .ok (.iaload, 1) := by decide +kernel
theorem dX3_payWage_15 : decode cX3_payWage 15 = .ok (.istore_n 3, 1) := by decide +kernel
theorem dX3_payWage_16 : decode cX3_payWage 16 = .ok (.aload_n 0, 1) := by decide +kernel
theorem dX3_payWage_17 : decode cX3_payWage 17 = .ok (.iload_n 3, 1) := by decide +kernel
theorem dX3_payWage_18 : decode cX3_payWage 18 = .ok (.iload_n 2, 1) := by decide +kernel
theorem dX3_payWage_19 : decode cX3_payWage 19 = .ok (.invokevirtual 94, 3) := by decide +kernel
theorem dX3_payWage_22 : decode cX3_payWage 22 = .ok (.ifCond .eq 18, 3) := by decide +kernel
theorem dX3_payWage_25 : decode cX3_payWage 25 = .ok (.aload_n 0, 1) := by decide +kernel
theorem dX3_payWage_26 : decode cX3_payWage 26 = .ok (.iload_n 3, 1) := by decide +kernel
theorem dX3_payWage_27 : decode cX3_payWage 27 = .ok (.iload_n 2, 1) := by decide +kernel
theorem dX3_payWage_28 : decode cX3_payWage 28 = .ok (.invokevirtual 97, 3) := by decide +kernel
theorem dX3_payWage_31 : decode cX3_payWage 31 = .ok (.aload_n 0, 1) := by decide +kernel
theorem dX3_payWage_32 : decode cX3_payWage 32 = .ok (.iload_n 1, 1) := by decide +kernel
theorem dX3_payWage_33 : decode cX3_payWage 33 = .ok (.iload_n 2, 1) := by decide +kernel
theorem dX3_payWage_34 : decode cX3_payWage 34 = .ok (.invokevirtual 101, 3) := by decide +kernel
theorem dX3_payWage_37 : decode cX3_payWage 37 = .ok (.goto 8, 3) := by decide +kernel
theorem dX3_payWage_40 : decode cX3_payWage 40 = .ok (.aload_n 0, 1) := by decide +kernel
theorem dX3_payWage_41 : decode cX3_payWage 41 = .ok (.iload_n 1, 1) := by decide +kernel
theorem dX3_payWage_42 : decode cX3_payWage 42 = .ok (.invokevirtual 90, 3) := by decide +kernel
theorem dX3_payWage_45 : decode cX3_payWage 45 = .ok (.return_, 1) := by decide +kernel
theorem mX3_payWage (l : Launch) {Y : Nat → ClassId} {D : va_G} {σ : Nat → Nat} {np b0 : Nat} {M : Mc} {N : Md} {q : Nat} {p0 : Int32} {p1 : Int32} {r : Mc} (hq : is3 q) (hf : fX3_payWage M q p0 p1 = some r) : Met l yX3_payWage (.code yX3_payWage cX3_payWage 4 none :: lw_g) (rmD 3) (PR Y D σ np b0 [.ref (σ q), .int p0, .int p1] M N) (QR Y D σ np b0 none r N) 0 0 (xA b0) := by
  refine x_met (by decide) (Nat.le_of_ble_eq_true rfl) (fun p e s m args below meth c hE hr => ?_)
  unfold fX3_payWage at hf
  refine x_pick [0, 1, 2] (L' := [(0, .ref (σ q)), (1, .int p0), (2, .int p1)]) rfl ?_
  refine x_aload_n hE 0 dX3_payWage_0 rfl rfl ?_
  refine x_iload_n hE 1 dX3_payWage_1 rfl rfl ?_
  obtain ⟨v2, hc1, hf⟩ := bnd_some hf
  refine x_callV1 hE [.int p0] (rest := []) (v := .int v2) (c1 := M) (d1 := N) rfl yokX3_isOne yvX3_isOne lk_X3_69 rfl cl_3 (hE.kd (kO_3 hq)) (by decide) rfl rfl ⟨Nat.le_of_ble_eq_true rfl, Nat.le_of_ble_eq_true rfl⟩ ⟨Nat.zero_le _, Nat.zero_le _⟩ rfl (Nat.le_of_ble_eq_true rfl) dX3_payWage_2 (mX3_isOne l hq hc1) ?_
  refine x_if_ne hE 9 dX3_payWage_5 (by decide) hf (fun hf => ?_) (fun hf => ?_)
  · refine x_aload_n hE 0 dX3_payWage_9 rfl rfl ?_
    refine x_getR hE cl_3 (hE.kd (kO_3 hq)) (by decide) 7 (q + 4) rfl (by decide) lk_X3_21 dX3_payWage_10 ?_
    refine x_iload_n hE 1 dX3_payWage_13 rfl rfl ?_
    refine x_iald hE (hE.kd (kB_3_7 hq)) dX3_payWage_14 hf (fun hf => ?_)
    refine x_ltI hf (fun v3 hf => ?_)
    refine x_istore_n hE (L' := [(3, .int v3), (0, .ref (σ q)), (1, .int p0), (2, .int p1)]) dX3_payWage_15 rfl (by decide) rfl ?_
    refine x_pick [1, 2, 3, 0] (L' := [(0, .ref (σ q)), (1, .int p0), (2, .int p1), (3, .int v3)]) rfl ?_
    refine x_aload_n hE 0 dX3_payWage_16 rfl rfl ?_
    refine x_iload_n hE 3 dX3_payWage_17 rfl rfl ?_
    refine x_iload_n hE 2 dX3_payWage_18 rfl rfl ?_
    obtain ⟨v5, hc4, hf⟩ := bnd_some hf
    refine x_callV1 hE [.int v3, .int p1] (rest := []) (v := .int v5) (c1 := M) (d1 := N) rfl yokX3_canPay yvX3_canPay lk_X3_94 rfl cl_3 (hE.kd (kO_3 hq)) (by decide) rfl rfl ⟨Nat.le_of_ble_eq_true rfl, Nat.le_of_ble_eq_true rfl⟩ ⟨Nat.zero_le _, Nat.zero_le _⟩ rfl (Nat.le_of_ble_eq_true rfl) dX3_payWage_19 (mX3_canPay l hq hc4) ?_
    refine x_if_eq hE 40 dX3_payWage_22 (by decide) hf (fun hf => ?_) (fun hf => ?_)
    · refine x_aload_n hE 0 dX3_payWage_40 rfl rfl ?_
      refine x_iload_n hE 1 dX3_payWage_41 rfl rfl ?_
      obtain ⟨M7, hc6, hf⟩ := bnd_some hf
      refine x_callV0 hE [.int p0] (rest := []) (c1 := M7) (d1 := N) rfl yokX3_release yvX3_release lk_X3_90 rfl cl_3 (hE.kd (kO_3 hq)) (by decide) rfl rfl ⟨Nat.le_of_ble_eq_true rfl, Nat.le_of_ble_eq_true rfl⟩ ⟨Nat.zero_le _, Nat.zero_le _⟩ rfl (Nat.le_of_ble_eq_true rfl) dX3_payWage_42 (mX3_release l hq hc6) ?_
      replace hf := Option.some.inj hf
      subst hf
      exact x_vreturn hE hr dX3_payWage_45
    · refine x_aload_n hE 0 dX3_payWage_25 rfl rfl ?_
      refine x_iload_n hE 3 dX3_payWage_26 rfl rfl ?_
      refine x_iload_n hE 2 dX3_payWage_27 rfl rfl ?_
      obtain ⟨M9, hc8, hf⟩ := bnd_some hf
      refine x_callV0 hE [.int v3, .int p1] (rest := []) (c1 := M9) (d1 := N) rfl yokX3_spend yvX3_spend lk_X3_97 rfl cl_3 (hE.kd (kO_3 hq)) (by decide) rfl rfl ⟨Nat.le_of_ble_eq_true rfl, Nat.le_of_ble_eq_true rfl⟩ ⟨Nat.zero_le _, Nat.zero_le _⟩ rfl (Nat.le_of_ble_eq_true rfl) dX3_payWage_28 (mX3_spend l hq hc8) ?_
      refine x_aload_n hE 0 dX3_payWage_31 rfl rfl ?_
      refine x_iload_n hE 1 dX3_payWage_32 rfl rfl ?_
      refine x_iload_n hE 2 dX3_payWage_33 rfl rfl ?_
      obtain ⟨M11, hc10, hf⟩ := bnd_some hf
      refine x_callV0 hE [.int p0, .int p1] (rest := []) (c1 := M11) (d1 := N) rfl yokX3_earn yvX3_earn lk_X3_101 rfl cl_3 (hE.kd (kO_3 hq)) (by decide) rfl rfl ⟨Nat.le_of_ble_eq_true rfl, Nat.le_of_ble_eq_true rfl⟩ ⟨Nat.zero_le _, Nat.zero_le _⟩ rfl (Nat.le_of_ble_eq_true rfl) dX3_payWage_34 (mX3_earn l hq hc10) ?_
      refine x_goto hE 45 dX3_payWage_37 (by decide) ?_
      replace hf := Option.some.inj hf
      subst hf
      exact x_vreturn hE hr dX3_payWage_45
  · replace hf := Option.some.inj hf
    subst hf
    exact x_vreturn hE hr dX3_payWage_8
theorem yokX3_payWage : YOK yX3_payWage cX3_payWage 4 2 none := ⟨mem_g 1751 (by decide +kernel) (by decide +kernel), mem_g 136 (by decide +kernel) (by decide +kernel), by decide +kernel, by decide +kernel, by decide +kernel⟩
theorem yvX3_payWage : YV yX3_payWage := ⟨mem_g 1749 (by decide +kernel) (by decide +kernel), mem_g 1750 (by decide +kernel) (by decide +kernel)⟩
theorem dX3_starve_0 : decode cX3_starve 0 = .ok (.aload_n 0, 1) := by decide +kernel
theorem dX3_starve_1 : decode cX3_starve 1 = .ok (.iload_n 1, 1) := by decide +kernel
theorem dX3_starve_2 : decode cX3_starve 2 = .ok (.invokevirtual 69, 3) := by decide +kernel
theorem dX3_starve_5 : decode cX3_starve 5 = .ok (.ifCond .ne 4, 3) := by decide +kernel
theorem dX3_starve_8 : decode cX3_starve 8 = .ok (.return_, 1) := by decide +kernel
theorem dX3_starve_9 : decode cX3_starve 9 = .ok (.aload_n 0, 1) := by decide +kernel
theorem dX3_starve_10 : decode cX3_starve 10 = .ok (.getfield 40, 3) := by decide +kernel
theorem dX3_starve_13 : decode cX3_starve 13 = .ok (.iload_n 1, 1) := by decide +kernel
theorem dX3_starve_14 : decode cX3_starve 14 = .ok (.dup2, 1) := by decide +kernel
theorem dX3_starve_15 : decode cX3_starve 15 = .ok (.iaload, 1) := by decide +kernel
theorem dX3_starve_16 : decode cX3_starve 16 = .ok (.iconst 1, 1) := by decide +kernel
theorem dX3_starve_17 : decode cX3_starve 17 = .ok (.iadd, 1) := by decide +kernel
theorem dX3_starve_18 : decode cX3_starve 18 = .ok (.iastore, 1) := by decide +kernel
theorem dX3_starve_19 : decode cX3_starve 19 = .ok (.aload_n 0, 1) := by decide +kernel
theorem dX3_starve_20 : decode cX3_starve 20 = .ok (.dup, 1) := by decide +kernel
theorem dX3_starve_21 : decode cX3_starve 21 = .ok (.getfield 53, 3) := by decide +kernel
theorem dX3_starve_24 : decode cX3_starve 24 = .ok (.iconst 1, 1) := by decide +kernel
theorem dX3_starve_25 : decode cX3_starve 25 = .ok (.iadd, 1) := by decide +kernel
theorem dX3_starve_26 : decode cX3_starve 26 = .ok (.putfield 53, 3) := by decide +kernel
theorem dX3_starve_29 : decode cX3_starve 29 = .ok (.return_, 1) := by decide +kernel
theorem mX3_starve (l : Launch) {Y : Nat → ClassId} {D : va_G} {σ : Nat → Nat} {np b0 : Nat} {M : Mc} {N : Md} {q : Nat} {p0 : Int32} {r : Mc} (hq : is3 q) (hf : fX3_starve M q p0 = some r) : Met l yX3_starve (.code yX3_starve cX3_starve 2 none :: lw_g) (rmD 2) (PR Y D σ np b0 [.ref (σ q), .int p0] M N) (QR Y D σ np b0 none r N) 0 0 (xA b0) := by
  refine x_met (by decide) (Nat.le_of_ble_eq_true rfl) (fun p e s m args below meth c hE hr => ?_)
  unfold fX3_starve at hf
  refine x_pick [0, 1] (L' := [(0, .ref (σ q)), (1, .int p0)]) rfl ?_
  refine x_aload_n hE 0 dX3_starve_0 rfl rfl ?_
  refine x_iload_n hE 1 dX3_starve_1 rfl rfl ?_
  obtain ⟨v2, hc1, hf⟩ := bnd_some hf
  refine x_callV1 hE [.int p0] (rest := []) (v := .int v2) (c1 := M) (d1 := N) rfl yokX3_isOne yvX3_isOne lk_X3_69 rfl cl_3 (hE.kd (kO_3 hq)) (by decide) rfl rfl ⟨Nat.le_of_ble_eq_true rfl, Nat.le_of_ble_eq_true rfl⟩ ⟨Nat.zero_le _, Nat.zero_le _⟩ rfl (Nat.le_of_ble_eq_true rfl) dX3_starve_2 (mX3_isOne l hq hc1) ?_
  refine x_if_ne hE 9 dX3_starve_5 (by decide) hf (fun hf => ?_) (fun hf => ?_)
  · refine x_aload_n hE 0 dX3_starve_9 rfl rfl ?_
    refine x_getR hE cl_3 (hE.kd (kO_3 hq)) (by decide) 13 (q + 10) rfl (by decide) lk_X3_40 dX3_starve_10 ?_
    refine x_iload_n hE 1 dX3_starve_13 rfl rfl ?_
    refine x_dup2 hE dX3_starve_14 rfl rfl ?_
    refine x_iald hE (hE.kd (kB_3_13 hq)) dX3_starve_15 hf (fun hf => ?_)
    refine x_iconst hE (nI 1) dX3_starve_16 (by decide) ?_
    refine x_iadd hE dX3_starve_17 ?_
    refine x_iast hE (hE.kd (kB_3_13 hq)) dX3_starve_18 hf (fun M3 hf => ?_)
    refine x_aload_n hE 0 dX3_starve_19 rfl rfl ?_
    refine x_dup hE dX3_starve_20 rfl ?_
    refine x_getI hE cl_3 (hE.kd (kO_3 hq)) (by decide) 2 rfl (by decide) lk_X3_53 dX3_starve_21 ?_
    refine x_iconst hE (nI 1) dX3_starve_24 (by decide) ?_
    refine x_iadd hE dX3_starve_25 ?_
    refine x_putI hE cl_3 (hE.kd (kO_3 hq)) (by decide) 2 rfl (by decide) lk_X3_53 rfl rfl rfl rfl dX3_starve_26 hf (fun M4 hf => ?_)
    replace hf := Option.some.inj hf
    subst hf
    exact x_vreturn hE hr dX3_starve_29
  · replace hf := Option.some.inj hf
    subst hf
    exact x_vreturn hE hr dX3_starve_8
theorem yokX3_starve : YOK yX3_starve cX3_starve 2 1 none := ⟨mem_g 1772 (by decide +kernel) (by decide +kernel), mem_g 136 (by decide +kernel) (by decide +kernel), by decide +kernel, by decide +kernel, by decide +kernel⟩
theorem yvX3_starve : YV yX3_starve := ⟨mem_g 1770 (by decide +kernel) (by decide +kernel), mem_g 1771 (by decide +kernel) (by decide +kernel)⟩
theorem dX3_allHired_0 : decode cX3_allHired 0 = .ok (.iconst 0, 1) := by decide +kernel
theorem dX3_allHired_1 : decode cX3_allHired 1 = .ok (.istore_n 1, 1) := by decide +kernel
theorem dX3_allHired_2 : decode cX3_allHired 2 = .ok (.iconst 0, 1) := by decide +kernel
theorem dX3_allHired_3 : decode cX3_allHired 3 = .ok (.istore_n 2, 1) := by decide +kernel
theorem dX3_allHired_4 : decode cX3_allHired 4 = .ok (.iload_n 2, 1) := by decide +kernel
theorem dX3_allHired_5 : decode cX3_allHired 5 = .ok (.aload_n 0, 1) := by decide +kernel
theorem dX3_allHired_6 : decode cX3_allHired 6 = .ok (.getfield 46, 3) := by decide +kernel
theorem dX3_allHired_9 : decode cX3_allHired 9 = .ok (.if_icmp .ge 28, 3) := by decide +kernel
theorem dX3_allHired_12 : decode cX3_allHired 12 = .ok (.iload_n 2, 1) := by decide +kernel
theorem dX3_allHired_13 : decode cX3_allHired 13 = .ok (.bipush 100, 2) := by decide +kernel
theorem dX3_allHired_15 : decode cX3_allHired 15 = .ok (.if_icmp .ge 22, 3) := by decide +kernel
theorem dX3_allHired_18 : decode cX3_allHired 18 = .ok (.aload_n 0, 1) := by decide +kernel
theorem dX3_allHired_19 : decode cX3_allHired 19 = .ok (.getfield 18, 3) := by decide +kernel
theorem dX3_allHired_22 : decode cX3_allHired 22 = .ok (.iload_n 2, 1) := by decide +kernel
theorem dX3_allHired_23 : decode cX3_allHired 23 = .ok (.iaload, 1) := by decide +kernel
theorem dX3_allHired_24 : decode cX3_allHired 24 = .ok (.iconst 3, 1) := by decide +kernel
theorem dX3_allHired_25 : decode cX3_allHired 25 = .ok (.if_icmp .ne 6, 3) := by decide +kernel
theorem dX3_allHired_28 : decode cX3_allHired 28 = .ok (.iinc 1 1, 3) := by decide +kernel
theorem dX3_allHired_31 : decode cX3_allHired 31 = .ok (.iinc 2 1, 3) := by decide +kernel
theorem dX3_allHired_34 : decode cX3_allHired 34 = .ok (.goto (-30), 3) := by decide +kernel
theorem dX3_allHired_37 : decode cX3_allHired 37 = .ok (.iload_n 1, 1) := by decide +kernel
theorem dX3_allHired_38 : decode cX3_allHired 38 = .ok (.ireturn, 1) := by decide +kernel
theorem wX3_allHired_J31 {p : Program} {l : Launch} {e : Env} {s : State} {m : MethodId} {args : Array Value} {below : List Frame} {meth : Method} {c : Code} {Y : Nat → ClassId} {D : va_G} {σ : Nat → Nat} {np b0 : Nat} {q : Nat} {r : Int32} {K4 : Mc → Int32 → Int32 → Option (Int32)} {M : Mc} {N : Md} {X1 : Int32} {X2 : Int32} (hE : EOK p s m args meth c cX3_allHired 3 RX3 Y D σ np b0) (hr : meth.sig.returnType = (some .int)) (hq : is3 q) (hK4 : ∀ (M : Mc) (N : Md) (X1 : Int32) (X2 : Int32), K4 M X1 X2 = some r → Xw p l e (rmD 1) s m args below meth c 3 Y D σ np b0 0 0 (MQ below (QR Y D σ np b0 (some (.int r)) M N) args s 0 0 (xA b0)) 4 [(0, .ref (σ q)), (1, .int X1), (2, .int X2)] [] M N) (hf : fX3_allHired_J31 q K4 M X1 X2 = some r) : Xw p l e (rmD 1) s m args below meth c 3 Y D σ np b0 0 0 (MQ below (QR Y D σ np b0 (some (.int r)) M N) args s 0 0 (xA b0)) 31 [(0, .ref (σ q)), (1, .int X1), (2, .int X2)] [] M N := by
  unfold fX3_allHired_J31 at hf
  refine x_iinc hE 2 (X2 + nI 1) (L' := [(2, .int (X2 + nI 1)), (0, .ref (σ q)), (1, .int X1)]) dX3_allHired_31 rfl rfl (by decide) rfl ?_
  refine x_pick [1, 2, 0] (L' := [(0, .ref (σ q)), (1, .int X1), (2, .int (X2 + nI 1))]) rfl ?_
  refine x_goto hE 4 dX3_allHired_34 (by decide) ?_
  exact hK4 _ _ _ _ hf
theorem wX3_allHired_L4 {p : Program} {l : Launch} {e : Env} {s : State} {m : MethodId} {args : Array Value} {below : List Frame} {meth : Method} {c : Code} {Y : Nat → ClassId} {D : va_G} {σ : Nat → Nat} {np b0 : Nat} {q : Nat} {r : Int32} (hE : EOK p s m args meth c cX3_allHired 3 RX3 Y D σ np b0) (hr : meth.sig.returnType = (some .int)) (hq : is3 q) : ∀ (n : Nat) (M : Mc) (N : Md) (X1 : Int32) (X2 : Int32), fX3_allHired_L4 q n M X1 X2 = some r → Xw p l e (rmD 1) s m args below meth c 3 Y D σ np b0 0 0 (MQ below (QR Y D σ np b0 (some (.int r)) M N) args s 0 0 (xA b0)) 4 [(0, .ref (σ q)), (1, .int X1), (2, .int X2)] [] M N := by
  intro n
  induction n with
  | zero =>
    intro M N X1 X2 hf
    cases hf
  | succ n ih =>
    intro M N X1 X2 hf
    rw [fX3_allHired_L4.eq_2] at hf
    refine x_iload_n hE 2 dX3_allHired_4 rfl rfl ?_
    refine x_aload_n hE 0 dX3_allHired_5 rfl rfl ?_
    refine x_getI hE cl_3 (hE.kd (kO_3 hq)) (by decide) 0 rfl (by decide) lk_X3_46 dX3_allHired_6 ?_
    refine x_icmp_ge hE 37 dX3_allHired_9 (by decide) hf (fun hf => ?_) (fun hf => ?_)
    · refine x_iload_n hE 1 dX3_allHired_37 rfl rfl ?_
      replace hf := Option.some.inj hf
      subst hf
      exact x_ireturn hE (v := X1) hr rfl dX3_allHired_38
    · refine x_iload_n hE 2 dX3_allHired_12 rfl rfl ?_
      refine x_bipush hE (nI 100) dX3_allHired_13 (by decide) ?_
      refine x_icmp_ge hE 37 dX3_allHired_15 (by decide) hf (fun hf => ?_) (fun hf => ?_)
      · refine x_iload_n hE 1 dX3_allHired_37 rfl rfl ?_
        replace hf := Option.some.inj hf
        subst hf
        exact x_ireturn hE (v := X1) hr rfl dX3_allHired_38
      · refine x_aload_n hE 0 dX3_allHired_18 rfl rfl ?_
        refine x_getR hE cl_3 (hE.kd (kO_3 hq)) (by decide) 6 (q + 3) rfl (by decide) lk_X3_18 dX3_allHired_19 ?_
        refine x_iload_n hE 2 dX3_allHired_22 rfl rfl ?_
        refine x_iald hE (hE.kd (kB_3_6 hq)) dX3_allHired_23 hf (fun hf => ?_)
        refine x_iconst hE (nI 3) dX3_allHired_24 (by decide) ?_
        refine x_icmp_ne hE 31 dX3_allHired_25 (by decide) hf (fun hf => ?_) (fun hf => ?_)
        · exact wX3_allHired_J31 hE hr hq (fun _ _ _ _ hf => ih _ _ _ _ hf) hf
        · refine x_iinc hE 1 (X1 + nI 1) (L' := [(1, .int (X1 + nI 1)), (0, .ref (σ q)), (2, .int X2)]) dX3_allHired_28 rfl rfl (by decide) rfl ?_
          refine x_pick [1, 0, 2] (L' := [(0, .ref (σ q)), (1, .int (X1 + nI 1)), (2, .int X2)]) rfl ?_
          exact wX3_allHired_J31 hE hr hq (fun _ _ _ _ hf => ih _ _ _ _ hf) hf
theorem mX3_allHired (l : Launch) {Y : Nat → ClassId} {D : va_G} {σ : Nat → Nat} {np b0 : Nat} {M : Mc} {N : Md} {q : Nat} {r : Int32} (hq : is3 q) (hf : fX3_allHired M q = some r) : Met l yX3_allHired (.code yX3_allHired cX3_allHired 3 (some .int) :: lw_g) (rmD 1) (PR Y D σ np b0 [.ref (σ q)] M N) (QR Y D σ np b0 (some (.int r)) M N) 0 0 (xA b0) := by
  refine x_met (by decide) (Nat.le_of_ble_eq_true rfl) (fun p e s m args below meth c hE hr => ?_)
  unfold fX3_allHired at hf
  refine x_pick [0] (L' := [(0, .ref (σ q))]) rfl ?_
  refine x_iconst hE (0 : Int32) dX3_allHired_0 (by decide) ?_
  refine x_istore_n hE (L' := [(1, .int 0), (0, .ref (σ q))]) dX3_allHired_1 rfl (by decide) rfl ?_
  refine x_pick [1, 0] (L' := [(0, .ref (σ q)), (1, .int 0)]) rfl ?_
  refine x_iconst hE (0 : Int32) dX3_allHired_2 (by decide) ?_
  refine x_istore_n hE (L' := [(2, .int 0), (0, .ref (σ q)), (1, .int 0)]) dX3_allHired_3 rfl (by decide) rfl ?_
  refine x_pick [1, 2, 0] (L' := [(0, .ref (σ q)), (1, .int 0), (2, .int 0)]) rfl ?_
  exact wX3_allHired_L4 hE hr hq FU _ _ _ _ hf
theorem yokX3_allHired : YOK yX3_allHired cX3_allHired 3 0 (some .int) := ⟨mem_g 1863 (by decide +kernel) (by decide +kernel), mem_g 136 (by decide +kernel) (by decide +kernel), by decide +kernel, by decide +kernel, by decide +kernel⟩
theorem yvX3_allHired : YV yX3_allHired := ⟨mem_g 1861 (by decide +kernel) (by decide +kernel), mem_g 1862 (by decide +kernel) (by decide +kernel)⟩
