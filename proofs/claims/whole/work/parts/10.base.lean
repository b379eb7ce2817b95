theorem dJ7_fill_53178_0 : decode cJ7_fill_53178 0 = .ok (.iconst 0, 1) := by decide +kernel
theorem dJ7_fill_53178_1 : decode cJ7_fill_53178 1 = .ok (.istore_n 2, 1) := by decide +kernel
theorem dJ7_fill_53178_2 : decode cJ7_fill_53178 2 = .ok (.aload_n 0, 1) := by decide +kernel
theorem dJ7_fill_53178_3 : decode cJ7_fill_53178 3 = .ok (.arraylength, 1) := by decide +kernel
theorem dJ7_fill_53178_4 : decode cJ7_fill_53178 4 = .ok (.istore_n 3, 1) := by decide +kernel
theorem dJ7_fill_53178_5 : decode cJ7_fill_53178 5 = .ok (.iload_n 2, 1) := by decide +kernel
theorem dJ7_fill_53178_6 : decode cJ7_fill_53178 6 = .ok (.iload_n 3, 1) := by decide +kernel
theorem dJ7_fill_53178_7 : decode cJ7_fill_53178 7 = .ok (.if_icmp .ge 13, 3) := by decide +kernel
theorem dJ7_fill_53178_10 : decode cJ7_fill_53178 10 = .ok (.aload_n 0, 1) := by decide +kernel
theorem dJ7_fill_53178_11 : decode cJ7_fill_53178 11 = .ok (.iload_n 2, 1) := by decide +kernel
theorem dJ7_fill_53178_12 : decode cJ7_fill_53178 12 = .ok (.iload_n 1, 1) := by decide +kernel
theorem dJ7_fill_53178_13 : decode cJ7_fill_53178 13 = .ok (.iastore, 1) := by decide +kernel
theorem dJ7_fill_53178_14 : decode cJ7_fill_53178 14 = .ok (.iinc 2 1, 3) := by decide +kernel
theorem dJ7_fill_53178_17 : decode cJ7_fill_53178 17 = .ok (.goto (-12), 3) := by decide +kernel
theorem dJ7_fill_53178_20 : decode cJ7_fill_53178 20 = .ok (.return_, 1) := by decide +kernel
theorem wJ7_fill_53178_L5 {p : Program} {l : Launch} {e : Env} {s : State} {m : MethodId} {args : Array Value} {below : List Frame} {meth : Method} {c : Code} {Y : Nat → ClassId} {D : va_G} {σ : Nat → Nat} {np b0 : Nat} {n0 : Nat} {k0 : Nat} {r : Mc} (hE : EOK p s m args meth c cJ7_fill_53178 4 RJ7 Y D σ np b0) (hr : meth.sig.returnType = none) (hk0 : k0 < 146 ∧ kd k0 = (100, n0, [])) : ∀ (n : Nat) (M : Mc) (N : Md) (X1 : Int32) (X2 : Int32) (X3 : Int32), fJ7_fill_53178_L5 n0 k0 n M X1 X2 X3 = some r → Xw p l e (rmD 1) s m args below meth c 4 Y D σ np b0 0 0 (MQ below (QR Y D σ np b0 none r N) args s 0 0 (xA b0)) 5 [(0, .ref (σ k0)), (1, .int X1), (2, .int X2), (3, .int X3)] [] M N := by
  intro n
  induction n with
  | zero =>
    intro M N X1 X2 X3 hf
    cases hf
  | succ n ih =>
    intro M N X1 X2 X3 hf
    rw [fJ7_fill_53178_L5.eq_2] at hf
    refine x_iload_n hE 2 dJ7_fill_53178_5 rfl rfl ?_
    refine x_iload_n hE 3 dJ7_fill_53178_6 rfl rfl ?_
    refine x_icmp_ge hE 20 dJ7_fill_53178_7 (by decide) hf (fun hf => ?_) (fun hf => ?_)
    · replace hf := Option.some.inj hf
      subst hf
      exact x_vreturn hE hr dJ7_fill_53178_20
    · refine x_aload_n hE 0 dJ7_fill_53178_10 rfl rfl ?_
      refine x_iload_n hE 2 dJ7_fill_53178_11 rfl rfl ?_
      refine x_iload_n hE 1 dJ7_fill_53178_12 rfl rfl ?_
      refine x_iast hE (hE.kd hk0) dJ7_fill_53178_13 hf (fun M2 hf => ?_)
      refine x_iinc hE 2 (X2 + nI 1) (L' := [(2, .int (X2 + nI 1)), (0, .ref (σ k0)), (1, .int X1), (3, .int X3)]) dJ7_fill_53178_14 rfl rfl (by decide) rfl ?_
      refine x_pick [1, 2, 0, 3] (L' := [(0, .ref (σ k0)), (1, .int X1), (2, .int (X2 + nI 1)), (3, .int X3)]) rfl ?_
      refine x_goto hE 5 dJ7_fill_53178_17 (by decide) ?_
      exact ih _ _ _ _ _ hf
theorem mJ7_fill_53178 (l : Launch) {Y : Nat → ClassId} {D : va_G} {σ : Nat → Nat} {np b0 : Nat} {M : Mc} {N : Md} {n0 : Nat} {k0 : Nat} {p0 : Int32} {r : Mc} (hk0 : k0 < 146 ∧ kd k0 = (100, n0, [])) (hf : fJ7_fill_53178 M n0 k0 p0 = some r) : Met l yJ7_fill_53178 (.code yJ7_fill_53178 cJ7_fill_53178 4 none :: lw_g) (rmD 1) (PR Y D σ np b0 [.ref (σ k0), .int p0] M N) (QR Y D σ np b0 none r N) 0 0 (xA b0) := by
  refine x_met (by decide) (Nat.le_of_ble_eq_true rfl) (fun p e s m args below meth c hE hr => ?_)
  unfold fJ7_fill_53178 at hf
  refine x_pick [0, 1] (L' := [(0, .ref (σ k0)), (1, .int p0)]) rfl ?_
  refine x_iconst hE (0 : Int32) dJ7_fill_53178_0 (by decide) ?_
  refine x_istore_n hE (L' := [(2, .int 0), (0, .ref (σ k0)), (1, .int p0)]) dJ7_fill_53178_1 rfl (by decide) rfl ?_
  refine x_pick [1, 2, 0] (L' := [(0, .ref (σ k0)), (1, .int p0), (2, .int 0)]) rfl ?_
  refine x_aload_n hE 0 dJ7_fill_53178_2 rfl rfl ?_
  refine x_alen hE (nI n0) (hE.kd hk0) (Or.inl rfl) rfl dJ7_fill_53178_3 ?_
  refine x_ltI hf (fun v1 hf => ?_)
  refine x_istore_n hE (L' := [(3, .int v1), (0, .ref (σ k0)), (1, .int p0), (2, .int 0)]) dJ7_fill_53178_4 rfl (by decide) rfl ?_
  refine x_pick [1, 2, 3, 0] (L' := [(0, .ref (σ k0)), (1, .int p0), (2, .int 0), (3, .int v1)]) rfl ?_
  exact wJ7_fill_53178_L5 hE hr hk0 FU _ _ _ _ _ hf
theorem yokJ7_fill_53178 : YOK yJ7_fill_53178 cJ7_fill_53178 4 2 none := ⟨mem_g 200 (by decide +kernel) (by decide +kernel), mem_g 135 (by decide +kernel) (by decide +kernel), by decide +kernel, by decide +kernel, by decide +kernel⟩
theorem ysJ7_fill_53178 : Cond.static yJ7_fill_53178 ∈ lw_g := mem_g 199 (by decide +kernel) (by decide +kernel)
theorem lk_J0_38 : Cond.fieldLink RJ0 38 "java/lang/String" "COMPACT_STRINGS" "Z" ∈ lw_g := mem_g 1348 (by decide +kernel) (by decide +kernel)
theorem lk_J0_15 : Cond.fieldLink RJ0 15 "java/lang/String" "coder" "B" ∈ lw_g := mem_g 2594 (by decide +kernel) (by decide +kernel)
theorem dJ0_coder_7d493_0 : decode cJ0_coder_7d493 0 = .ok (.getstatic 38, 3) := by decide +kernel
theorem dJ0_coder_7d493_3 : decode cJ0_coder_7d493 3 = .ok (.ifCond .eq 10, 3) := by decide +kernel
theorem dJ0_coder_7d493_6 : decode cJ0_coder_7d493 6 = .ok (.aload_n 0, 1) := by decide +kernel
theorem dJ0_coder_7d493_7 : decode cJ0_coder_7d493 7 = .ok (.getfield 15, 3) := by decide +kernel
theorem dJ0_coder_7d493_10 : decode cJ0_coder_7d493 10 = .ok (.goto 4, 3) := by decide +kernel
theorem dJ0_coder_7d493_13 : decode cJ0_coder_7d493 13 = .ok (.iconst 1, 1) := by decide +kernel
theorem dJ0_coder_7d493_14 : decode cJ0_coder_7d493 14 = .ok (.ireturn, 1) := by decide +kernel
theorem mJ0_coder_7d493 (l : Launch) {Y : Nat → ClassId} {D : va_G} {σ : Nat → Nat} {np b0 : Nat} {M : Mc} {N : Md} {i0 : Nat} {r : Int32} (hi0 : i0 < 23) (hf : fJ0_coder_7d493 M i0 = some r) : Met l yJ0_coder_7d493 (.code yJ0_coder_7d493 cJ0_coder_7d493 1 (some .byte) :: lw_g) (rmD 1) (PR Y D σ np b0 [.ref (Y (200 + i0))] M N) (QR Y D σ np b0 (some (.int r)) M N) 0 0 (xA b0) := by
  refine x_met (by decide) (Nat.le_of_ble_eq_true rfl) (fun p e s m args below meth c hE hr => ?_)
  unfold fJ0_coder_7d493 at hf
  refine x_pick [0] (L' := [(0, .ref (Y (200 + i0)))]) rfl ?_
  refine x_scomp hE lk_J0_38 dJ0_coder_7d493_0 ?_
  refine x_if_eq hE 13 dJ0_coder_7d493_3 (by decide) hf (fun hf => ?_) (fun hf => ?_)
  · refine x_iconst hE (nI 1) dJ0_coder_7d493_13 (by decide) ?_
    replace hf := Option.some.inj hf
    subst hf
    exact x_ireturn hE (v := nI 1) hr rfl dJ0_coder_7d493_14
  · refine x_aload_n hE 0 dJ0_coder_7d493_6 rfl rfl ?_
    refine x_scod hE hi0 lk_J0_15 dJ0_coder_7d493_7 ?_
    refine x_goto hE 14 dJ0_coder_7d493_10 (by decide) ?_
    replace hf := Option.some.inj hf
    subst hf
    exact x_ireturn hE (v := 0) hr rfl dJ0_coder_7d493_14
theorem yokJ0_coder_7d493 : YOK yJ0_coder_7d493 cJ0_coder_7d493 1 0 (some .byte) := ⟨mem_g 1347 (by decide +kernel) (by decide +kernel), mem_g 152 (by decide +kernel) (by decide +kernel), by decide +kernel, by decide +kernel, by decide +kernel⟩
theorem yvJ0_coder_7d493 : YV yJ0_coder_7d493 := ⟨mem_g 1345 (by decide +kernel) (by decide +kernel), mem_g 1346 (by decide +kernel) (by decide +kernel)⟩
theorem lk_J0_9 : Cond.fieldLink RJ0 9 "java/lang/String" "value" "[B" ∈ lw_g := mem_g 2593 (by decide +kernel) (by decide +kernel)
theorem lk_J0_335 : Cond.methodLink RJ0 335 yJ0_coder_7d493 ∈ lw_g := mem_g 1344 (by decide +kernel) (by decide +kernel)
theorem dJ0_length_8abf5_0 : decode cJ0_length_8abf5 0 = .ok (.aload_n 0, 1) := by decide +kernel
theorem dJ0_length_8abf5_1 : decode cJ0_length_8abf5 1 = .ok (.getfield 9, 3) := by decide +kernel
theorem dJ0_length_8abf5_4 : decode cJ0_length_8abf5 4 = .ok (.arraylength, 1) := by decide +kernel
theorem dJ0_length_8abf5_5 : decode cJ0_length_8abf5 5 = .ok (.aload_n 0, 1) := by decide +kernel
theorem dJ0_length_8abf5_6 : decode cJ0_length_8abf5 6 = .ok (.invokevirtual 335, 3) := by decide +kernel
theorem dJ0_length_8abf5_9 : decode cJ0_length_8abf5 9 = .ok (.ishr, 1) := by decide +kernel
theorem dJ0_length_8abf5_10 : decode cJ0_length_8abf5 10 = .ok (.ireturn, 1) := by decide +kernel
theorem mJ0_length_8abf5 (l : Launch) {Y : Nat → ClassId} {D : va_G} {σ : Nat → Nat} {np b0 : Nat} {M : Mc} {N : Md} {i0 : Nat} {r : Int32} (hi0 : i0 < 23) (hf : fJ0_length_8abf5 M i0 = some r) : Met l yJ0_length_8abf5 (.code yJ0_length_8abf5 cJ0_length_8abf5 1 (some .int) :: lw_g) (rmD 2) (PR Y D σ np b0 [.ref (Y (200 + i0))] M N) (QR Y D σ np b0 (some (.int r)) M N) 0 0 (xA b0) := by
  refine x_met (by decide) (Nat.le_of_ble_eq_true rfl) (fun p e s m args below meth c hE hr => ?_)
  unfold fJ0_length_8abf5 at hf
  refine x_pick [0] (L' := [(0, .ref (Y (200 + i0)))]) rfl ?_
  refine x_aload_n hE 0 dJ0_length_8abf5_0 rfl rfl ?_
  refine x_sval hE hi0 lk_J0_9 dJ0_length_8abf5_1 ?_
  refine x_sblen hE hi0 dJ0_length_8abf5_4 ?_
  refine x_aload_n hE 0 dJ0_length_8abf5_5 rfl rfl ?_
  obtain ⟨v2, hc1, hf⟩ := bnd_some hf
  refine x_callVS1 hE [] (rest := [.int (nI (sN i0))]) (v := .int v2) (c1 := M) (d1 := N) rfl yokJ0_coder_7d493 yvJ0_coder_7d493 lk_J0_335 rfl hi0 rfl rfl ⟨Nat.le_of_ble_eq_true rfl, Nat.le_of_ble_eq_true rfl⟩ ⟨Nat.zero_le _, Nat.zero_le _⟩ rfl (Nat.le_of_ble_eq_true rfl) dJ0_length_8abf5_6 (mJ0_coder_7d493 l hi0 hc1) ?_
  refine x_ishr hE dJ0_length_8abf5_9 ?_
  replace hf := Option.some.inj hf
  subst hf
  exact x_ireturn hE (v := (nI (sN i0)) >>> (v2 &&& 31)) hr rfl dJ0_length_8abf5_10
theorem yokJ0_length_8abf5 : YOK yJ0_length_8abf5 cJ0_length_8abf5 1 0 (some .int) := ⟨mem_g 1343 (by decide +kernel) (by decide +kernel), mem_g 152 (by decide +kernel) (by decide +kernel), by decide +kernel, by decide +kernel, by decide +kernel⟩
theorem yvJ0_length_8abf5 : YV yJ0_length_8abf5 := ⟨mem_g 1341 (by decide +kernel) (by decide +kernel), mem_g 1342 (by decide +kernel) (by decide +kernel)⟩
theorem dJ0_isLatin1_aae02_0 : decode cJ0_isLatin1_aae02 0 = .ok (.getstatic 38, 3) := by decide +kernel
theorem dJ0_isLatin1_aae02_3 : decode cJ0_isLatin1_aae02 3 = .ok (.ifCond .eq 14, 3) := by decide +kernel
theorem dJ0_isLatin1_aae02_6 : decode cJ0_isLatin1_aae02 6 = .ok (.aload_n 0, 1) := by decide +kernel
theorem dJ0_isLatin1_aae02_7 : decode cJ0_isLatin1_aae02 7 = .ok (.getfield 15, 3) := by decide +kernel
theorem dJ0_isLatin1_aae02_10 : decode cJ0_isLatin1_aae02 10 = .ok (.ifCond .ne 7, 3) := by decide +kernel
theorem dJ0_isLatin1_aae02_13 : decode cJ0_isLatin1_aae02 13 = .ok (.iconst 1, 1) := by decide +kernel
theorem dJ0_isLatin1_aae02_14 : decode cJ0_isLatin1_aae02 14 = .ok (.goto 4, 3) := by decide +kernel
theorem dJ0_isLatin1_aae02_17 : decode cJ0_isLatin1_aae02 17 = .ok (.iconst 0, 1) := by decide +kernel
theorem dJ0_isLatin1_aae02_18 : decode cJ0_isLatin1_aae02 18 = .ok (.ireturn, 1) := by decide +kernel
theorem mJ0_isLatin1_aae02 (l : Launch) {Y : Nat → ClassId} {D : va_G} {σ : Nat → Nat} {np b0 : Nat} {M : Mc} {N : Md} {i0 : Nat} {r : Int32} (hi0 : i0 < 23) (hf : fJ0_isLatin1_aae02 M i0 = some r) : Met l yJ0_isLatin1_aae02 (.code yJ0_isLatin1_aae02 cJ0_isLatin1_aae02 1 (some .boolean) :: lw_g) (rmD 1) (PR Y D σ np b0 [.ref (Y (200 + i0))] M N) (QR Y D σ np b0 (some (.int r)) M N) 0 0 (xA b0) := by
  refine x_met (by decide) (Nat.le_of_ble_eq_true rfl) (fun p e s m args below meth c hE hr => ?_)
  unfold fJ0_isLatin1_aae02 at hf
  refine x_pick [0] (L' := [(0, .ref (Y (200 + i0)))]) rfl ?_
  refine x_scomp hE lk_J0_38 dJ0_isLatin1_aae02_0 ?_
  refine x_if_eq hE 17 dJ0_isLatin1_aae02_3 (by decide) hf (fun hf => ?_) (fun hf => ?_)
  · refine x_iconst hE (0 : Int32) dJ0_isLatin1_aae02_17 (by decide) ?_
    replace hf := Option.some.inj hf
    subst hf
    exact x_ireturn hE (v := 0) hr rfl dJ0_isLatin1_aae02_18
  · refine x_aload_n hE 0 dJ0_isLatin1_aae02_6 rfl rfl ?_
    refine x_scod hE hi0 lk_J0_15 dJ0_isLatin1_aae02_7 ?_
    refine x_if_ne hE 17 dJ0_isLatin1_aae02_10 (by decide) hf (fun hf => ?_) (fun hf => ?_)
    · refine x_iconst hE (0 : Int32) dJ0_isLatin1_aae02_17 (by decide) ?_
      replace hf := Option.some.inj hf
      subst hf
      exact x_ireturn hE (v := 0) hr rfl dJ0_isLatin1_aae02_18
    · refine x_iconst hE (nI 1) dJ0_isLatin1_aae02_13 (by decide) ?_
      refine x_goto hE 18 dJ0_isLatin1_aae02_14 (by decide) ?_
      replace hf := Option.some.inj hf
      subst hf
      exact x_ireturn hE (v := nI 1) hr rfl dJ0_isLatin1_aae02_18
theorem yokJ0_isLatin1_aae02 : YOK yJ0_isLatin1_aae02 cJ0_isLatin1_aae02 1 0 (some .boolean) := ⟨mem_g 1357 (by decide +kernel) (by decide +kernel), mem_g 152 (by decide +kernel) (by decide +kernel), by decide +kernel, by decide +kernel, by decide +kernel⟩
theorem yvJ0_isLatin1_aae02 : YV yJ0_isLatin1_aae02 := ⟨mem_g 1355 (by decide +kernel) (by decide +kernel), mem_g 1356 (by decide +kernel) (by decide +kernel)⟩
theorem dJ3_checkIndex_8e157_0 : decode cJ3_checkIndex_8e157 0 = .ok (.iload_n 0, 1) := by decide +kernel
theorem dJ3_checkIndex_8e157_1 : decode cJ3_checkIndex_8e157 1 = .ok (.ifCond .lt 8, 3) := by decide +kernel
theorem dJ3_checkIndex_8e157_4 : decode cJ3_checkIndex_8e157 4 = .ok (.iload_n 0, 1) := by decide +kernel
theorem dJ3_checkIndex_8e157_5 : decode cJ3_checkIndex_8e157 5 = .ok (.iload_n 1, 1) := by decide +kernel
theorem dJ3_checkIndex_8e157_6 : decode cJ3_checkIndex_8e157 6 = .ok (.if_icmp .lt 10, 3) := by decide +kernel
theorem dJ3_checkIndex_8e157_9 : decode cJ3_checkIndex_8e157 9 = .ok (.aload_n 2, 1) := by decide +kernel
theorem dJ3_checkIndex_8e157_10 : decode cJ3_checkIndex_8e157 10 = .ok (.iload_n 0, 1) := by decide +kernel
theorem dJ3_checkIndex_8e157_11 : decode cJ3_checkIndex_8e157 11 = .ok (.iload_n 1, 1) := by decide +kernel
theorem dJ3_checkIndex_8e157_12 : decode cJ3_checkIndex_8e157 12 = .ok (.invokestatic 95, 3) := by decide +kernel
theorem dJ3_checkIndex_8e157_15 : decode cJ3_checkIndex_8e157 15 = .ok (.athrow, 1) := by decide +kernel
theorem dJ3_checkIndex_8e157_16 : decode cJ3_checkIndex_8e157 16 = .ok (.iload_n 0, 1) := by decide +kernel
theorem dJ3_checkIndex_8e157_17 : decode cJ3_checkIndex_8e157 17 = .ok (.ireturn, 1) := by decide +kernel
theorem mJ3_checkIndex_8e157_N (l : Launch) {Y : Nat → ClassId} {D : va_G} {σ : Nat → Nat} {np b0 : Nat} {M : Mc} {N : Md} {p0 : Int32} {p1 : Int32} {r : Int32} (hf : fJ3_checkIndex_8e157 p0 p1 = some r) : Met l yJ3_checkIndex_8e157 (.code yJ3_checkIndex_8e157 cJ3_checkIndex_8e157 3 (some .int) :: lw_g) (rmD 1) (PR Y D σ np b0 [.int p0, .int p1, .null] M N) (QR Y D σ np b0 (some (.int r)) M N) 0 0 (xA b0) := by
  refine x_met (by decide) (Nat.le_of_ble_eq_true rfl) (fun p e s m args below meth c hE hr => ?_)
  unfold fJ3_checkIndex_8e157 at hf
  refine x_pick [0, 1, 2] (L' := [(0, .int p0), (1, .int p1), (2, .null)]) rfl ?_
  refine x_iload_n hE 0 dJ3_checkIndex_8e157_0 rfl rfl ?_
  refine x_if_lt hE 9 dJ3_checkIndex_8e157_1 (by decide) hf (fun hf => ?_) (fun hf => ?_)
  · cases hf
  · refine x_iload_n hE 0 dJ3_checkIndex_8e157_4 rfl rfl ?_
    refine x_iload_n hE 1 dJ3_checkIndex_8e157_5 rfl rfl ?_
    refine x_icmp_lt hE 16 dJ3_checkIndex_8e157_6 (by decide) hf (fun hf => ?_) (fun hf => ?_)
    · refine x_iload_n hE 0 dJ3_checkIndex_8e157_16 rfl rfl ?_
      replace hf := Option.some.inj hf
      subst hf
      exact x_ireturn hE (v := p0) hr rfl dJ3_checkIndex_8e157_17
    · cases hf
theorem mJ3_checkIndex_8e157_R (l : Launch) {Y : Nat → ClassId} {D : va_G} {σ : Nat → Nat} {np b0 : Nat} {bt : Nat} {M : Mc} {N : Md} {p0 : Int32} {p1 : Int32} {r : Int32} (hf : fJ3_checkIndex_8e157 p0 p1 = some r) : Met l yJ3_checkIndex_8e157 (.code yJ3_checkIndex_8e157 cJ3_checkIndex_8e157 3 (some .int) :: lw_g) (rmD 1) (PR Y D σ np b0 [.int p0, .int p1, .ref bt] M N) (QR Y D σ np b0 (some (.int r)) M N) 0 0 (xA b0) := by
  refine x_met (by decide) (Nat.le_of_ble_eq_true rfl) (fun p e s m args below meth c hE hr => ?_)
  unfold fJ3_checkIndex_8e157 at hf
  refine x_pick [0, 1, 2] (L' := [(0, .int p0), (1, .int p1), (2, .ref bt)]) rfl ?_
  refine x_iload_n hE 0 dJ3_checkIndex_8e157_0 rfl rfl ?_
  refine x_if_lt hE 9 dJ3_checkIndex_8e157_1 (by decide) hf (fun hf => ?_) (fun hf => ?_)
  · cases hf
  · refine x_iload_n hE 0 dJ3_checkIndex_8e157_4 rfl rfl ?_
    refine x_iload_n hE 1 dJ3_checkIndex_8e157_5 rfl rfl ?_
    refine x_icmp_lt hE 16 dJ3_checkIndex_8e157_6 (by decide) hf (fun hf => ?_) (fun hf => ?_)
    · refine x_iload_n hE 0 dJ3_checkIndex_8e157_16 rfl rfl ?_
      replace hf := Option.some.inj hf
      subst hf
      exact x_ireturn hE (v := p0) hr rfl dJ3_checkIndex_8e157_17
    · cases hf
theorem yokJ3_checkIndex_8e157 : YOK yJ3_checkIndex_8e157 cJ3_checkIndex_8e157 3 3 (some .int) := ⟨mem_g 1368 (by decide +kernel) (by decide +kernel), mem_g 154 (by decide +kernel) (by decide +kernel), by decide +kernel, by decide +kernel, by decide +kernel⟩
theorem ysJ3_checkIndex_8e157 : Cond.static yJ3_checkIndex_8e157 ∈ lw_g := mem_g 1367 (by decide +kernel) (by decide +kernel)
theorem lk_J0_1053 : Cond.fieldLink RJ0 1053 "jdk/internal/util/Preconditions" "SIOOBE_FORMATTER" "Ljava/util/function/BiFunction;" ∈ lw_g := mem_g 1364 (by decide +kernel) (by decide +kernel)
theorem lk_J0_1059 : Cond.methodLink RJ0 1059 yJ3_checkIndex_8e157 ∈ lw_g := mem_g 1366 (by decide +kernel) (by decide +kernel)
theorem dJ0_checkIndex_df160_0 : decode cJ0_checkIndex_df160 0 = .ok (.iload_n 0, 1) := by decide +kernel
theorem dJ0_checkIndex_df160_1 : decode cJ0_checkIndex_df160 1 = .ok (.iload_n 1, 1) := by decide +kernel
theorem dJ0_checkIndex_df160_2 : decode cJ0_checkIndex_df160 2 = .ok (.getstatic 1053, 3) := by decide +kernel
theorem dJ0_checkIndex_df160_5 : decode cJ0_checkIndex_df160 5 = .ok (.invokestatic 1059, 3) := by decide +kernel
theorem dJ0_checkIndex_df160_8 : decode cJ0_checkIndex_df160 8 = .ok (.pop, 1) := by decide +kernel
theorem dJ0_checkIndex_df160_9 : decode cJ0_checkIndex_df160 9 = .ok (.return_, 1) := by decide +kernel
theorem mJ0_checkIndex_df160 (l : Launch) {Y : Nat → ClassId} {D : va_G} {σ : Nat → Nat} {np b0 : Nat} {M : Mc} {N : Md} {p0 : Int32} {p1 : Int32} {r : Unit} (hf : fJ0_checkIndex_df160 p0 p1 = some r) : Met l yJ0_checkIndex_df160 (.code yJ0_checkIndex_df160 cJ0_checkIndex_df160 2 none :: lw_g) (rmD 2) (PR Y D σ np b0 [.int p0, .int p1] M N) (QR Y D σ np b0 none M N) 0 0 (xA b0) := by
  refine x_met (by decide) (Nat.le_of_ble_eq_true rfl) (fun p e s m args below meth c hE hr => ?_)
  unfold fJ0_checkIndex_df160 at hf
  refine x_pick [0, 1] (L' := [(0, .int p0), (1, .int p1)]) rfl ?_
  refine x_iload_n hE 0 dJ0_checkIndex_df160_0 rfl rfl ?_
  refine x_iload_n hE 1 dJ0_checkIndex_df160_1 rfl rfl ?_
  refine x_ssio hE lk_J0_1053 dJ0_checkIndex_df160_2 ?_ (fun bt => ?_)
  · obtain ⟨v2, hc1, hf⟩ := bnd_some hf
    refine x_callS1 hE [.int p0, .int p1, .null] (rest := []) (v := .int v2) (c1 := M) (d1 := N) rfl yokJ3_checkIndex_8e157 ysJ3_checkIndex_8e157 lk_J0_1059 rfl rfl ⟨Nat.le_of_ble_eq_true rfl, Nat.le_of_ble_eq_true rfl⟩ ⟨Nat.zero_le _, Nat.zero_le _⟩ rfl (Nat.le_of_ble_eq_true rfl) dJ0_checkIndex_df160_5 (mJ3_checkIndex_8e157_N l hc1) ?_
    refine x_pop hE dJ0_checkIndex_df160_8 rfl ?_
    replace hf := Option.some.inj hf
    subst hf
    exact x_vreturn hE hr dJ0_checkIndex_df160_9
  · obtain ⟨v2, hc1, hf⟩ := bnd_some hf
    refine x_callS1 hE [.int p0, .int p1, .ref bt] (rest := []) (v := .int v2) (c1 := M) (d1 := N) rfl yokJ3_checkIndex_8e157 ysJ3_checkIndex_8e157 lk_J0_1059 rfl rfl ⟨Nat.le_of_ble_eq_true rfl, Nat.le_of_ble_eq_true rfl⟩ ⟨Nat.zero_le _, Nat.zero_le _⟩ rfl (Nat.le_of_ble_eq_true rfl) dJ0_checkIndex_df160_5 (mJ3_checkIndex_8e157_R l hc1) ?_
    refine x_pop hE dJ0_checkIndex_df160_8 rfl ?_
    replace hf := Option.some.inj hf
    subst hf
    exact x_vreturn hE hr dJ0_checkIndex_df160_9
theorem yokJ0_checkIndex_df160 : YOK yJ0_checkIndex_df160 cJ0_checkIndex_df160 2 2 none := ⟨mem_g 1363 (by decide +kernel) (by decide +kernel), mem_g 152 (by decide +kernel) (by decide +kernel), by decide +kernel, by decide +kernel, by decide +kernel⟩
theorem ysJ0_checkIndex_df160 : Cond.static yJ0_checkIndex_df160 ∈ lw_g := mem_g 1362 (by decide +kernel) (by decide +kernel)
theorem lk_J1_9 : Cond.methodLink RJ1 9 yJ0_checkIndex_df160 ∈ lw_g := mem_g 1361 (by decide +kernel) (by decide +kernel)
theorem dJ1_charAt_3b067_0 : decode cJ1_charAt_3b067 0 = .ok (.iload_n 1, 1) := by decide +kernel
theorem dJ1_charAt_3b067_1 : decode cJ1_charAt_3b067 1 = .ok (.aload_n 0, 1) := by decide +kernel
theorem dJ1_charAt_3b067_2 : decode cJ1_charAt_3b067 2 = .ok (.arraylength, 1) := by decide +kernel
theorem dJ1_charAt_3b067_3 : decode cJ1_charAt_3b067 3 = .ok (.invokestatic 9, 3) := by decide +kernel
theorem dJ1_charAt_3b067_6 : decode cJ1_charAt_3b067 6 = .ok (.aload_n 0, 1) := by decide +kernel
theorem dJ1_charAt_3b067_7 : decode cJ1_charAt_3b067 7 = .ok (.iload_n 1, 1) := by decide +kernel
theorem dJ1_charAt_3b067_8 : decode cJ1_charAt_3b067 8 = .ok (.baload, 1) := by decide +kernel
theorem dJ1_charAt_3b067_9 : decode cJ1_charAt_3b067 9 = .ok (.sipush 255, 3) := by decide +kernel
theorem dJ1_charAt_3b067_12 : decode cJ1_charAt_3b067 12 = .ok (.iand, 1) := by decide +kernel
theorem dJ1_charAt_3b067_13 : decode cJ1_charAt_3b067 13 = .ok (.i2c, 1) := by decide +kernel
theorem dJ1_charAt_3b067_14 : decode cJ1_charAt_3b067 14 = .ok (.ireturn, 1) := by decide +kernel
theorem mJ1_charAt_3b067 (l : Launch) {Y : Nat → ClassId} {D : va_G} {σ : Nat → Nat} {np b0 : Nat} {M : Mc} {N : Md} {i0 : Nat} {p0 : Int32} {r : Int32} (hi0 : i0 < 23) (hf : fJ1_charAt_3b067 M i0 p0 = some r) : Met l yJ1_charAt_3b067 (.code yJ1_charAt_3b067 cJ1_charAt_3b067 2 (some .char) :: lw_g) (rmD 3) (PR Y D σ np b0 [.ref (Y (300 + i0)), .int p0] M N) (QR Y D σ np b0 (some (.int r)) M N) 0 0 (xA b0) := by
  refine x_met (by decide) (Nat.le_of_ble_eq_true rfl) (fun p e s m args below meth c hE hr => ?_)
  unfold fJ1_charAt_3b067 at hf
  refine x_pick [0, 1] (L' := [(0, .ref (Y (300 + i0))), (1, .int p0)]) rfl ?_
  refine x_iload_n hE 1 dJ1_charAt_3b067_0 rfl rfl ?_
  refine x_aload_n hE 0 dJ1_charAt_3b067_1 rfl rfl ?_
  refine x_sblen hE hi0 dJ1_charAt_3b067_2 ?_
  obtain ⟨_, hc1, hf⟩ := bnd_some hf
  refine x_callS0 hE [.int p0, .int (nI (sN i0))] (rest := []) (c1 := M) (d1 := N) rfl yokJ0_checkIndex_df160 ysJ0_checkIndex_df160 lk_J1_9 rfl rfl ⟨Nat.le_of_ble_eq_true rfl, Nat.le_of_ble_eq_true rfl⟩ ⟨Nat.zero_le _, Nat.zero_le _⟩ rfl (Nat.le_of_ble_eq_true rfl) dJ1_charAt_3b067_3 (mJ0_checkIndex_df160 l hc1) ?_
  refine x_aload_n hE 0 dJ1_charAt_3b067_6 rfl rfl ?_
  refine x_iload_n hE 1 dJ1_charAt_3b067_7 rfl rfl ?_
  refine x_sbld hE hi0 dJ1_charAt_3b067_8 hf (fun hf => ?_)
  refine x_sipush hE (nI 255) dJ1_charAt_3b067_9 (by decide) ?_
  refine x_iand hE dJ1_charAt_3b067_12 ?_
  refine x_i2c hE dJ1_charAt_3b067_13 ?_
  replace hf := Option.some.inj hf
  subst hf
  exact x_ireturn hE (v := i2c5 ((sC i0 p0.toNatClampNeg) &&& (nI 255))) hr (nar_C0 _) dJ1_charAt_3b067_14
theorem yokJ1_charAt_3b067 : YOK yJ1_charAt_3b067 cJ1_charAt_3b067 2 2 (some .char) := ⟨mem_g 1360 (by decide +kernel) (by decide +kernel), mem_g 153 (by decide +kernel) (by decide +kernel), by decide +kernel, by decide +kernel, by decide +kernel⟩
theorem ysJ1_charAt_3b067 : Cond.static yJ1_charAt_3b067 ∈ lw_g := mem_g 1359 (by decide +kernel) (by decide +kernel)
theorem lk_J0_492 : Cond.methodLink RJ0 492 yJ0_isLatin1_aae02 ∈ lw_g := mem_g 1354 (by decide +kernel) (by decide +kernel)
theorem lk_J0_495 : Cond.methodLink RJ0 495 yJ1_charAt_3b067 ∈ lw_g := mem_g 1358 (by decide +kernel) (by decide +kernel)
theorem dJ0_charAt_5068e_0 : decode cJ0_charAt_5068e 0 = .ok (.aload_n 0, 1) := by decide +kernel
theorem dJ0_charAt_5068e_1 : decode cJ0_charAt_5068e 1 = .ok (.invokevirtual 492, 3) := by decide +kernel
theorem dJ0_charAt_5068e_4 : decode cJ0_charAt_5068e 4 = .ok (.ifCond .eq 12, 3) := by decide +kernel
theorem dJ0_charAt_5068e_7 : decode cJ0_charAt_5068e 7 = .ok (.aload_n 0, 1) := by decide +kernel
theorem dJ0_charAt_5068e_8 : decode cJ0_charAt_5068e 8 = .ok (.getfield 9, 3) := by decide +kernel
theorem dJ0_charAt_5068e_11 : decode cJ0_charAt_5068e 11 = .ok (.iload_n 1, 1) := by decide +kernel
theorem dJ0_charAt_5068e_12 : decode cJ0_charAt_5068e 12 = .ok (.invokestatic 495, 3) := by decide +kernel
theorem dJ0_charAt_5068e_15 : decode cJ0_charAt_5068e 15 = .ok (.ireturn, 1) := by decide +kernel
theorem dJ0_charAt_5068e_16 : decode cJ0_charAt_5068e 16 = .ok (.aload_n 0, 1) := by decide +kernel
theorem dJ0_charAt_5068e_17 : decode cJ0_charAt_5068e 17 = .ok (.getfield 9, 3) := by decide +kernel
theorem dJ0_charAt_5068e_20 : decode cJ0_charAt_5068e 20 = .ok (.iload_n 1, 1) := by decide +kernel
theorem dJ0_charAt_5068e_21 : decode cJ0_charAt_5068e 21 = .ok (.invokestatic 498, 3) := by decide +kernel
theorem dJ0_charAt_5068e_24 : decode cJ0_charAt_5068e 24 = .ok (.ireturn, 1) := by decide +kernel
theorem mJ0_charAt_5068e (l : Launch) {Y : Nat → ClassId} {D : va_G} {σ : Nat → Nat} {np b0 : Nat} {M : Mc} {N : Md} {i0 : Nat} {p0 : Int32} {r : Int32} (hi0 : i0 < 23) (hf : fJ0_charAt_5068e M i0 p0 = some r) : Met l yJ0_charAt_5068e (.code yJ0_charAt_5068e cJ0_charAt_5068e 2 (some .char) :: lw_g) (rmD 5) (PR Y D σ np b0 [.ref (Y (200 + i0)), .int p0] M N) (QR Y D σ np b0 (some (.int r)) M N) 0 0 (xA b0) := by
  refine x_met (by decide) (Nat.le_of_ble_eq_true rfl) (fun p e s m args below meth c hE hr => ?_)
  unfold fJ0_charAt_5068e at hf
  refine x_pick [0, 1] (L' := [(0, .ref (Y (200 + i0))), (1, .int p0)]) rfl ?_
  refine x_aload_n hE 0 dJ0_charAt_5068e_0 rfl rfl ?_
  obtain ⟨v2, hc1, hf⟩ := bnd_some hf
  refine x_callVS1 hE [] (rest := []) (v := .int v2) (c1 := M) (d1 := N) rfl yokJ0_isLatin1_aae02 yvJ0_isLatin1_aae02 lk_J0_492 rfl hi0 rfl rfl ⟨Nat.le_of_ble_eq_true rfl, Nat.le_of_ble_eq_true rfl⟩ ⟨Nat.zero_le _, Nat.zero_le _⟩ rfl (Nat.le_of_ble_eq_true rfl) dJ0_charAt_5068e_1 (mJ0_isLatin1_aae02 l hi0 hc1) ?_
  refine x_if_eq hE 16 dJ0_charAt_5068e_4 (by decide) hf (fun hf => ?_) (fun hf => ?_)
  · cases hf
  · refine x_aload_n hE 0 dJ0_charAt_5068e_7 rfl rfl ?_
    refine x_sval hE hi0 lk_J0_9 dJ0_charAt_5068e_8 ?_
    refine x_iload_n hE 1 dJ0_charAt_5068e_11 rfl rfl ?_
    obtain ⟨v4, hc3, hf⟩ := bnd_some hf
    refine x_callS1 hE [.ref (Y (300 + i0)), .int p0] (rest := []) (v := .int v4) (c1 := M) (d1 := N) rfl yokJ1_charAt_3b067 ysJ1_charAt_3b067 lk_J0_495 rfl rfl ⟨Nat.le_of_ble_eq_true rfl, Nat.le_of_ble_eq_true rfl⟩ ⟨Nat.zero_le _, Nat.zero_le _⟩ rfl (Nat.le_of_ble_eq_true rfl) dJ0_charAt_5068e_12 (mJ1_charAt_3b067 l hi0 hc3) ?_
    have hz := (chp_some hf).1
    replace hf := (chp_some hf).2
    replace hf := Option.some.inj hf
    subst hf
    exact x_ireturn hE (v := v4) hr (nar_C hz) dJ0_charAt_5068e_15
theorem yokJ0_charAt_5068e : YOK yJ0_charAt_5068e cJ0_charAt_5068e 2 1 (some .char) := ⟨mem_g 1353 (by decide +kernel) (by decide +kernel), mem_g 152 (by decide +kernel) (by decide +kernel), by decide +kernel, by decide +kernel, by decide +kernel⟩
theorem yvJ0_charAt_5068e : YV yJ0_charAt_5068e := ⟨mem_g 1351 (by decide +kernel) (by decide +kernel), mem_g 1352 (by decide +kernel) (by decide +kernel)⟩
theorem dX11_inside_0 : decode cX11_inside 0 = .ok (.iload_n 0, 1) := by decide +kernel
theorem dX11_inside_1 : decode cX11_inside 1 = .ok (.ifCond .lt 12, 3) := by decide +kernel
theorem dX11_inside_4 : decode cX11_inside 4 = .ok (.iload_n 0, 1) := by decide +kernel
theorem dX11_inside_5 : decode cX11_inside 5 = .ok (.iload_n 1, 1) := by decide +kernel
theorem dX11_inside_6 : decode cX11_inside 6 = .ok (.if_icmp .ge 7, 3) := by decide +kernel
theorem dX11_inside_9 : decode cX11_inside 9 = .ok (.iconst 1, 1) := by decide +kernel
theorem dX11_inside_10 : decode cX11_inside 10 = .ok (.goto 4, 3) := by decide +kernel
theorem dX11_inside_13 : decode cX11_inside 13 = .ok (.iconst 0, 1) := by decide +kernel
theorem dX11_inside_14 : decode cX11_inside 14 = .ok (.ireturn, 1) := by decide +kernel
theorem mX11_inside (l : Launch) {Y : Nat → ClassId} {D : va_G} {σ : Nat → Nat} {np b0 : Nat} {M : Mc} {N : Md} {p0 : Int32} {p1 : Int32} {r : Int32} (hf : fX11_inside p0 p1 = some r) : Met l yX11_inside (.code yX11_inside cX11_inside 2 (some .boolean) :: lw_g) (rmD 1) (PR Y D σ np b0 [.int p0, .int p1] M N) (QR Y D σ np b0 (some (.int r)) M N) 0 0 (xA b0) := by
  refine x_met (by decide) (Nat.le_of_ble_eq_true rfl) (fun p e s m args below meth c hE hr => ?_)
  unfold fX11_inside at hf
  refine x_pick [0, 1] (L' := [(0, .int p0), (1, .int p1)]) rfl ?_
  refine x_iload_n hE 0 dX11_inside_0 rfl rfl ?_
  refine x_if_lt hE 13 dX11_inside_1 (by decide) hf (fun hf => ?_) (fun hf => ?_)
  · refine x_iconst hE (0 : Int32) dX11_inside_13 (by decide) ?_
    replace hf := Option.some.inj hf
    subst hf
    exact x_ireturn hE (v := 0) hr rfl dX11_inside_14
  · refine x_iload_n hE 0 dX11_inside_4 rfl rfl ?_
    refine x_iload_n hE 1 dX11_inside_5 rfl rfl ?_
    refine x_icmp_ge hE 13 dX11_inside_6 (by decide) hf (fun hf => ?_) (fun hf => ?_)
    · refine x_iconst hE (0 : Int32) dX11_inside_13 (by decide) ?_
      replace hf := Option.some.inj hf
      subst hf
      exact x_ireturn hE (v := 0) hr rfl dX11_inside_14
    · refine x_iconst hE (nI 1) dX11_inside_9 (by decide) ?_
      refine x_goto hE 14 dX11_inside_10 (by decide) ?_
      replace hf := Option.some.inj hf
      subst hf
      exact x_ireturn hE (v := nI 1) hr rfl dX11_inside_14
theorem yokX11_inside : YOK yX11_inside cX11_inside 2 2 (some .boolean) := ⟨mem_g 624 (by decide +kernel) (by decide +kernel), mem_g 131 (by decide +kernel) (by decide +kernel), by decide +kernel, by decide +kernel, by decide +kernel⟩
theorem ysX11_inside : Cond.static yX11_inside ∈ lw_g := mem_g 623 (by decide +kernel) (by decide +kernel)
theorem dX11_zoneOf_0 : decode cX11_zoneOf 0 = .ok (.iload_n 0, 1) := by decide +kernel
theorem dX11_zoneOf_1 : decode cX11_zoneOf 1 = .ok (.bipush 12, 2) := by decide +kernel
theorem dX11_zoneOf_3 : decode cX11_zoneOf 3 = .ok (.irem, 1) := by decide +kernel
theorem dX11_zoneOf_4 : decode cX11_zoneOf 4 = .ok (.iconst 3, 1) := by decide +kernel
theorem dX11_zoneOf_5 : decode cX11_zoneOf 5 = .ok (.idiv, 1) := by decide +kernel
theorem dX11_zoneOf_6 : decode cX11_zoneOf 6 = .ok (.ireturn, 1) := by decide +kernel
theorem mX11_zoneOf (l : Launch) {Y : Nat → ClassId} {D : va_G} {σ : Nat → Nat} {np b0 : Nat} {M : Mc} {N : Md} {p0 : Int32} {r : Int32} (hf : fX11_zoneOf p0 = some r) : Met l yX11_zoneOf (.code yX11_zoneOf cX11_zoneOf 1 (some .int) :: lw_g) (rmD 1) (PR Y D σ np b0 [.int p0] M N) (QR Y D σ np b0 (some (.int r)) M N) 0 0 (xA b0) := by
  refine x_met (by decide) (Nat.le_of_ble_eq_true rfl) (fun p e s m args below meth c hE hr => ?_)
  unfold fX11_zoneOf at hf
  refine x_pick [0] (L' := [(0, .int p0)]) rfl ?_
  refine x_iload_n hE 0 dX11_zoneOf_0 rfl rfl ?_
  refine x_bipush hE (nI 12) dX11_zoneOf_1 (by decide) ?_
  refine x_iremC hE dX11_zoneOf_3 (by decide) ?_
  refine x_iconst hE (nI 3) dX11_zoneOf_4 (by decide) ?_
  refine x_idivC hE dX11_zoneOf_5 (by decide) ?_
  replace hf := Option.some.inj hf
  subst hf
  exact x_ireturn hE (v := (irm p0 (nI 12)) / (nI 3)) hr rfl dX11_zoneOf_6
theorem yokX11_zoneOf : YOK yX11_zoneOf cX11_zoneOf 1 1 (some .int) := ⟨mem_g 923 (by decide +kernel) (by decide +kernel), mem_g 131 (by decide +kernel) (by decide +kernel), by decide +kernel, by decide +kernel, by decide +kernel⟩
theorem ysX11_zoneOf : Cond.static yX11_zoneOf ∈ lw_g := mem_g 922 (by decide +kernel) (by decide +kernel)
