theorem dJ7_fill_53178_0 : decode cJ7_fill_53178 0 = .ok (.iconst 0, 1) := by decide +kernel
theorem dJ7_fill_53178_1 : decode cJ7_fill_53178 1 = .ok (.istore_n 2, 1) := by decide +kernel
theorem dJ7_fill_53178_2 : decode cJ7_fill_53178 2 = .ok (.aload_n 0, 1) := by decide +kernel
theorem dJ7_fill_53178_3 : decode cJ7_fill_53178 3 = .ok (.arraylength, 1) := by decide +kernel
theorem dJ7_fill_53178_4 : decode cJ7_fill_53178 4 = .ok (.istore_n 3, 1) := by decide +kernel
theorem dJ7_fill_53178_5 : decode cJ7_fill_53178 5 = .ok (.iload_n 2, 1) := by decide +kernel
theorem dJ7_fill_53178_6 : decode cJ7_fill_53178 6 = .ok (.iload_n 3, 1) := by decide +kernel
theorem dJ7_fill_53178_7 : decode cJ7_fill_53178 7 = .ok (.if_icmp .ge 13, 3) := by decide +kernel
theorem dJ7_fill_53178_10 : decode cJ7_fill_53178 10 = .ok (.aload_n 0, 1) := by decide +kernel
theorem dJ7_fill_53178_11 : decode cJ7_fill_53178 11 = .ok (.iload_n 2, 1) := by decide +kernel
theorem dJ7_fill_53178_12 : decode cJ7_fill_53178 12 = .ok (.iload_n 1, 1) := by decide +kernel
theorem dJ7_fill_53178_13 : decode cJ7_fill_53178 13 = .ok (.iastore, 1) := by decide +kernel
theorem dJ7_fill_53178_14 : decode cJ7_fill_53178 14 = .ok (.iinc 2 1, 3) := by decide +kernel
theorem dJ7_fill_53178_17 : decode cJ7_fill_53178 17 = .ok (.goto (-12), 3) := by decide +kernel
theorem dJ7_fill_53178_20 : decode cJ7_fill_53178 20 = .ok (.return_, 1) := by decide +kernel
def fJ7_fill_53178_L5 (n0 : Nat) (k0 : Nat) : Nat → Mc → Int32 → Int32 → Int32 → Option (Mc)
  | 0, _, _, _, _ => none
  | n + 1, M, X1, X2, X3 => (if X3 ≤ X2 then (some (M)) else chk X2 n0 (lt (wr M k0 X2.toNatClampNeg X1) fun M2 => (fJ7_fill_53178_L5 n0 k0 n M2 X1 (X2 + nI 1) X3)))
theorem wJ7_fill_53178_L5 {p : Program} {l : Launch} {e : Env} {s : State} {m : MethodId} {args : Array Value} {below : List Frame} {meth : Method} {c : Code} {Y : Nat → ClassId} {D : va_G} {σ : Nat → Nat} {np b0 : Nat} {n0 : Nat} {k0 : Nat} {r : Mc} (hE : EOK p s m args meth c cJ7_fill_53178 4 RJ7 Y D σ np b0) (hr : meth.sig.returnType = none) (hk0 : k0 < 146 ∧ kd k0 = (100, n0, [])) : ∀ (n : Nat) (M : Mc) (N : Md) (X1 : Int32) (X2 : Int32) (X3 : Int32), fJ7_fill_53178_L5 n0 k0 n M X1 X2 X3 = some r → Xw p l e (rmD 1) s m args below meth c 4 Y D σ np b0 0 0 (MQ below (QR Y D σ np b0 none r N) args s 0 0 (xA b0)) 5 [(0, .ref (σ k0)), (1, .int X1), (2, .int X2), (3, .int X3)] [] M N := by
  intro n
  induction n with
  | zero =>
    intro M N X1 X2 X3 hf
    cases hf
  | succ n ih =>
    intro M N X1 X2 X3 hf
    rw [fJ7_fill_53178_L5.eq_2] at hf
    refine x_iload_n hE 2 dJ7_fill_53178_5 rfl rfl ?_
    refine x_iload_n hE 3 dJ7_fill_53178_6 rfl rfl ?_
    refine x_icmp_ge hE 20 dJ7_fill_53178_7 (by decide) hf (fun hf => ?_) (fun hf => ?_)
    · replace hf := Option.some.inj hf
      subst hf
      exact x_vreturn hE hr dJ7_fill_53178_20
    · refine x_aload_n hE 0 dJ7_fill_53178_10 rfl rfl ?_
      refine x_iload_n hE 2 dJ7_fill_53178_11 rfl rfl ?_
      refine x_iload_n hE 1 dJ7_fill_53178_12 rfl rfl ?_
      refine x_iast hE (hE.kd hk0) dJ7_fill_53178_13 hf (fun M2 hf => ?_)
      refine x_iinc hE 2 (X2 + nI 1) (L' := [(2, .int (X2 + nI 1)), (0, .ref (σ k0)), (1, .int X1), (3, .int X3)]) dJ7_fill_53178_14 rfl rfl (by decide) rfl ?_
      refine x_pick [1, 2, 0, 3] (L' := [(0, .ref (σ k0)), (1, .int X1), (2, .int (X2 + nI 1)), (3, .int X3)]) rfl ?_
      refine x_goto hE 5 dJ7_fill_53178_17 (by decide) ?_
      exact ih _ _ _ _ _ hf
def fJ7_fill_53178 (M : Mc) (n0 : Nat) (k0 : Nat) (p0 : Int32) : Option (Mc) := lt (nI n0) fun v1 => (fJ7_fill_53178_L5 n0 k0 FU M p0 0 v1)
theorem mJ7_fill_53178 (l : Launch) {Y : Nat → ClassId} {D : va_G} {σ : Nat → Nat} {np b0 : Nat} {M : Mc} {N : Md} {n0 : Nat} {k0 : Nat} {p0 : Int32} {r : Mc} (hk0 : k0 < 146 ∧ kd k0 = (100, n0, [])) (hf : fJ7_fill_53178 M n0 k0 p0 = some r) : Met l yJ7_fill_53178 (.code yJ7_fill_53178 cJ7_fill_53178 4 none :: lw_g) (rmD 1) (PR Y D σ np b0 [.ref (σ k0), .int p0] M N) (QR Y D σ np b0 none r N) 0 0 (xA b0) := by
  refine x_met (by decide) (Nat.le_of_ble_eq_true rfl) (fun p e s m args below meth c hE hr => ?_)
  unfold fJ7_fill_53178 at hf
  refine x_pick [0, 1] (L' := [(0, .ref (σ k0)), (1, .int p0)]) rfl ?_
  refine x_iconst hE (0 : Int32) dJ7_fill_53178_0 (by decide) ?_
  refine x_istore_n hE (L' := [(2, .int 0), (0, .ref (σ k0)), (1, .int p0)]) dJ7_fill_53178_1 rfl (by decide) rfl ?_
  refine x_pick [1, 2, 0] (L' := [(0, .ref (σ k0)), (1, .int p0), (2, .int 0)]) rfl ?_
  refine x_aload_n hE 0 dJ7_fill_53178_2 rfl rfl ?_
  refine x_alen hE (nI n0) (hE.kd hk0) (Or.inl rfl) rfl dJ7_fill_53178_3 ?_
  refine x_ltI hf (fun v1 hf => ?_)
  refine x_istore_n hE (L' := [(3, .int v1), (0, .ref (σ k0)), (1, .int p0), (2, .int 0)]) dJ7_fill_53178_4 rfl (by decide) rfl ?_
  refine x_pick [1, 2, 3, 0] (L' := [(0, .ref (σ k0)), (1, .int p0), (2, .int 0), (3, .int v1)]) rfl ?_
  exact wJ7_fill_53178_L5 hE hr hk0 FU _ _ _ _ _ hf
theorem yokJ7_fill_53178 : YOK yJ7_fill_53178 cJ7_fill_53178 4 2 none := ⟨mem_g 200 (by decide +kernel) (by decide +kernel), mem_g 135 (by decide +kernel) (by decide +kernel), by decide +kernel, by decide +kernel, by decide +kernel⟩
theorem ysJ7_fill_53178 : Cond.static yJ7_fill_53178 ∈ lw_g := mem_g 199 (by decide +kernel) (by decide +kernel)
theorem dX11_inside_0 : decode cX11_inside 0 = .ok (.iload_n 0, 1) := by decide +kernel
theorem dX11_inside_1 : decode cX11_inside 1 = .ok (.ifCond .lt 12, 3) := by decide +kernel
theorem dX11_inside_4 : decode cX11_inside 4 = .ok (.iload_n 0, 1) := by decide +kernel
theorem dX11_inside_5 : decode cX11_inside 5 = .ok (.iload_n 1, 1) := by decide +kernel
theorem dX11_inside_6 : decode cX11_inside 6 = .ok (.if_icmp .ge 7, 3) := by decide +kernel
theorem dX11_inside_9 : decode cX11_inside 9 = .ok (.iconst 1, 1) := by decide +kernel
theorem dX11_inside_10 : decode cX11_inside 10 = .ok (.goto 4, 3) := by decide +kernel
theorem dX11_inside_13 : decode cX11_inside 13 = .ok (.iconst 0, 1) := by decide +kernel
theorem dX11_inside_14 : decode cX11_inside 14 = .ok (.ireturn, 1) := by decide +kernel
def fX11_inside (p0 : Int32) (p1 : Int32) : Option (Int32) := (if p0 < 0 then (some (0)) else (if p1 ≤ p0 then (some (0)) else (some ((nI 1)))))
theorem mX11_inside (l : Launch) {Y : Nat → ClassId} {D : va_G} {σ : Nat → Nat} {np b0 : Nat} {M : Mc} {N : Md} {p0 : Int32} {p1 : Int32} {r : Int32} (hf : fX11_inside p0 p1 = some r) : Met l yX11_inside (.code yX11_inside cX11_inside 2 (some .boolean) :: lw_g) (rmD 1) (PR Y D σ np b0 [.int p0, .int p1] M N) (QR Y D σ np b0 (some (.int r)) M N) 0 0 (xA b0) := by
  refine x_met (by decide) (Nat.le_of_ble_eq_true rfl) (fun p e s m args below meth c hE hr => ?_)
  unfold fX11_inside at hf
  refine x_pick [0, 1] (L' := [(0, .int p0), (1, .int p1)]) rfl ?_
  refine x_iload_n hE 0 dX11_inside_0 rfl rfl ?_
  refine x_if_lt hE 13 dX11_inside_1 (by decide) hf (fun hf => ?_) (fun hf => ?_)
  · refine x_iconst hE (0 : Int32) dX11_inside_13 (by decide) ?_
    replace hf := Option.some.inj hf
    subst hf
    exact x_ireturn hE (v := 0) hr rfl dX11_inside_14
  · refine x_iload_n hE 0 dX11_inside_4 rfl rfl ?_
    refine x_iload_n hE 1 dX11_inside_5 rfl rfl ?_
    refine x_icmp_ge hE 13 dX11_inside_6 (by decide) hf (fun hf => ?_) (fun hf => ?_)
    · refine x_iconst hE (0 : Int32) dX11_inside_13 (by decide) ?_
      replace hf := Option.some.inj hf
      subst hf
      exact x_ireturn hE (v := 0) hr rfl dX11_inside_14
    · refine x_iconst hE (nI 1) dX11_inside_9 (by decide) ?_
      refine x_goto hE 14 dX11_inside_10 (by decide) ?_
      replace hf := Option.some.inj hf
      subst hf
      exact x_ireturn hE (v := nI 1) hr rfl dX11_inside_14
theorem yokX11_inside : YOK yX11_inside cX11_inside 2 2 (some .boolean) := ⟨mem_g 627 (by decide +kernel) (by decide +kernel), mem_g 131 (by decide +kernel) (by decide +kernel), by decide +kernel, by decide +kernel, by decide +kernel⟩
theorem ysX11_inside : Cond.static yX11_inside ∈ lw_g := mem_g 626 (by decide +kernel) (by decide +kernel)
theorem dX11_zoneOf_0 : decode cX11_zoneOf 0 = .ok (.iload_n 0, 1) := by decide +kernel
theorem dX11_zoneOf_1 : decode cX11_zoneOf 1 = .ok (.bipush 12, 2) := by decide +kernel
theorem dX11_zoneOf_3 : decode cX11_zoneOf 3 = .ok (.irem, 1) := by decide +kernel
theorem dX11_zoneOf_4 : decode cX11_zoneOf 4 = .ok (.iconst 3, 1) := by decide +kernel
theorem dX11_zoneOf_5 : decode cX11_zoneOf 5 = .ok (.idiv, 1) := by decide +kernel
theorem dX11_zoneOf_6 : decode cX11_zoneOf 6 = .ok (.ireturn, 1) := by decide +kernel
def fX11_zoneOf (p0 : Int32) : Option (Int32) := (some (((irm p0 (nI 12)) / (nI 3))))
theorem mX11_zoneOf (l : Launch) {Y : Nat → ClassId} {D : va_G} {σ : Nat → Nat} {np b0 : Nat} {M : Mc} {N : Md} {p0 : Int32} {r : Int32} (hf : fX11_zoneOf p0 = some r) : Met l yX11_zoneOf (.code yX11_zoneOf cX11_zoneOf 1 (some .int) :: lw_g) (rmD 1) (PR Y D σ np b0 [.int p0] M N) (QR Y D σ np b0 (some (.int r)) M N) 0 0 (xA b0) := by
  refine x_met (by decide) (Nat.le_of_ble_eq_true rfl) (fun p e s m args below meth c hE hr => ?_)
  unfold fX11_zoneOf at hf
  refine x_pick [0] (L' := [(0, .int p0)]) rfl ?_
  refine x_iload_n hE 0 dX11_zoneOf_0 rfl rfl ?_
  refine x_bipush hE (nI 12) dX11_zoneOf_1 (by decide) ?_
  refine x_iremC hE dX11_zoneOf_3 (by decide) ?_
  refine x_iconst hE (nI 3) dX11_zoneOf_4 (by decide) ?_
  refine x_idivC hE dX11_zoneOf_5 (by decide) ?_
  replace hf := Option.some.inj hf
  subst hf
  exact x_ireturn hE (v := (irm p0 (nI 12)) / (nI 3)) hr rfl dX11_zoneOf_6
theorem yokX11_zoneOf : YOK yX11_zoneOf cX11_zoneOf 1 1 (some .int) := ⟨mem_g 926 (by decide +kernel) (by decide +kernel), mem_g 131 (by decide +kernel) (by decide +kernel), by decide +kernel, by decide +kernel, by decide +kernel⟩
theorem ysX11_zoneOf : Cond.static yX11_zoneOf ∈ lw_g := mem_g 925 (by decide +kernel) (by decide +kernel)
