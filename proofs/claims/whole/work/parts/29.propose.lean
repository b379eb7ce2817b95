section XB
variable {p : Program} {l : Launch} {e : Env} {R : Room} {s : State} {m : MethodId} {args : Array Value} {below : List Frame} {meth : Method} {c : Code} {nL : Nat} {Y : Nat → ClassId} {D : va_G} {σ : Nat → Nat} {np b0 cells slots : Nat} {Q : State → Prop} {pc : Nat} {L : List (Nat × Value)} {rest : List Value} {cm : Mc} {dm : Md} {cc : ByteArray} {own : String}
theorem nI_nat {z : Nat} (h : z < 2147483648) : (nI z).toNatClampNeg = z := by
  show (Int32.ofNat z).toInt.toNat = z
  rw [Int32.toInt_ofNat_of_lt h]
  rfl
/-- a statute is written into the book -/
theorem x_aast (hE : EOK p s m args meth c cc nL own Y D σ np b0) {z : Nat} {β : Type} {r : β} {f : Mc → Option β} {i : Int32} (hz : isStat np z) (hd : decode cc pc = .ok (.aastore, 1)) (hf : chk i 12 (chp (z < 2147483648) (lt (wr cm 16 i.toNatClampNeg (nI z)) f)) = some r) (kk : ∀ c1 : Mc, f c1 = some r → Xw p l e R s m args below meth c nL Y D σ np b0 cells slots Q (pc + 1) L rest c1 dm) : Xw p l e R s m args below meth c nL Y D σ np b0 cells slots Q pc L (.ref (σ z) :: .int i :: .ref (σ 16) :: rest) cm dm := by
  intro H locs ls hP hS hB hl
  have hin := (chk_some hf).1
  obtain ⟨hz31, hf2⟩ := chp_some (chk_some hf).2
  have hk := kO_8 hz
  have h16 : 16 < np := Nat.lt_of_lt_of_le (by decide) hE.2.2.2.2.2.2.2.2.2.1
  have k16 : kd 16 = (105, 12, []) := by decide +kernel
  have he := wl_at (Y := Y) (σ := σ) (c := cm) (d := dm) (k := 16) ⟨h16, rfl⟩
  rw [k16] at he
  have hv := wl_at (Y := Y) (σ := σ) (c := cm) (d := dm) (kn_of hk (by decide))
  rw [hk.2, kE_obj (show (8 : Nat) < 100 by decide)] at hv
  have hnat := nI_nat hz31
  have hne : ¬ nI z = 0 := fun q => by
    rw [q] at hnat
    have h0 : z = 0 := hnat.symm.trans (by decide)
    unfold isStat at hz
    omega
  refine va_astq hE.1 hE.2.1 hE.2.2.2.2.2.2.1 hP (wl_D hE.2.2.2.2.2.2.2.1) hS (ix 16) 5 (ix z) 8 (r := (RX8, TX8, 4)) he rfl hv rfl hin hd (fun H1 locs1 hP1 hD1 hS1 => ?_)
  have e : kE Y σ (kd 16) 16 (upd (cm 16) i.toNatClampNeg (nI z)) (dm 16) = .inl (Y 5, 12, .inr (.inr (.inr (.inr (va_up (fun j => if cm 16 j = 0 then none else some (σ (cm 16 j).toNatClampNeg)) i.toNatClampNeg (some (σ z))))))) := by
    rw [k16]
    refine congrArg (fun g => (Sum.inl (Y 5, 12, .inr (.inr (.inr (.inr g)))) : va_E)) (funext fun j => ?_)
    show (if upd (cm 16) i.toNatClampNeg (nI z) j = 0 then none else some (σ (upd (cm 16) i.toNatClampNeg (nI z) j).toNatClampNeg)) = va_up _ _ _ j
    unfold upd va_up
    by_cases hj : j = i.toNatClampNeg
    · simp [hj, hne, hnat]
    · simp [hj]
  rw [← e, wl_set (k := 16) ⟨h16, rfl⟩, wr_up] at hP1
  refine kk _ hf2 H1 locs1 ls hP1 hS1 (fun j hj => ?_) hl
  by_cases hji : j = i.toNatClampNeg
  · right
    have : wr cm 16 i.toNatClampNeg (nI z) 16 j = nI z := if_pos ⟨rfl, hji⟩
    rw [this, hnat]
    exact hz
  · have : wr cm 16 i.toNatClampNeg (nI z) 16 j = cm 16 j := if_neg (fun q => hji q.2)
    rw [this]
    exact hB j hj
end XB
theorem dX2_propose_0 : decode cX2_propose 0 = .ok (.aload_n 0, 1) := by decide +kernel
theorem dX2_propose_1 : decode cX2_propose 1 = .ok (.getfield 46, 3) := by decide +kernel
theorem dX2_propose_4 : decode cX2_propose 4 = .ok (.bipush 12, 2) := by decide +kernel
theorem dX2_propose_6 : decode cX2_propose 6 = .ok (.invokestatic 59, 3) := by decide +kernel
theorem dX2_propose_9 : decode cX2_propose 9 = .ok (.ifCond .eq 18, 3) := by decide +kernel
theorem dX2_propose_12 : decode cX2_propose 12 = .ok (.aload_n 0, 1) := by decide +kernel
theorem dX2_propose_13 : decode cX2_propose 13 = .ok (.getfield 46, 3) := by decide +kernel
theorem dX2_propose_16 : decode cX2_propose 16 = .ok (.aload_n 0, 1) := by decide +kernel
theorem dX2_propose_17 : decode cX2_propose 17 = .ok (.getfield 42, 3) := by decide +kernel
theorem dX2_propose_20 : decode cX2_propose 20 = .ok (.arraylength, 1) := by decide +kernel
theorem dX2_propose_21 : decode cX2_propose 21 = .ok (.invokestatic 59, 3) := by decide +kernel
theorem dX2_propose_24 : decode cX2_propose 24 = .ok (.ifCond .ne 5, 3) := by decide +kernel
theorem dX2_propose_27 : decode cX2_propose 27 = .ok (.iconst (-1), 1) := by decide +kernel
theorem dX2_propose_28 : decode cX2_propose 28 = .ok (.ireturn, 1) := by decide +kernel
theorem dX2_propose_29 : decode cX2_propose 29 = .ok (.aload_n 0, 1) := by decide +kernel
theorem dX2_propose_30 : decode cX2_propose 30 = .ok (.getfield 42, 3) := by decide +kernel
theorem dX2_propose_33 : decode cX2_propose 33 = .ok (.aload_n 0, 1) := by decide +kernel
theorem dX2_propose_34 : decode cX2_propose 34 = .ok (.getfield 46, 3) := by decide +kernel
theorem dX2_propose_37 : decode cX2_propose 37 = .ok (.aload_n 1, 1) := by decide +kernel
theorem dX2_propose_38 : decode cX2_propose 38 = .ok (.aastore, 1) := by decide +kernel
theorem dX2_propose_39 : decode cX2_propose 39 = .ok (.aload_n 0, 1) := by decide +kernel
theorem dX2_propose_40 : decode cX2_propose 40 = .ok (.getfield 18, 3) := by decide +kernel
theorem dX2_propose_43 : decode cX2_propose 43 = .ok (.aload_n 0, 1) := by decide +kernel
theorem dX2_propose_44 : decode cX2_propose 44 = .ok (.getfield 46, 3) := by decide +kernel
theorem dX2_propose_47 : decode cX2_propose 47 = .ok (.iconst (-1), 1) := by decide +kernel
theorem dX2_propose_48 : decode cX2_propose 48 = .ok (.iastore, 1) := by decide +kernel
theorem dX2_propose_49 : decode cX2_propose 49 = .ok (.aload_n 0, 1) := by decide +kernel
theorem dX2_propose_50 : decode cX2_propose 50 = .ok (.dup, 1) := by decide +kernel
theorem dX2_propose_51 : decode cX2_propose 51 = .ok (.getfield 46, 3) := by decide +kernel
theorem dX2_propose_54 : decode cX2_propose 54 = .ok (.dup_x1, 1) := by decide +kernel
theorem dX2_propose_55 : decode cX2_propose 55 = .ok (.iconst 1, 1) := by decide +kernel
theorem dX2_propose_56 : decode cX2_propose 56 = .ok (.iadd, 1) := by decide +kernel
theorem dX2_propose_57 : decode cX2_propose 57 = .ok (.putfield 46, 3) := by decide +kernel
theorem dX2_propose_60 : decode cX2_propose 60 = .ok (.ireturn, 1) := by decide +kernel
theorem mX2_propose (l : Launch) {Y : Nat → ClassId} {D : va_G} {σ : Nat → Nat} {np b0 : Nat} {M : Mc} {N : Md} {co : Nat} {z : Nat} {r : Int32 × Mc} (hco : is2 co) (hz : isStat np z) (hf : fX2_propose M co z = some r) : Met l yX2_propose (.code yX2_propose cX2_propose 2 (some .int) :: lw_g) (rmD 2) (PR Y D σ np b0 [.ref (σ co), .ref (σ z)] M N) (QR Y D σ np b0 (some (.int r.1)) r.2 N) 0 0 (xA b0) := by
  refine x_met (by decide) (Nat.le_of_ble_eq_true rfl) (fun p e s m args below meth c hE hr => ?_)
  unfold fX2_propose at hf
  refine x_pick [0, 1] (L' := [(0, .ref (σ co)), (1, .ref (σ z))]) rfl ?_
  refine x_aload_n hE 0 dX2_propose_0 rfl rfl ?_
  refine x_getI hE cl_2 (hE.kd (kO_2 hco)) (by decide) 1 rfl (by decide) lk_X2_46 dX2_propose_1 ?_
  refine x_bipush hE (nI 12) dX2_propose_4 (by decide) ?_
  obtain ⟨v2, hc1, hf⟩ := bnd_some hf
  refine x_callSN1 hE [.int (M co 1), .int (nI 12)] (rest := []) (v := .int v2) (c1 := M) (d1 := N) rfl yokX11_inside ysX11_inside lk_X2_59 rfl rfl ⟨Nat.le_of_ble_eq_true rfl, Nat.le_of_ble_eq_true rfl⟩ ⟨Nat.zero_le _, Nat.zero_le _⟩ rfl (Nat.le_of_ble_eq_true rfl) dX2_propose_6 (mX11_inside l hc1) ?_
  refine x_if_eq hE 27 dX2_propose_9 (by decide) hf (fun hf => ?_) (fun hf => ?_)
  · refine x_iconst hE (-1) dX2_propose_27 (by decide) ?_
    replace hf := Option.some.inj hf
    subst hf
    exact x_ireturn hE (v := (-1)) hr rfl dX2_propose_28
  · refine x_aload_n hE 0 dX2_propose_12 rfl rfl ?_
    refine x_getI hE cl_2 (hE.kd (kO_2 hco)) (by decide) 1 rfl (by decide) lk_X2_46 dX2_propose_13 ?_
    refine x_aload_n hE 0 dX2_propose_16 rfl rfl ?_
    refine x_getR hE cl_2 (hE.kd (kO_2 hco)) (by decide) 0 (16) rfl (by decide) lk_X2_42 dX2_propose_17 ?_
    refine x_alen hE (nI 12) (hE.kd kA_book) (Or.inr (Or.inr rfl)) rfl dX2_propose_20 ?_
    obtain ⟨v4, hc3, hf⟩ := bnd_some hf
    refine x_callSN1 hE [.int (M co 1), .int (nI 12)] (rest := []) (v := .int v4) (c1 := M) (d1 := N) rfl yokX11_inside ysX11_inside lk_X2_59 rfl rfl ⟨Nat.le_of_ble_eq_true rfl, Nat.le_of_ble_eq_true rfl⟩ ⟨Nat.zero_le _, Nat.zero_le _⟩ rfl (Nat.le_of_ble_eq_true rfl) dX2_propose_21 (mX11_inside l hc3) ?_
    refine x_if_ne hE 29 dX2_propose_24 (by decide) hf (fun hf => ?_) (fun hf => ?_)
    · refine x_aload_n hE 0 dX2_propose_29 rfl rfl ?_
      refine x_getR hE cl_2 (hE.kd (kO_2 hco)) (by decide) 0 (16) rfl (by decide) lk_X2_42 dX2_propose_30 ?_
      refine x_aload_n hE 0 dX2_propose_33 rfl rfl ?_
      refine x_getI hE cl_2 (hE.kd (kO_2 hco)) (by decide) 1 rfl (by decide) lk_X2_46 dX2_propose_34 ?_
      refine x_aload_n hE 1 dX2_propose_37 rfl rfl ?_
      refine x_aast hE hz dX2_propose_38 hf (fun M5 hf => ?_)
      refine x_aload_n hE 0 dX2_propose_39 rfl rfl ?_
      refine x_getR hE cl_2 (hE.kd (kO_2 hco)) (by decide) 5 (co + 3) rfl (by decide) lk_X2_18 dX2_propose_40 ?_
      refine x_aload_n hE 0 dX2_propose_43 rfl rfl ?_
      refine x_getI hE cl_2 (hE.kd (kO_2 hco)) (by decide) 1 rfl (by decide) lk_X2_46 dX2_propose_44 ?_
      refine x_iconst hE (-1) dX2_propose_47 (by decide) ?_
      refine x_iast hE (hE.kd (kB_2_5 hco)) dX2_propose_48 hf (fun M6 hf => ?_)
      refine x_aload_n hE 0 dX2_propose_49 rfl rfl ?_
      refine x_dup hE dX2_propose_50 rfl ?_
      refine x_getI hE cl_2 (hE.kd (kO_2 hco)) (by decide) 1 rfl (by decide) lk_X2_46 dX2_propose_51 ?_
      refine x_dup_x1 hE dX2_propose_54 rfl rfl ?_
      refine x_iconst hE (nI 1) dX2_propose_55 (by decide) ?_
      refine x_iadd hE dX2_propose_56 ?_
      refine x_putI hE cl_2 (hE.kd (kO_2 hco)) (by decide) 1 rfl (by decide) lk_X2_46 rfl rfl rfl rfl dX2_propose_57 hf (fun M7 hf => ?_)
      replace hf := Option.some.inj hf
      subst hf
      exact x_ireturn hE (v := M6 co 1) hr rfl dX2_propose_60
    · refine x_iconst hE (-1) dX2_propose_27 (by decide) ?_
      replace hf := Option.some.inj hf
      subst hf
      exact x_ireturn hE (v := (-1)) hr rfl dX2_propose_28
theorem yokX2_propose : YOK yX2_propose cX2_propose 2 1 (some .int) := ⟨mem_g 1514 (by decide +kernel) (by decide +kernel), mem_g 139 (by decide +kernel) (by decide +kernel), by decide +kernel, by decide +kernel, by decide +kernel⟩
theorem yvX2_propose : YV yX2_propose := ⟨mem_g 1512 (by decide +kernel) (by decide +kernel), mem_g 1513 (by decide +kernel) (by decide +kernel)⟩
