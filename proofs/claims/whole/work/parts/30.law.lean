def QL (Y : Nat → ClassId) (D : va_G) (σ : Nat → Nat) (np b0 : Nat) (v : Option Value) (M1 : Mc) (np1 : Nat) (N : Md) : Array Value → State → Outcome → State → Prop := fun _ st o t => ∃ σ' : Nat → Nat, (∀ k, k < np → σ' k = σ k) ∧ o = .returned v ∧ va_P D cl0 (Wl Y σ' np1 M1 N) t.heap ∧ Bk np1 M1 ∧ OkS b0 σ' np1 ∧ va_F (xA b0) st t
section XL
variable {p : Program} {l : Launch} {e : Env} {R : Room} {s : State} {m : MethodId} {args : Array Value} {below : List Frame} {meth : Method} {c : Code} {nL : Nat} {Y : Nat → ClassId} {D : va_G} {σ : Nat → Nat} {np b0 cells slots : Nat} {Q : State → Prop} {pc : Nat} {L : List (Nat × Value)} {rest : List Value} {cm : Mc} {dm : Md} {cc : ByteArray} {own : String}
theorem x_ireturnL (hE : EOK p s m args meth c cc nL own Y D σ np b0) {v : Int32} {rt : FieldType} (hr : meth.sig.returnType = some rt) (hrt : rt = .int) (hd : decode cc pc = .ok (.ireturn, 1)) : Xw p l e R s m args below meth c nL Y D σ np b0 cells slots (MQ below (QL Y D σ np b0 (some (.int v)) cm np dm) args s cells slots (xA b0)) pc L [.int v] cm dm := by
  intro H locs ls hP hS hB hl
  subst hrt
  exact W.iret hE.1 hE.2.1 hr (fun t ht hW => ⟨σ, fun _ _ => rfl, rfl, by rw [ht]; exact hP, hB, hE.2.2.2.2.2.2.2.1, hS.F ht⟩) hS.2.2 hd hE.2.2.2.2.2.2.2.2.2.2.1
theorem yokX7_statute : YOK yX7_statute cX7_statute 2 0 (some (.object "SettlerColony$Statute")) := ⟨(mem_g 1475 (by decide +kernel) (by decide +kernel)), (mem_g 141 (by decide +kernel) (by decide +kernel)), by decide +kernel, by decide +kernel, by decide +kernel⟩
theorem yvX7_statute : YV yX7_statute := ⟨(mem_g 1473 (by decide +kernel) (by decide +kernel)), (mem_g 1474 (by decide +kernel) (by decide +kernel))⟩
theorem lk_X11_302 : Cond.methodLink RX11 302 yX7_statute ∈ lw_g := mem_g 1472 (by decide +kernel) (by decide +kernel)
theorem lk_X11_306 : Cond.methodLink RX11 306 yX2_propose ∈ lw_g := mem_g 1511 (by decide +kernel) (by decide +kernel)
theorem dX11_law_91 : decode cX11_law 91 = .ok (.invokevirtual 302, 3) := by decide +kernel
theorem dX11_law_94 : decode cX11_law 94 = .ok (.invokevirtual 306, 3) := by decide +kernel
theorem dX11_law_97 : decode cX11_law 97 = .ok (.ireturn, 1) := by decide +kernel
theorem x_lawTail {dp co : Nat} {M0 : Mc} {N0 : Md} {M2 M3 : Mc} {v : Int32} {r : Nat ⊕ (Int32 × Mc × Nat)} (hE : EOK p s m args meth c cX11_law 3 RX11 Y D σ np b0) (hr : meth.sig.returnType = some .int) (hal : (np - 146) % 4 = 0) (hdp : 5 ≤ dp) (hc : cells ≤ 1) (hsl : slots ≤ 6) (hco : is2 co) (hA : fX7_statute cm np = some M2) (hB4 : fX2_propose M2 co np = some (v, M3)) (hf : some (.inr (v, M3, np + 4)) = some r) :
    Xw p l e (rmX dp 55) s m args below meth c 3 Y D σ np b0 cells slots (vx_MQ below (QX (fun r : Int32 × Mc × Nat => QL Y D σ np b0 (some (.int r.1)) r.2.1 r.2.2 dm) r) (XX Y D σ np b0 M0 N0 r) args s 55 (6 * 55) (xA b0)) 91 L [.ref (σ 114), .ref (σ co)] cm dm := by
  intro H locs ls hP hS hB hl T hT X
  have h146 := hE.2.2.2.2.2.2.2.2.2.1
  have run := va_runV (As := []) (rest := [.ref (σ co)]) (Ts := lw_g) (locs := locs) (cells := cells) (slots := slots) (e := e) (below := below) (meth := meth) (R := rmX dp 55) ⟨hE.1, hE.2.1, hE.2.2.1, hE.2.2.2.1, hE.2.2.2.2.1⟩ (mX7_statute l hal hA) ⟨cb_of hE yokX7_statute lk_X11_302 rfl rfl ⟨by show 4 + 1 ≤ dp; omega, by show 8 + (2 + 11) + 64 * 4 ≤ 64 * dp; omega⟩, hE.2.2.2.2.1 _ yvX7_statute.1, hE.2.2.2.2.1 _ yvX7_statute.2⟩ ⟨pr_blind, x_recv hE hP cl_7 (hE.kd kO_7) (by decide), fun U hU hW => pr_of hE hP hS hB hU hW⟩ (g := F0 m 91 ls [.ref (σ 114), .ref (σ co)]) rfl rfl hl.1 rfl (Nat.le_of_ble_eq_true rfl) dX11_law_91 ⟨by show cells + 4 ≤ 55; omega, by show slots + 320 ≤ 6 * 55; omega⟩
  obtain ⟨v', st₀, t, T', L', h0, X', hL, e1, e2, ⟨σ', hs', hv, hp, hB2, hσ2, hz, hk⟩, st⟩ := run T hT X
  cases hv
  rw [h0] at hz hk
  have hS1 : va_S (xA b0) s.heap T'.heap (locs ++ L') := by
    refine ⟨Nat.le_trans hS.1 (by rw [e1]; exact hz), fun q h1 h2 => ?_, fun q hq => ?_⟩
    · rw [e1, hk q (Nat.lt_of_lt_of_le h1 hS.1) h2]
      exact hS.2.1 q h1 h2
    · rcases List.mem_append.mp hq with h | h
      · exact hS.2.2 q h
      · exact hL q h
  have hE' : EOK p s m args meth c cX11_law 3 RX11 Y D σ' (np + 4) b0 := ⟨hE.1, hE.2.1, hE.2.2.1, hE.2.2.2.1, hE.2.2.2.2.1, hE.2.2.2.2.2.1, hE.2.2.2.2.2.2.1, hσ2, hE.2.2.2.2.2.2.2.2.1, by omega, hE.2.2.2.2.2.2.2.2.2.2⟩
  have hcl : co < np := (hE.kd (kO_2 hco)).1
  have hz4 : isStat (np + 4) np := ⟨h146, by omega, hal⟩
  have k : Xw p l e (rmX dp 55) s m args below meth c 3 Y D σ' (np + 4) b0 (cells + 4) (slots + 320) (vx_MQ below (QX (fun r : Int32 × Mc × Nat => QL Y D σ np b0 (some (.int r.1)) r.2.1 r.2.2 dm) r) (XX Y D σ np b0 M0 N0 r) args s 55 (6 * 55) (xA b0)) 94 L [.ref (σ' np), .ref (σ' co)] M2 dm := by
    refine x_callV1 hE' [.ref (σ' np)] (rest := []) (v := .int v) (c1 := M3) (d1 := dm) rfl yokX2_propose yvX2_propose lk_X11_306 rfl cl_2 (hE'.kd (kO_2 hco)) (by decide) rfl rfl ⟨by show 2 + 1 ≤ dp; omega, by show 8 + (2 + 11) + 64 * 2 ≤ 64 * dp; omega⟩ ⟨by show cells + 4 ≤ 55; omega, by show slots + 320 ≤ 6 * 55; omega⟩ rfl (Nat.le_of_ble_eq_true rfl) dX11_law_94 (mX2_propose l hco hz4 hB4) ?_
    refine x_xin (by omega) (by omega) hf ?_
    intro H locs ls hP hS hB hl
    exact W.iret hE'.1 hE'.2.1 hr (fun t ht hW => ⟨σ', hs', rfl, by rw [ht]; exact hP, hB, hσ2, hS.F ht⟩) hS.2.2 dX11_law_97 hE'.2.2.2.2.2.2.2.2.2.2.1
  rw [hs' co hcl] at k
  obtain ⟨t2, a1, b1⟩ := k T'.heap (locs ++ L') ls (by rw [e1]; exact hp) hS1 hB2 hl T' rfl X'
  exact ⟨t2, st t2 a1, b1⟩
end XL
theorem lk_X11_296 : Cond.methodLink RX11 296 yX7_read ∈ lw_g := mem_g 1320 (by decide +kernel) (by decide +kernel)
theorem lk_X11_300 : Cond.fieldLink RX11 300 (TX7 6).1 (TX7 6).2.1 (TX7 6).2.2.1 ∈ lw_g := mem_g 509 (by decide +kernel) (by decide +kernel)
theorem dX11_law_0 : decode cX11_law 0 = .ok (.iload_n 1, 1) := by decide +kernel
theorem dX11_law_1 : decode cX11_law 1 = .ok (.ifCond .lt 15, 3) := by decide +kernel
theorem dX11_law_4 : decode cX11_law 4 = .ok (.iload_n 1, 1) := by decide +kernel
theorem dX11_law_5 : decode cX11_law 5 = .ok (.aload_n 0, 1) := by decide +kernel
theorem dX11_law_6 : decode cX11_law 6 = .ok (.getfield 283, 3) := by decide +kernel
theorem dX11_law_9 : decode cX11_law 9 = .ok (.if_icmp .gt 7, 3) := by decide +kernel
theorem dX11_law_12 : decode cX11_law 12 = .ok (.iconst 1, 1) := by decide +kernel
theorem dX11_law_13 : decode cX11_law 13 = .ok (.goto 4, 3) := by decide +kernel
theorem dX11_law_16 : decode cX11_law 16 = .ok (.iconst 0, 1) := by decide +kernel
theorem dX11_law_17 : decode cX11_law 17 = .ok (.invokestatic 76, 3) := by decide +kernel
theorem dX11_law_20 : decode cX11_law 20 = .ok (.aload_n 0, 1) := by decide +kernel
theorem dX11_law_21 : decode cX11_law 21 = .ok (.iconst (-1), 1) := by decide +kernel
theorem dX11_law_22 : decode cX11_law 22 = .ok (.putfield 59, 3) := by decide +kernel
theorem dX11_law_25 : decode cX11_law 25 = .ok (.aload_n 0, 1) := by decide +kernel
theorem dX11_law_26 : decode cX11_law 26 = .ok (.iconst 0, 1) := by decide +kernel
theorem dX11_law_27 : decode cX11_law 27 = .ok (.putfield 283, 3) := by decide +kernel
theorem dX11_law_30 : decode cX11_law 30 = .ok (.aload_n 0, 1) := by decide +kernel
theorem dX11_law_31 : decode cX11_law 31 = .ok (.getfield 27, 3) := by decide +kernel
theorem dX11_law_34 : decode cX11_law 34 = .ok (.getfield 289, 3) := by decide +kernel
theorem dX11_law_37 : decode cX11_law 37 = .ok (.getfield 293, 3) := by decide +kernel
theorem dX11_law_40 : decode cX11_law 40 = .ok (.bipush 12, 2) := by decide +kernel
theorem dX11_law_42 : decode cX11_law 42 = .ok (.if_icmp .lt 5, 3) := by decide +kernel
theorem dX11_law_45 : decode cX11_law 45 = .ok (.iconst (-1), 1) := by decide +kernel
theorem dX11_law_46 : decode cX11_law 46 = .ok (.ireturn, 1) := by decide +kernel
theorem dX11_law_47 : decode cX11_law 47 = .ok (.aload_n 0, 1) := by decide +kernel
theorem dX11_law_48 : decode cX11_law 48 = .ok (.getfield 44, 3) := by decide +kernel
theorem dX11_law_51 : decode cX11_law 51 = .ok (.aload_n 0, 1) := by decide +kernel
theorem dX11_law_52 : decode cX11_law 52 = .ok (.getfield 55, 3) := by decide +kernel
theorem dX11_law_55 : decode cX11_law 55 = .ok (.iload_n 1, 1) := by decide +kernel
theorem dX11_law_56 : decode cX11_law 56 = .ok (.invokevirtual 296, 3) := by decide +kernel
theorem dX11_law_59 : decode cX11_law 59 = .ok (.istore_n 2, 1) := by decide +kernel
theorem dX11_law_60 : decode cX11_law 60 = .ok (.iload_n 2, 1) := by decide +kernel
theorem dX11_law_61 : decode cX11_law 61 = .ok (.ifCond .eq 19, 3) := by decide +kernel
theorem dX11_law_64 : decode cX11_law 64 = .ok (.aload_n 0, 1) := by decide +kernel
theorem dX11_law_65 : decode cX11_law 65 = .ok (.aload_n 0, 1) := by decide +kernel
theorem dX11_law_66 : decode cX11_law 66 = .ok (.getfield 44, 3) := by decide +kernel
theorem dX11_law_69 : decode cX11_law 69 = .ok (.getfield 300, 3) := by decide +kernel
theorem dX11_law_72 : decode cX11_law 72 = .ok (.putfield 59, 3) := by decide +kernel
theorem dX11_law_75 : decode cX11_law 75 = .ok (.iload_n 2, 1) := by decide +kernel
theorem dX11_law_76 : decode cX11_law 76 = .ok (.bipush 10, 2) := by decide +kernel
theorem dX11_law_78 : decode cX11_law 78 = .ok (.isub, 1) := by decide +kernel
theorem dX11_law_79 : decode cX11_law 79 = .ok (.ireturn, 1) := by decide +kernel
theorem dX11_law_80 : decode cX11_law 80 = .ok (.aload_n 0, 1) := by decide +kernel
theorem dX11_law_81 : decode cX11_law 81 = .ok (.getfield 27, 3) := by decide +kernel
theorem dX11_law_84 : decode cX11_law 84 = .ok (.getfield 289, 3) := by decide +kernel
theorem dX11_law_87 : decode cX11_law 87 = .ok (.aload_n 0, 1) := by decide +kernel
theorem dX11_law_88 : decode cX11_law 88 = .ok (.getfield 44, 3) := by decide +kernel
theorem wX11_law_J17 {p : Program} {l : Launch} {e : Env} {s : State} {m : MethodId} {args : Array Value} {below : List Frame} {meth : Method} {c : Code} {Y : Nat → ClassId} {D : va_G} {σ : Nat → Nat} {np b0 : Nat} {r : Nat ⊕ (Int32 × Mc × Nat)} {M : Mc} {N : Md} {X1 : Int32} {Z0 : Int32} (hE : EOK p s m args meth c cX11_law 3 RX11 Y D σ np b0) (hr : meth.sig.returnType = (some .int)) (hT : ∀ x ∈ c.exceptionTable.toList, False) (hfl : l.stackTraces = false) (hal : (np - 146) % 4 = 0) (hf : fX11_law_J17 np M X1 Z0 = some r) : Xw p l e (rmX 134 55) s m args below meth c 3 Y D σ np b0 0 (6 * 0) (vx_MQ below (QX (fun r : Int32 × Mc × Nat => QL Y D σ np b0 (some (.int r.1)) r.2.1 r.2.2 N) r) (XX Y D σ np b0 M N r) args s 55 (6 * 55) (xA b0)) 17 [(0, .ref (σ 0)), (1, .int X1)] [.int Z0] M N := by
  unfold fX11_law_J17 at hf
  obtain ⟨y1, hc2, hy3⟩ := bnx_some hf
  refine x_callXS hE hT [.int Z0] (rest := []) rfl yokX11_needThat ysX11_needThat lk_X11_76 ⟨Nat.le_of_ble_eq_true rfl, Nat.le_of_ble_eq_true rfl⟩ (by decide) rfl (Nat.le_of_ble_eq_true rfl) dX11_law_17 (mX11_needThat l hfl hc2) ⟨rfl, rfl⟩ (by decide) (by decide) (hy3.imp id (fun ⟨_, ha4, hf⟩ => ⟨_, none, M, N, ha4, rfl, ?_⟩))
  refine x_aload_n hE 0 dX11_law_20 rfl rfl ?_
  refine x_iconst hE (-1) dX11_law_21 (by decide) ?_
  refine x_putI hE cl_11 (hE.kd kO_11) (by decide) 9 rfl (by decide) lk_X11_59 rfl rfl rfl rfl dX11_law_22 hf (fun M5 hf => ?_)
  refine x_aload_n hE 0 dX11_law_25 rfl rfl ?_
  refine x_iconst hE (0 : Int32) dX11_law_26 (by decide) ?_
  refine x_putI hE cl_11 (hE.kd kO_11) (by decide) 8 rfl (by decide) lk_X11_283 rfl rfl rfl rfl dX11_law_27 hf (fun M6 hf => ?_)
  refine x_aload_n hE 0 dX11_law_30 rfl rfl ?_
  refine x_getR hE cl_11 (hE.kd kO_11) (by decide) 2 (17) rfl (by decide) lk_X11_27 dX11_law_31 ?_
  refine x_getR hE cl_10 (hE.kd (kO_10 hI_17)) (by decide) 5 (17 + 37) rfl (by decide) lk_X11_289 dX11_law_34 ?_
  refine x_getI hE cl_2 (hE.kd (kO_2 (hL_10_5 hI_17))) (by decide) 1 rfl (by decide) lk_X11_293 dX11_law_37 ?_
  refine x_bipush hE (nI 12) dX11_law_40 (by decide) ?_
  refine x_icmp_lt hE 47 dX11_law_42 (by decide) hf (fun hf => ?_) (fun hf => ?_)
  · refine x_aload_n hE 0 dX11_law_47 rfl rfl ?_
    refine x_getR hE cl_11 (hE.kd kO_11) (by decide) 5 (114) rfl (by decide) lk_X11_44 dX11_law_48 ?_
    refine x_aload_n hE 0 dX11_law_51 rfl rfl ?_
    refine x_getR hE cl_11 (hE.kd kO_11) (by decide) 7 (123) rfl (by decide) lk_X11_55 dX11_law_52 ?_
    refine x_iload_n hE 1 dX11_law_55 rfl rfl ?_
    obtain ⟨⟨v8, M9⟩, hc7, hf⟩ := bn2_some hf
    refine x_callV1 hE [.ref (σ (123)), .int X1] (rest := []) (v := .int v8) (c1 := M9) (d1 := N) rfl yokX7_read yvX7_read lk_X11_296 rfl cl_7 (hE.kd kO_7) (by decide) rfl rfl ⟨Nat.le_of_ble_eq_true rfl, Nat.le_of_ble_eq_true rfl⟩ (by decide) rfl (Nat.le_of_ble_eq_true rfl) dX11_law_56 (mX7_read l hc7) ?_
    refine x_istore_n hE (L' := [(2, .int v8), (0, .ref (σ 0)), (1, .int X1)]) dX11_law_59 rfl (by decide) rfl ?_
    refine x_pick [1, 2, 0] (L' := [(0, .ref (σ 0)), (1, .int X1), (2, .int v8)]) rfl ?_
    refine x_iload_n hE 2 dX11_law_60 rfl rfl ?_
    refine x_if_eq hE 80 dX11_law_61 (by decide) hf (fun hf => ?_) (fun hf => ?_)
    · refine x_aload_n hE 0 dX11_law_80 rfl rfl ?_
      refine x_getR hE cl_11 (hE.kd kO_11) (by decide) 2 (17) rfl (by decide) lk_X11_27 dX11_law_81 ?_
      refine x_getR hE cl_10 (hE.kd (kO_10 hI_17)) (by decide) 5 (17 + 37) rfl (by decide) lk_X11_289 dX11_law_84 ?_
      refine x_aload_n hE 0 dX11_law_87 rfl rfl ?_
      refine x_getR hE cl_11 (hE.kd kO_11) (by decide) 5 (114) rfl (by decide) lk_X11_44 dX11_law_88 ?_
      obtain ⟨MA4, hA4, hf⟩ := bnd_some hf
      obtain ⟨⟨vL4, ML4⟩, hB4, hf⟩ := bn2_some hf
      exact x_lawTail hE hr hal (by decide) (by decide) (by decide) (hL_10_5 hI_17) hA4 hB4 hf
    · refine x_aload_n hE 0 dX11_law_64 rfl rfl ?_
      refine x_aload_n hE 0 dX11_law_65 rfl rfl ?_
      refine x_getR hE cl_11 (hE.kd kO_11) (by decide) 5 (114) rfl (by decide) lk_X11_44 dX11_law_66 ?_
      refine x_getI hE cl_7 (hE.kd kO_7) (by decide) 6 rfl (by decide) lk_X11_300 dX11_law_69 ?_
      refine x_putI hE cl_11 (hE.kd kO_11) (by decide) 9 rfl (by decide) lk_X11_59 rfl rfl rfl rfl dX11_law_72 hf (fun M10 hf => ?_)
      refine x_iload_n hE 2 dX11_law_75 rfl rfl ?_
      refine x_bipush hE (nI 10) dX11_law_76 (by decide) ?_
      refine x_isub hE dX11_law_78 ?_
      refine x_xin (by decide) (by decide) hf ?_
      exact x_ireturnL hE (v := v8 - (nI 10)) hr rfl dX11_law_79
  · refine x_iconst hE (-1) dX11_law_45 (by decide) ?_
    refine x_xin (by decide) (by decide) hf ?_
    exact x_ireturnL hE (v := (-1)) hr rfl dX11_law_46
theorem wX11_law_J16 {p : Program} {l : Launch} {e : Env} {s : State} {m : MethodId} {args : Array Value} {below : List Frame} {meth : Method} {c : Code} {Y : Nat → ClassId} {D : va_G} {σ : Nat → Nat} {np b0 : Nat} {r : Nat ⊕ (Int32 × Mc × Nat)} {M : Mc} {N : Md} {X1 : Int32} (hE : EOK p s m args meth c cX11_law 3 RX11 Y D σ np b0) (hr : meth.sig.returnType = (some .int)) (hT : ∀ x ∈ c.exceptionTable.toList, False) (hfl : l.stackTraces = false) (hal : (np - 146) % 4 = 0) (hf : fX11_law_J16 np M X1 = some r) : Xw p l e (rmX 134 55) s m args below meth c 3 Y D σ np b0 0 (6 * 0) (vx_MQ below (QX (fun r : Int32 × Mc × Nat => QL Y D σ np b0 (some (.int r.1)) r.2.1 r.2.2 N) r) (XX Y D σ np b0 M N r) args s 55 (6 * 55) (xA b0)) 16 [(0, .ref (σ 0)), (1, .int X1)] [] M N := by
  unfold fX11_law_J16 at hf
  refine x_iconst hE (0 : Int32) dX11_law_16 (by decide) ?_
  exact wX11_law_J17 hE hr hT hfl hal hf
theorem mX11_law (l : Launch) (hfl : l.stackTraces = false) {Y : Nat → ClassId} {D : va_G} {σ : Nat → Nat} {np b0 : Nat} {M : Mc} {N : Md} {p0 : Int32} {r : Nat ⊕ (Int32 × Mc × Nat)} (hal : (np - 146) % 4 = 0) (hf : fX11_law np M p0 = some r) : vx_Met l yX11_law (.code yX11_law cX11_law 3 (some .int) :: lw_g) (rmX 134 55) (PR Y D σ np b0 [.ref (σ 0), .int p0] M N) (QX (fun r : Int32 × Mc × Nat => QL Y D σ np b0 (some (.int r.1)) r.2.1 r.2.2 N) r) (XX Y D σ np b0 M N r) 55 (6 * 55) (xA b0) := by
  refine x_vmet (by decide) (Nat.le_of_ble_eq_true rfl) (fun p e s m args below meth c hE hr hT => ?_)
  unfold fX11_law at hf
  refine x_pick [0, 1] (L' := [(0, .ref (σ 0)), (1, .int p0)]) rfl ?_
  refine x_iload_n hE 1 dX11_law_0 rfl rfl ?_
  refine x_if_lt hE 16 dX11_law_1 (by decide) hf (fun hf => ?_) (fun hf => ?_)
  · exact wX11_law_J16 hE hr hT hfl hal hf
  · refine x_iload_n hE 1 dX11_law_4 rfl rfl ?_
    refine x_aload_n hE 0 dX11_law_5 rfl rfl ?_
    refine x_getI hE cl_11 (hE.kd kO_11) (by decide) 8 rfl (by decide) lk_X11_283 dX11_law_6 ?_
    refine x_icmp_gt hE 16 dX11_law_9 (by decide) hf (fun hf => ?_) (fun hf => ?_)
    · exact wX11_law_J16 hE hr hT hfl hal hf
    · refine x_iconst hE (nI 1) dX11_law_12 (by decide) ?_
      refine x_goto hE 17 dX11_law_13 (by decide) ?_
      exact wX11_law_J17 hE hr hT hfl hal hf
theorem yokX11_law : YOK yX11_law cX11_law 3 1 (some .int) := ⟨mem_g 1319 (by decide +kernel) (by decide +kernel), mem_g 131 (by decide +kernel) (by decide +kernel), by decide +kernel, by decide +kernel, by decide +kernel⟩
theorem yvX11_law : YV yX11_law := ⟨mem_g 1317 (by decide +kernel) (by decide +kernel), mem_g 1318 (by decide +kernel) (by decide +kernel)⟩
