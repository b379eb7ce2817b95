section XKS
variable {p : Program} {l : Launch} {e : Env} {R : Room} {s : State} {m : MethodId} {args : Array Value} {below : List Frame} {meth : Method} {c : Code} {nL : Nat} {Y : Nat → ClassId} {D : va_G} {σ : Nat → Nat} {κ : Nat → xK} {np n0 b0 cells slots : Nat} {Q : State → Prop} {pc : Nat} {L : List (Nat × Value)} {rest : List Value} {cm : Mc} {dm : Md} {cc : ByteArray} {own : String}
/-- the clone of an int[]: a new cell, of a kind that says so -/
theorem k_clone (hE : EOKk p s m args meth c cc nL own Y D σ n0 b0) {k n index : Nat} (t' : xK) (f' : Nat → Int32) (hnp : n0 ≤ np ∧ ph np = false) (hk : Kn k np ∧ κ k = (100, n, [])) (hk' : ∀ g, kM Y σ t' np f' g = .inl (Y 0, n, .inl f')) (hf' : ∀ j, j < n → f' j = cm k j) (hw : Cond.methodLink own index ⟨"[I", "clone", "()Ljava/lang/Object;"⟩ ∈ lw_g) (hRf : 1 ≤ R.frames) (hRl : (rest.map fun v => v.category).sum + 14 ≤ R.locals) (hcells : cells + 1 ≤ R.cells) (hslots : slots + n ≤ R.slots) (hd : decode cc pc = .ok (.invokevirtual index, 3))
    (kk : Xk p l e R s m args below meth c nL Y D σ (ku κ np t') (np + 1) b0 (cells + 1) (slots + n) Q (pc + 3) L (.ref (σ np) :: rest) (up cm np f') dm) : Xk p l e R s m args below meth c nL Y D σ κ np b0 cells slots Q pc L (.ref (σ k) :: rest) cm dm := by
  intro H locs ls hP hz hS hl T hT X
  have he := wk_at (Y := Y) (σ := σ) (κ := κ) (c := cm) (d := dm) hk.1
  rw [hk.2] at he
  have hc0 : H[σ k]? = some (arrV (Y 0) n (fun j => .int (cm k j))) := hP (ix k) _ he
  obtain ⟨cC, cT, hc1, hc2, hasg⟩ := Cond.castable_spec (va_Nw.use rfl (hE.2.2.2.2.2.1 _ (mem_n 1486 (by decide +kernel) rfl)) : (Cond.castable "[I" "java/lang/Cloneable").before args s = true)
  have hfI : s.vm.findClass "[I" = some (Y 0) := (hE.2.2.2.2.2.2.1.2 0 _ rfl).2
  cases Option.some.inj (hc1.symm.trans hfI)
  obtain ⟨-, kA, hkA, comp, hkind⟩ := (hE.2.2.2.2.2.2.1.2 0 _ rfl).1 n (fun j => .int (cm k j))
  have hkind' : kA.kind = .array comp .int := hkind
  have hloader : s.vm.clonesLoader (Y 0) = false := Vm.clonesLoader_of_array hkA hkind'
  obtain ⟨vm', X', step⟩ := X.cloneArray hE.1 hE.2.2.2.1 (hE.2.2.2.2.1 _ hw) (hE.2.2.2.2.1 _ (mem_g 1482 (by decide +kernel) (by decide +kernel))) (hE.2.2.2.2.1 _ (mem_g 1483 (by decide +kernel) (by decide +kernel))) (hE.2.2.2.2.1 _ (mem_g 1484 (by decide +kernel) (by decide +kernel))) (hE.2.2.2.2.1 _ (mem_g 1485 (by decide +kernel) (by decide +kernel))) (a := σ k) (cell := arrV (Y 0) n (fun j => .int (cm k j))) (cC := cT) (by rw [hT]; exact hc0) (fun q h => by cases h) (fun h => by cases h) hfI hc2 hasg
    (fun i v hv => by
      obtain ⟨hi, rfl⟩ := Array.getElem?_eq_some_iff.mp hv
      show State.fitsSlot T (Y 0) .none i _ = true
      have hal := X.warmed.alike
      obtain ⟨kA', hkA', e'⟩ := hal.2.2 _ _ hkA
      have hkind2 : kA'.kind = .array comp .int := by rw [e']; exact hkind'
      have hget : (arrV (Y 0) n (fun j => Value.int (cm k j))).slots[i] = .int (cm k i) := by simp [arrV]
      rw [hget]
      have hkA2 : T.vm.classes[Y 0]? = some kA' := hkA'
      simp [State.fitsSlot, State.slotType?, hkA2, hkind2, fits])
    (g := F0 m pc ls (.ref (σ k) :: rest)) rfl (hl.1.trans hE.2.2.1.symm) rfl (by rw [hE.2.1]; exact hd) hRf (by show 2 * 0 + _ + 14 ≤ _; omega) hcells (by rw [arrV_size]; exact hslots) hloader
  generalize hH1 : H.push (arrV (Y 0) n (fun j => .int (cm k j))) = H1
  have hheap : ((T.setVm vm').pushCell { cls := (arrV (Y 0) n (fun j => Value.int (cm k j))).cls, slots := (arrV (Y 0) n (fun j => Value.int (cm k j))).slots }).heap = H1 := by
    rw [← hH1, ← hT]
    rfl
  have z1 : H1.size = H.size + 1 := by rw [← hH1, Array.size_push]
  have e1 : H1[H.size]? = some (arrV (Y 0) n (fun j => .int (cm k j))) := by rw [← hH1, Array.getElem?_push_size]
  have o1 : ∀ q : Nat, q < H.size → H1[q]? = H[q]? := fun q hq => by rw [← hH1, Array.getElem?_push, if_neg (Nat.ne_of_lt hq)]
  rw [hz] at e1
  have hP1 : va_P D cl0 (Wk Y σ (ku κ np t') (np + 1) (up cm np f') dm) H1 := by
    rw [wk_push (κ := κ) (κ' := ku κ np t') (c := cm) (c' := up cm np f') (d := dm) (d' := dm) hnp.2 (fun i hi => ⟨if_neg (by omega), if_neg (by omega), rfl⟩)]
    refine (hP.kept (fun k x hx => o1 x.1 ((hP k x hx).lt))).app (fun k x hx => ?_)
    have hz0 : k < 1 := (List.getElem?_eq_some_iff.mp hx).1
    rw [show k = 0 by omega] at hx
    cases hx
    rw [ku_eq, show up cm np f' np = f' from if_pos rfl, hk']
    show H1[σ np]? = some (vp_cell _ _)
    rw [vp_cell_i, e1]
    exact congrArg some (arrV_congr (fun j hj => by rw [hf' j hj]))
  obtain ⟨t, a1, b1⟩ := kk H1 locs ls hP1 ((z1.trans (by rw [hz])).trans ((hE.2.2.2.2.2.2.2.1.2.2 np hnp.1).1 hnp.2).symm) ⟨Nat.le_trans hS.1 (by omega), fun x h1 h2 => (o1 x (Nat.lt_of_lt_of_le h1 hS.1)).trans (hS.2.1 x h1 h2), hS.2.2⟩ hl _ hheap (by
    have := X'
    rw [arrV_size] at this
    exact this)
  refine ⟨t, step t ?_, b1⟩
  rw [show T.heap.size = σ np by rw [hT]; exact hz]
  exact a1
/-- 'checkcast int[]' -/
theorem k_cast (hE : EOKk p s m args meth c cc nL own Y D σ n0 b0) {k n index : Nat} {f : Nat → Int32} (hk : Kn k np ∧ kM Y σ (κ k) k (cm k) (dm k) = .inl (Y 0, n, .inl f)) (hw : Cond.classLink own index "[I" ∈ lw_g) (hd : decode cc pc = .ok (.checkcast index, 3)) (kk : Xk p l e R s m args below meth c nL Y D σ κ np b0 cells slots Q (pc + 3) L (.ref (σ k) :: rest) cm dm) : Xk p l e R s m args below meth c nL Y D σ κ np b0 cells slots Q pc L (.ref (σ k) :: rest) cm dm := by
  intro H locs ls hP hz hS hl T hT X
  have he := wk_at (Y := Y) (σ := σ) (κ := κ) (c := cm) (d := dm) hk.1
  rw [hk.2] at he
  have hc0 : H[σ k]? = some (arrV (Y 0) n (fun j => .int (f j))) := hP (ix k) _ he
  have hfI : s.vm.findClass "[I" = some (Y 0) := (hE.2.2.2.2.2.2.1.2 0 _ rfl).2
  obtain ⟨-, kA, hkA, comp, hkind⟩ := (hE.2.2.2.2.2.2.1.2 0 _ rfl).1 n (fun j => .int (f j))
  obtain ⟨vm', X', step⟩ := X.checkcast hE.1 hE.2.2.2.1 (hE.2.2.2.2.1 _ hw) (a := σ k) (cell := arrV (Y 0) n (fun j => .int (f j))) (cT := Y 0) (by rw [hT]; exact hc0) (fun q h => by cases h) hkA hfI (Vm.assignable_self _ _) (g := F0 m pc ls (.ref (σ k) :: rest)) rfl rfl (by rw [hE.2.1]; exact hd)
  obtain ⟨t, a1, b1⟩ := kk H locs ls hP hz hS hl (T.setVm vm') hT X'
  exact ⟨t, step t a1, b1⟩
theorem k_min (hE : EOKk p s m args meth c cc nL own Y D σ n0 b0) {index : Nat} {x y : Int32} (hw : Cond.methodLink own index Lib.Math.min.name ∈ lw_g) (hst : (rest.map fun v => v.category).sum ≤ 8) (hRf : 1 ≤ R.frames) (hRl : 64 ≤ R.locals) (hcs : cells ≤ R.cells ∧ slots ≤ R.slots) (hd : decode cc pc = .ok (.invokestatic index, 3)) (kk : Xk p l e R s m args below meth c nL Y D σ κ np b0 cells slots Q (pc + 3) L (.int (xmin x y) :: rest) cm dm) : Xk p l e R s m args below meth c nL Y D σ κ np b0 cells slots Q pc L (.int y :: .int x :: rest) cm dm := by
  intro H locs ls hP hz hS hl
  exact va_mmin hE.1 hE.2.1 (hE.2.2.1.trans hl.1.symm) hE.2.2.2.1 (hE.2.2.2.2.1 _ hw) (hE.2.2.2.2.1 _ (mem_g 665 (by decide +kernel) (by decide +kernel))) (hE.2.2.2.2.1 _ (mem_g 151 (by decide +kernel) (by decide +kernel))) (hE.2.2.2.2.1 _ (mem_g 666 (by decide +kernel) (by decide +kernel))) hRf (by omega) hcs.1 hcs.2 hd (kk H locs ls hP hz hS hl)
theorem k_if_ne (hE : EOKk p s m args meth c cc nL own Y D σ n0 b0) {x y : Int32} {off : Int} (tgt : Nat) (hd : decode cc pc = .ok (.if_icmp .ne off, 3)) (ht : (pc : Int) + off = (tgt : Int)) (kt : ¬ x = y → Xk p l e R s m args below meth c nL Y D σ κ np b0 cells slots Q tgt L rest cm dm) (kf : x = y → Xk p l e R s m args below meth c nL Y D σ κ np b0 cells slots Q (pc + 3) L rest cm dm) : Xk p l e R s m args below meth c nL Y D σ κ np b0 cells slots Q pc L (.int y :: .int x :: rest) cm dm := by
  by_cases h : x = y
  · exact k_icmp_ne (β := Unit) (r := ()) (A := none) (B := some ()) hE tgt hd ht (by rw [if_pos h]) (fun h => nomatch h) (fun _ => kf h)
  · exact k_icmp_ne (β := Unit) (r := ()) (A := some ()) (B := none) hE tgt hd ht (by rw [if_neg h]) (fun _ => kt h) (fun h => nomatch h)
end XKS
theorem dJ7_copyOf_59c91_0 : decode cJ7_copyOf_59c91 0 = .ok (.iload_n 1, 1) := by decide +kernel
theorem dJ7_copyOf_59c91_1 : decode cJ7_copyOf_59c91 1 = .ok (.aload_n 0, 1) := by decide +kernel
theorem dJ7_copyOf_59c91_2 : decode cJ7_copyOf_59c91 2 = .ok (.arraylength, 1) := by decide +kernel
theorem dJ7_copyOf_59c91_3 : decode cJ7_copyOf_59c91 3 = .ok (.if_icmp .ne 11, 3) := by decide +kernel
theorem dJ7_copyOf_59c91_6 : decode cJ7_copyOf_59c91 6 = .ok (.aload_n 0, 1) := by decide +kernel
theorem dJ7_copyOf_59c91_7 : decode cJ7_copyOf_59c91 7 = .ok (.invokevirtual 316, 3) := by decide +kernel
theorem dJ7_copyOf_59c91_10 : decode cJ7_copyOf_59c91 10 = .ok (.checkcast 317, 3) := by decide +kernel
theorem dJ7_copyOf_59c91_13 : decode cJ7_copyOf_59c91 13 = .ok (.areturn, 1) := by decide +kernel
theorem dJ7_copyOf_59c91_14 : decode cJ7_copyOf_59c91 14 = .ok (.iload_n 1, 1) := by decide +kernel
theorem dJ7_copyOf_59c91_15 : decode cJ7_copyOf_59c91 15 = .ok (.newarray .int, 2) := by decide +kernel
theorem dJ7_copyOf_59c91_17 : decode cJ7_copyOf_59c91 17 = .ok (.astore_n 2, 1) := by decide +kernel
theorem dJ7_copyOf_59c91_18 : decode cJ7_copyOf_59c91 18 = .ok (.aload_n 0, 1) := by decide +kernel
theorem dJ7_copyOf_59c91_19 : decode cJ7_copyOf_59c91 19 = .ok (.iconst 0, 1) := by decide +kernel
theorem dJ7_copyOf_59c91_20 : decode cJ7_copyOf_59c91 20 = .ok (.aload_n 2, 1) := by decide +kernel
theorem dJ7_copyOf_59c91_21 : decode cJ7_copyOf_59c91 21 = .ok (.iconst 0, 1) := by decide +kernel
theorem dJ7_copyOf_59c91_22 : decode cJ7_copyOf_59c91 22 = .ok (.aload_n 0, 1) := by decide +kernel
theorem dJ7_copyOf_59c91_23 : decode cJ7_copyOf_59c91 23 = .ok (.arraylength, 1) := by decide +kernel
theorem dJ7_copyOf_59c91_24 : decode cJ7_copyOf_59c91 24 = .ok (.iload_n 1, 1) := by decide +kernel
theorem dJ7_copyOf_59c91_25 : decode cJ7_copyOf_59c91 25 = .ok (.invokestatic 304, 3) := by decide +kernel
theorem dJ7_copyOf_59c91_28 : decode cJ7_copyOf_59c91 28 = .ok (.invokestatic 150, 3) := by decide +kernel
theorem dJ7_copyOf_59c91_31 : decode cJ7_copyOf_59c91 31 = .ok (.aload_n 2, 1) := by decide +kernel
theorem dJ7_copyOf_59c91_32 : decode cJ7_copyOf_59c91 32 = .ok (.areturn, 1) := by decide +kernel
theorem dX8_init_0 : decode cX8_init 0 = .ok (.aload_n 0, 1) := by decide +kernel
theorem dX8_init_1 : decode cX8_init 1 = .ok (.invokespecial 3, 3) := by decide +kernel
theorem dX8_init_4 : decode cX8_init 4 = .ok (.aload_n 0, 1) := by decide +kernel
theorem dX8_init_5 : decode cX8_init 5 = .ok (.aload_n 1, 1) := by decide +kernel
theorem dX8_init_6 : decode cX8_init 6 = .ok (.putfield 9, 3) := by decide +kernel
theorem dX8_init_9 : decode cX8_init 9 = .ok (.aload_n 0, 1) := by decide +kernel
theorem dX8_init_10 : decode cX8_init 10 = .ok (.aload_n 2, 1) := by decide +kernel
theorem dX8_init_11 : decode cX8_init 11 = .ok (.putfield 15, 3) := by decide +kernel
theorem dX8_init_14 : decode cX8_init 14 = .ok (.aload_n 0, 1) := by decide +kernel
theorem dX8_init_15 : decode cX8_init 15 = .ok (.aload_n 3, 1) := by decide +kernel
theorem dX8_init_16 : decode cX8_init 16 = .ok (.putfield 18, 3) := by decide +kernel
theorem dX8_init_19 : decode cX8_init 19 = .ok (.aload_n 0, 1) := by decide +kernel
theorem dX8_init_20 : decode cX8_init 20 = .ok (.iload 4, 2) := by decide +kernel
theorem dX8_init_22 : decode cX8_init 22 = .ok (.putfield 21, 3) := by decide +kernel
theorem dX8_init_25 : decode cX8_init 25 = .ok (.return_, 1) := by decide +kernel
theorem dX7_statute_0 : decode cX7_statute 0 = .ok (.aload_n 0, 1) := by decide +kernel
theorem dX7_statute_1 : decode cX7_statute 1 = .ok (.getfield 47, 3) := by decide +kernel
theorem dX7_statute_4 : decode cX7_statute 4 = .ok (.ifCond .lt 22, 3) := by decide +kernel
theorem dX7_statute_7 : decode cX7_statute 7 = .ok (.aload_n 0, 1) := by decide +kernel
theorem dX7_statute_8 : decode cX7_statute 8 = .ok (.getfield 47, 3) := by decide +kernel
theorem dX7_statute_11 : decode cX7_statute 11 = .ok (.aload_n 0, 1) := by decide +kernel
theorem dX7_statute_12 : decode cX7_statute 12 = .ok (.getfield 21, 3) := by decide +kernel
theorem dX7_statute_15 : decode cX7_statute 15 = .ok (.arraylength, 1) := by decide +kernel
theorem dX7_statute_16 : decode cX7_statute 16 = .ok (.if_icmp .gt 10, 3) := by decide +kernel
theorem dX7_statute_19 : decode cX7_statute 19 = .ok (.aload_n 0, 1) := by decide +kernel
theorem dX7_statute_20 : decode cX7_statute 20 = .ok (.getfield 47, 3) := by decide +kernel
theorem dX7_statute_23 : decode cX7_statute 23 = .ok (.goto 4, 3) := by decide +kernel
theorem dX7_statute_26 : decode cX7_statute 26 = .ok (.iconst 0, 1) := by decide +kernel
theorem dX7_statute_27 : decode cX7_statute 27 = .ok (.istore_n 1, 1) := by decide +kernel
theorem dX7_statute_28 : decode cX7_statute 28 = .ok (.new 63, 3) := by decide +kernel
theorem dX7_statute_31 : decode cX7_statute 31 = .ok (.dup, 1) := by decide +kernel
theorem dX7_statute_32 : decode cX7_statute 32 = .ok (.aload_n 0, 1) := by decide +kernel
theorem dX7_statute_33 : decode cX7_statute 33 = .ok (.getfield 21, 3) := by decide +kernel
theorem dX7_statute_36 : decode cX7_statute 36 = .ok (.iload_n 1, 1) := by decide +kernel
theorem dX7_statute_37 : decode cX7_statute 37 = .ok (.invokestatic 65, 3) := by decide +kernel
theorem dX7_statute_40 : decode cX7_statute 40 = .ok (.aload_n 0, 1) := by decide +kernel
theorem dX7_statute_41 : decode cX7_statute 41 = .ok (.getfield 24, 3) := by decide +kernel
theorem dX7_statute_44 : decode cX7_statute 44 = .ok (.invokevirtual 69, 3) := by decide +kernel
theorem dX7_statute_47 : decode cX7_statute 47 = .ok (.checkcast 70, 3) := by decide +kernel
theorem dX7_statute_50 : decode cX7_statute 50 = .ok (.aload_n 0, 1) := by decide +kernel
theorem dX7_statute_51 : decode cX7_statute 51 = .ok (.getfield 27, 3) := by decide +kernel
theorem dX7_statute_54 : decode cX7_statute 54 = .ok (.invokevirtual 69, 3) := by decide +kernel
theorem dX7_statute_57 : decode cX7_statute 57 = .ok (.checkcast 70, 3) := by decide +kernel
theorem dX7_statute_60 : decode cX7_statute 60 = .ok (.aload_n 0, 1) := by decide +kernel
theorem dX7_statute_61 : decode cX7_statute 61 = .ok (.getfield 50, 3) := by decide +kernel
theorem dX7_statute_64 : decode cX7_statute 64 = .ok (.invokespecial 74, 3) := by decide +kernel
theorem dX7_statute_67 : decode cX7_statute 67 = .ok (.areturn, 1) := by decide +kernel
theorem lk_J7_316 : Cond.methodLink RJ7 316 ⟨"[I", "clone", "()Ljava/lang/Object;"⟩ ∈ lw_g := mem_g 1481 (by decide +kernel) (by decide +kernel)
theorem lk_J7_304 : Cond.methodLink RJ7 304 Lib.Math.min.name ∈ lw_g := mem_g 1488 (by decide +kernel) (by decide +kernel)
theorem lk_J7_150 : Cond.methodLink RJ7 150 arraycopyName ∈ lw_g := mem_g 1489 (by decide +kernel) (by decide +kernel)
theorem ck_J7_317 : Cond.classLink RJ7 317 "[I" ∈ lw_g := mem_g 1487 (by decide +kernel) (by decide +kernel)
theorem ku_ku {κ : Nat → xK} {k : Nat} {t t' : xK} : ku (ku κ k t) k t' = ku κ k t' := by
  funext a
  unfold ku
  by_cases h : a = k
  · rw [if_pos h, if_pos h]
  · rw [if_neg h, if_neg h, if_neg h]
theorem kM_106 {Y : Nat → ClassId} {σ : Nat → Nat} {k n : Nat} {f : Nat → Int32} (h : (f 2147483648).toNatClampNeg = n) (g : Nat → Int64) : kM Y σ (106, 0, []) k f g = .inl (Y 0, n, .inl f) := by
  subst h
  rfl
theorem cpf_g {f : Nat → Int32} {len : Int32} : cpf f len 2147483648 = len := if_pos rfl
section XKT
variable {p : Program} {l : Launch} {e : Env} {R : Room} {s : State} {m : MethodId} {args : Array Value} {below : List Frame} {meth : Method} {c : Code} {nL : Nat} {Y : Nat → ClassId} {D : va_G} {σ : Nat → Nat} {κ : Nat → xK} {np n0 b0 cells slots : Nat} {Q : State → Prop} {pc : Nat} {L : List (Nat × Value)} {rest : List Value} {cm : Mc} {dm : Md} {cc : ByteArray} {own : String}
theorem k_wid {k n : Nat} (h1 : cells ≤ k) (h2 : slots ≤ n) (kk : Xk p l e R s m args below meth c nL Y D σ κ np b0 k n Q pc L rest cm dm) : Xk p l e R s m args below meth c nL Y D σ κ np b0 cells slots Q pc L rest cm dm := fun H locs ls hP hz hS hl => W.widen h1 h2 (kk H locs ls hP hz hS hl)
theorem k_areturn (hE : EOKk p s m args meth c cc nL own Y D σ n0 b0) {a : Nat} {rt : FieldType} (hrt : (∃ n, rt = .object n) ∨ ∃ t, rt = .array t) (hr : meth.sig.returnType = some rt) (hd : decode cc pc = .ok (.areturn, 1)) : Xk p l e R s m args below meth c nL Y D σ κ np b0 cells slots (MQ below (QK Y D σ κ np b0 (some (.ref a)) cm dm) args s cells slots (xA b0)) pc L [.ref a] cm dm := by
  intro H locs ls hP hz hS hl
  exact W.aret hE.1 hE.2.1 hr hrt (Or.inr ⟨a, rfl⟩) (fun t ht hW => ⟨rfl, by rw [ht]; exact hP, by rw [ht]; exact hz, hS.F ht⟩) hS.2.2 hd hE.2.2.2.2.2.2.2.2.2.1
theorem k_metR {y : MethodName} {maxL dp mc ms : Nat} {ret : Option FieldType} {v : Option Value} {av : List Value} {c1 : Mc} {d1 : Md} {κ1 : Nat → xK} {np1 : Nat} (hy : plainName y.cls = true) (hav : (lg_sl av).length ≤ maxL)
    (body : ∀ (p : Program) (e : Env) (s : State) (m : MethodId) (args : Array Value) (below : List Frame) (meth : Method) (c : Code), EOKk p s m args meth c cc maxL y.cls Y D σ n0 b0 → meth.sig.returnType = ret → meth.name = y.name →
      Xk p l e (rmK dp mc ms) s m args below meth c maxL Y D σ κ np b0 0 0 (MQ below (QK Y D σ κ1 np1 b0 v c1 d1) args s mc ms (xA b0)) 0 (lv_args 0 av) [] cm dm) :
    Met l y (.code y cc maxL ret :: lw_g) (rmK dp mc ms) (PK Y D σ κ np n0 b0 av cm dm) (QK Y D σ κ1 np1 b0 v c1 d1) mc ms (xA b0) := by
  refine Met.ofW (cc := cc) (maxL := maxL) (ret := ret) hy rfl ?_
  intro p e s m args below meth c s₁ B hml hv
  obtain ⟨rfl, hP, hz, hK, hN, hσ, hb0, hao⟩ := hv
  have hts := atoms_spec (ws := .code y cc maxL ret :: lw_g) B.pre
  have hE : EOKk p s m av.toArray meth c cc maxL y.cls Y D σ n0 b0 := ⟨B.exec, B.bytes, hml, findClass_of_methodNamed B.named, fun w hw => hts w (List.mem_cons_of_mem _ hw), hN, hK, hσ, hb0, B.notSynchronized, hao⟩
  rw [lg_entry_eq]
  exact body p e s m av.toArray below meth c hE B.returns (name_of_methodNamed B.named B.method).1 s.heap [] _ hP hz va_S.rf (lv_entry av hav)
theorem k_callS1 (hE : EOKk p s m args meth c cc nL own Y D σ n0 b0) {y : MethodName} {bytes : ByteArray} {maxL n index dq mc ms : Nat} {ret : Option FieldType} {v : Value} {c1 : Mc} {d1 : Md} {κ1 : Nat → xK} {np1 : Nat} (As : List Value) {st0 : List Value} (h0 : As.reverse ++ rest = st0) (hY : YOK y bytes maxL n ret) (hV : Cond.static y ∈ lw_g) (hw : Cond.methodLink own index y ∈ lw_g)
    (hR : (rmK dq mc ms).frames + 1 ≤ R.frames ∧ 8 + (maxL + 11) + (rmK dq mc ms).locals ≤ R.locals) (hcs : cells + mc ≤ R.cells ∧ slots + ms ≤ R.slots) (hn : As.length = n) (hst : (rest.map fun v => v.category).sum ≤ 8) (hd : decode cc pc = .ok (.invokestatic index, 3))
    (hM : Met l y (.code y bytes maxL ret :: lw_g) (rmK dq mc ms) (PK Y D σ κ np n0 b0 As cm dm) (QK Y D σ κ1 np1 b0 (some v) c1 d1) mc ms (xA b0))
    (kk : Xk p l e R s m args below meth c nL Y D σ κ1 np1 b0 (cells + mc) (slots + ms) Q (pc + 3) L (v :: rest) c1 d1) : Xk p l e R s m args below meth c nL Y D σ κ np b0 cells slots Q pc L st0 cm dm := by
  subst h0
  intro H locs ls hP hz hS hl
  refine k_ret hE (va_runS (As := As) (rest := rest) (Ts := lw_g) ⟨hE.1, hE.2.1, hE.2.2.1, hE.2.2.2.1, hE.2.2.2.2.1⟩ hM ⟨kcb_of hE hY hw rfl rfl hR, hE.2.2.2.2.1 _ hV⟩ ⟨pk_blind, fun U hU hW => pk_of hE hP hz hS hU hW⟩ rfl hn hl.1 rfl ?_ hd hcs) hS hl kk
  show 2 * 0 + _ ≤ 8
  rw [Nat.mul_zero, Nat.zero_add]
  exact hst
/-- a new int[] that tells its own length -/
theorem k_nG (hE : EOKk p s m args meth c cc nL own Y D σ n0 b0) (hnp : n0 ≤ np ∧ ph np = false) (hw : Cond.arrayClass .int ∈ lw_g) {n : Int32} (hn : ¬ n < 0) (hN : n.toNatClampNeg ≤ 300) (hcells : cells + 1 ≤ R.cells) (hslots : slots + n.toNatClampNeg ≤ R.slots) (hd : decode cc pc = .ok (.newarray .int, 2))
    (kk : Xk p l e R s m args below meth c nL Y D σ (ku κ np (106, 0, [])) (np + 1) b0 (cells + 1) (slots + n.toNatClampNeg) Q (pc + 2) L (.ref (σ np) :: rest) (up cm np (cpf (fun _ => 0) n)) dm) : Xk p l e R s m args below meth c nL Y D σ κ np b0 cells slots Q pc L (.int n :: rest) cm dm := by
  intro H locs ls hP hz hS hl
  refine va_newaK (atype := .int) hE.1 hE.2.1 (hE.2.2.2.2.1 _ hw) rfl hd rfl hn rfl (by show n.toNatClampNeg * 4 ≤ 536870912; omega) hcells hslots hz fun H1 cA e1 z1 o1 hAr hNm => ?_
  have hcy : cA = Y 0 := Option.some.inj (hNm.symm.trans (hE.2.2.2.2.2.2.1.2 0 _ rfl).2)
  subst hcy
  refine kk H1 locs ls ?_ (z1.trans ((hE.2.2.2.2.2.2.2.1.2.2 np hnp.1).1 hnp.2).symm) ⟨Nat.le_trans hS.1 (by omega), fun x h1 h2 => (o1 x (by rw [← hz]; exact Nat.lt_of_lt_of_le h1 hS.1)).trans (hS.2.1 x h1 h2), hS.2.2⟩ hl
  rw [wk_push (κ := κ) (κ' := ku κ np (106, 0, [])) (c := cm) (c' := up cm np (cpf (fun _ => 0) n)) (d := dm) (d' := dm) hnp.2 (fun i hi => ⟨if_neg (by omega), if_neg (by omega), rfl⟩)]
  refine (hP.kept (fun k x hx => o1 x.1 (by rw [← hz]; exact (hP k x hx).lt))).app (fun k x hx => ?_)
  have hz0 : k < 1 := (List.getElem?_eq_some_iff.mp hx).1
  rw [show k = 0 by omega] at hx
  cases hx
  rw [ku_eq, show up cm np (cpf (fun _ => 0) n) np = cpf (fun _ => 0) n from if_pos rfl, kM_106 (n := n.toNatClampNeg) (by rw [cpf_g])]
  show H1[σ np]? = some (vp_cell _ _)
  rw [vp_cell_i, e1]
  refine congrArg some (arrV_congr (fun j hj => ?_))
  have : cpf (fun _ => 0) n j = 0 := by
    unfold cpf
    rw [if_neg (by omega)]
    split <;> rfl
  rw [this]
  rfl
/-- 'arraycopy' of the whole, from its start -/
theorem k_acopy (hE : EOKk p s m args meth c cc nL own Y D σ n0 b0) {k0 k1 a0 a1 index : Nat} {n : Int32} (hk0 : Kn k0 np ∧ kM Y σ (κ k0) k0 (cm k0) (dm k0) = .inl (Y 0, a0, .inl (cm k0))) (hk1 : Kn k1 np ∧ kM Y σ (κ k1) k1 (cm k1) (dm k1) = .inl (Y 0, a1, .inl (cm k1))) (hk2 : kM Y σ (κ k1) k1 (va_cpy (cm k0) (cm k1) 0 0 n.toNatClampNeg) (dm k1) = .inl (Y 0, a1, .inl (va_cpy (cm k0) (cm k1) 0 0 n.toNatClampNeg)))
    (hw : Cond.methodLink own index arraycopyName ∈ lw_g) (hn : ¬ n < 0) (h0 : n.toNatClampNeg ≤ a0) (h1 : n.toNatClampNeg ≤ a1) (hst : (rest.map fun v => v.category).sum ≤ 8) (hRf : 1 ≤ R.frames) (hRl : 128 ≤ R.locals) (hd : decode cc pc = .ok (.invokestatic index, 3)) (kk : Xk p l e R s m args below meth c nL Y D σ κ np b0 cells slots Q (pc + 3) L rest (up cm k1 (va_cpy (cm k0) (cm k1) 0 0 n.toNatClampNeg)) dm) : Xk p l e R s m args below meth c nL Y D σ κ np b0 cells slots Q pc L (.int n :: .int 0 :: .ref (σ k1) :: .int 0 :: .ref (σ k0) :: rest) cm dm := by
  intro H locs ls hP hz hS hl T hT X
  have nn : ∀ z : Int32, ¬ z < 0 → z.toInt = (z.toNatClampNeg : Int) := by
    intro z hz
    have hz0 : (0 : Int) ≤ z.toInt := by
      have := Int32.not_lt.mp hz
      simpa using Int32.le_iff_toInt_le.mp this
    show z.toInt = ((z.toInt.toNat : Nat) : Int)
    omega
  have he0 := wk_at (Y := Y) (σ := σ) (κ := κ) (c := cm) (d := dm) hk0.1
  have he1 := wk_at (Y := Y) (σ := σ) (κ := κ) (c := cm) (d := dm) hk1.1
  rw [hk0.2] at he0
  rw [hk1.2] at he1
  have hc0 : H[σ k0]? = some (vp_cell (Y 0) (a0, .inl (cm k0))) := hP (ix k0) _ he0
  have hc1 : H[σ k1]? = some (vp_cell (Y 0) (a1, .inl (cm k1))) := hP (ix k1) _ he1
  have z0 : ((0 : Int32).toNatClampNeg) = 0 := by decide
  have hnf : nativeFrameWords "java/lang/System" "arraycopy" 5 + 11 ≤ 120 := by decide +kernel
  obtain ⟨-, q0, hq0, m0, hm0⟩ := (hE.2.2.2.2.2.2.1.2 0 _ rfl).1 a0 (fun j => .int (cm k0 j))
  obtain ⟨-, q1, hq1, m1, hm1⟩ := (hE.2.2.2.2.2.2.1.2 0 _ rfl).1 a1 (fun j => .int (cm k1 j))
  replace hm0 : q0.kind = .array m0 .int := hm0
  replace hm1 : q1.kind = .array m1 .int := hm1
  obtain ⟨vm', X', step⟩ := X.arraycopy hE.1 hE.2.2.2.1 (hE.2.2.2.2.1 _ hw) (hE.2.2.2.2.1 _ (mem_g 1043 (by decide +kernel) (by decide +kernel))) (hE.2.2.2.2.1 _ (mem_g 1042 (by decide +kernel) (by decide +kernel))) (hE.2.2.2.2.1 _ (mem_g 149 (by decide +kernel) (by decide +kernel))) (src := σ k0) (dst := σ k1) (cs := vp_cell (Y 0) (a0, .inl (cm k0))) (cd := vp_cell (Y 0) (a1, .inl (cm k1))) (srcPos := 0) (destPos := 0) (n := n) (by rw [hT]; exact hc0) (by rw [hT]; exact hc1)
    (fun _ h => by cases h) (fun _ h => by cases h) (fun h => by cases h) (fun h => by cases h) hq0 hq1 hm0 hm1 (by decide) (by decide) (by decide) hn
    (by rw [nn n hn]; show ¬ (0 : Int) + _ > ((arrV (Y 0) a0 (fun j => .int (cm k0 j))).slots.size : Int); rw [arrV_size]; omega)
    (by rw [nn n hn]; show ¬ (0 : Int) + _ > ((arrV (Y 0) a1 (fun j => .int (cm k1 j))).slots.size : Int); rw [arrV_size]; omega)
    (fun vm₁ _ i hi => by
      have e : (vp_cell (Y 0) (a0, .inl (cm k0))).slots.getD ((0 : Int32).toNatClampNeg + i) .null = .int (cm k0 ((0 : Int32).toNatClampNeg + i)) := by
        show (arrV (Y 0) a0 (fun j => .int (cm k0 j))).slots.getD _ _ = _
        rw [Array.getD_eq_getD_getElem?, arrV_read _ _ (by rw [z0]; omega)]
        rfl
      rw [e]
      exact ⟨rfl, trivial⟩)
    (g := F0 m pc ls (.int n :: .int 0 :: .ref (σ k1) :: .int 0 :: .ref (σ k0) :: rest)) rfl (hl.1.trans hE.2.2.1.symm) (rest := rest) rfl (by rw [hE.2.1]; exact hd) hRf (by show 2 * 0 + _ + _ ≤ _; omega)
  have e1 : copied (vp_cell (Y 0) (a0, .inl (cm k0))) (vp_cell (Y 0) (a1, .inl (cm k1))) 0 0 n = vp_cell (Y 0) (a1, .inl (va_cpy (cm k0) (cm k1) 0 0 n.toNatClampNeg)) := va_copied (fun z => .int z) (Y 0) (Y 0) (cm k0) (cm k1) (by rw [z0]; omega)
  rw [e1] at X' step
  have hll : σ k1 < H.size := (Array.getElem?_eq_some_iff.mp hc1).1
  generalize hH1 : H.setIfInBounds (σ k1) (vp_cell (Y 0) (a1, .inl (va_cpy (cm k0) (cm k1) 0 0 n.toNatClampNeg))) = H1
  have hheap : ((T.setVm vm').setCell (σ k1) (vp_cell (Y 0) (a1, .inl (va_cpy (cm k0) (cm k1) 0 0 n.toNatClampNeg)))).heap = H1 := by rw [← hH1, ← hT]; rfl
  have oq : ∀ q : Nat, q ≠ σ k1 → H1[q]? = H[q]? := fun q hq => by rw [← hH1]; simp [Array.getElem?_setIfInBounds, Ne.symm hq]
  have zz : H1.size = H.size := by rw [← hH1]; simp
  have hD := wk_D (Y := Y) (κ := κ) (np := np) (c := cm) (d := dm) hE.2.2.2.2.2.2.2.1
  have hP1 := hP.set hD he1 (show va_at D cl0 (σ k1, .inl (Y 0, a1, .inl (va_cpy (cm k0) (cm k1) 0 0 n.toNatClampNeg))) H1 from by
    show H1[σ k1]? = some _
    rw [← hH1]
    simp [Array.getElem?_setIfInBounds, hll]) oq
  rw [wk_set (κ' := κ) (c' := up cm k1 (va_cpy (cm k0) (cm k1) 0 0 n.toNatClampNeg)) (d' := dm) hk1.1 (by rw [show up cm k1 (va_cpy (cm k0) (cm k1) 0 0 n.toNatClampNeg) k1 = va_cpy (cm k0) (cm k1) 0 0 n.toNatClampNeg from if_pos rfl]; exact hk2) (fun a ha => ⟨rfl, if_neg ha, rfl⟩)] at hP1
  obtain ⟨t, a1', b1⟩ := kk H1 _ ls hP1 (zz.trans hz) ⟨by rw [zz]; exact hS.1, fun q g1 g2 => by
      rw [oq q (fun e => g2 (by rw [e]; exact hD.2 (ix k1) _ he1))]
      exact hS.2.1 q g1 g2, fun q hq => by
      rcases List.mem_append.mp hq with h | h
      · exact hS.2.2 q h
      · obtain ⟨z, -, hzz⟩ := List.mem_map.mp h
        rw [← hzz]
        exact hD.2 (ix k1) _ he1⟩ hl _ hheap X'
  exact ⟨t, step t a1', b1⟩
end XKT
theorem len300 {x : Int32} (h1 : ¬ x < 0) (h2 : x.toNatClampNeg ≤ 300) : xmin (nI 300) x = x := by
  unfold xmin
  by_cases h : x < nI 300
  · rw [if_pos h]
  · rw [if_neg h]
    have h3 : nI 300 ≤ x := Int32.not_lt.mp h
    have h4 : (300 : Int) ≤ x.toInt := Int32.le_iff_toInt_le.mp h3
    have h5 : x.toInt.toNat ≤ 300 := h2
    apply Int32.toInt_inj.mp
    show (300 : Int) = x.toInt
    omega
theorem yokJ7_copyOf : YOK yJ7_copyOf_59c91 cJ7_copyOf_59c91 3 2 (some (.array .int)) := ⟨(mem_g 1480 (by decide +kernel) (by decide +kernel)), (mem_g 135 (by decide +kernel) (by decide +kernel)), by decide +kernel, by decide +kernel, by decide +kernel⟩
theorem ysJ7_copyOf : Cond.static yJ7_copyOf_59c91 ∈ lw_g := (mem_g 1479 (by decide +kernel) (by decide +kernel))
theorem k_copyOf (l : Launch) {Y : Nat → ClassId} {D : va_G} {σ : Nat → Nat} {κ : Nat → xK} {np n0 b0 k : Nat} {cm : Mc} {dm : Md} {len : Int32} (hnp : n0 ≤ np ∧ ph np = false) (hk : Kn k np ∧ κ k = (100, 300, [])) (h1 : ¬ len < 0) (h2 : len.toNatClampNeg ≤ 300) : Met l yJ7_copyOf_59c91 (.code yJ7_copyOf_59c91 cJ7_copyOf_59c91 3 (some (.array .int)) :: lw_g) (rmK 2 1 300) (PK Y D σ κ np n0 b0 [.ref (σ k), .int len] cm dm) (QK Y D σ (ku κ np (106, 0, [])) (np + 1) b0 (some (.ref (σ np))) (up cm np (cpf (cm k) len)) dm) 1 300 (xA b0) := by
  refine k_metR (by decide) (Nat.le_of_ble_eq_true rfl) (fun p e s m args below meth c hE hr hin => ?_)
  have hkn : k ≠ np := by have := hk.1.1; omega
  refine k_pick [0, 1] (L' := [(0, .ref (σ k)), (1, .int len)]) rfl ?_
  refine k_iload_n hE 1 dJ7_copyOf_59c91_0 rfl rfl ?_
  refine k_aload_n hE 0 dJ7_copyOf_59c91_1 rfl rfl ?_
  refine k_alen hE hk dJ7_copyOf_59c91_2 ?_
  refine k_if_ne hE 14 dJ7_copyOf_59c91_3 (by decide) (fun h => ?_) (fun h => ?_)
  · have hM1 : ∀ g : Mc, up cm np (cpf (fun _ => 0) len) k = cm k := fun _ => if_neg hkn
    have hM2 : up cm np (cpf (fun _ => 0) len) np = cpf (fun _ => 0) len := if_pos rfl
    have hk1 : Kn k (np + 1) ∧ ku κ np (106, 0, []) k = (100, 300, []) := ⟨⟨by have := hk.1.1; omega, hk.1.2⟩, by rw [ku_ne hkn]; exact hk.2⟩
    refine k_iload_n hE 1 dJ7_copyOf_59c91_14 rfl rfl ?_
    refine k_nG hE hnp ac_I h1 h2 (Nat.le_of_ble_eq_true rfl) (by show 0 + len.toNatClampNeg ≤ 300; omega) dJ7_copyOf_59c91_15 ?_
    refine k_astore_n hE (L' := [(2, .ref (σ np)), (0, .ref (σ k)), (1, .int len)]) dJ7_copyOf_59c91_17 rfl (by decide) rfl ?_
    refine k_aload_n hE 1 dJ7_copyOf_59c91_18 rfl rfl ?_
    refine k_iconst hE (0 : Int32) dJ7_copyOf_59c91_19 (by decide) ?_
    refine k_aload_n hE 0 dJ7_copyOf_59c91_20 rfl rfl ?_
    refine k_iconst hE (0 : Int32) dJ7_copyOf_59c91_21 (by decide) ?_
    refine k_aload_n hE 1 dJ7_copyOf_59c91_22 rfl rfl ?_
    refine k_alen hE hk1 dJ7_copyOf_59c91_23 ?_
    refine k_iload_n hE 2 dJ7_copyOf_59c91_24 rfl rfl ?_
    refine k_min hE lk_J7_304 (Nat.le_of_ble_eq_true rfl) (Nat.le_of_ble_eq_true rfl) (Nat.le_of_ble_eq_true rfl) ⟨Nat.le_of_ble_eq_true rfl, by show 0 + len.toNatClampNeg ≤ 300; omega⟩ dJ7_copyOf_59c91_25 ?_
    rw [len300 h1 h2]
    refine k_acopy hE (k0 := k) (k1 := np) (a0 := 300) (a1 := len.toNatClampNeg) ⟨hk1.1, by rw [hk1.2]; rfl⟩ ⟨⟨Nat.lt_succ_self np, hnp.2⟩, by rw [ku_eq, hM2]; exact kM_106 (by rw [cpf_g]) _⟩ (by rw [ku_eq]; exact kM_106 (by show (if 0 ≤ 2147483648 ∧ 2147483648 < 0 + len.toNatClampNeg then _ else _ : Int32).toNatClampNeg = _; rw [if_neg (by omega), hM2, cpf_g]) _) lk_J7_150 h1 h2 (Nat.le_refl _) (Nat.le_of_ble_eq_true rfl) (Nat.le_of_ble_eq_true rfl) (Nat.le_of_ble_eq_true rfl) dJ7_copyOf_59c91_28 ?_
    refine k_aload_n hE 0 dJ7_copyOf_59c91_31 rfl rfl ?_
    have hM : up (up cm np (cpf (fun _ => 0) len)) np (va_cpy (up cm np (cpf (fun _ => 0) len) k) (up cm np (cpf (fun _ => 0) len) np) 0 0 len.toNatClampNeg) = up cm np (cpf (cm k) len) := by
      funext a
      show (if a = np then _ else (if a = np then _ else cm a)) = (if a = np then _ else cm a)
      by_cases ha : a = np
      · rw [if_pos ha, if_pos ha, hM1 cm, hM2]
        funext j
        show (if 0 ≤ j ∧ j < 0 + len.toNatClampNeg then cm k (0 + (j - 0)) else cpf (fun _ => 0) len j) = cpf (cm k) len j
        unfold cpf
        by_cases hj : j < len.toNatClampNeg
        · rw [if_pos (by omega), if_neg (show ¬ j = 2147483648 by omega), if_pos hj]
          congr 1
          omega
        · rw [if_neg (by omega), if_neg hj, if_neg hj]
      · rw [if_neg ha, if_neg ha, if_neg ha]
    rw [hM]
    refine k_wid (k := 1) (n := 300) (Nat.le_refl _) (by omega) ?_
    exact k_areturn hE (Or.inr ⟨_, rfl⟩) hr dJ7_copyOf_59c91_32
  · have hlen : len.toNatClampNeg = 300 := by rw [h]; decide
    refine k_aload_n hE 0 dJ7_copyOf_59c91_6 rfl rfl ?_
    refine k_clone hE (106, 0, []) (cpf (cm k) len) hnp hk (fun g => kM_106 (by rw [cpf_g, hlen]) g) (fun j hj => by unfold cpf; rw [if_neg (by omega), if_pos (by omega)]) lk_J7_316 (Nat.le_of_ble_eq_true rfl) (Nat.le_of_ble_eq_true rfl) (Nat.le_of_ble_eq_true rfl) (Nat.le_of_ble_eq_true rfl) dJ7_copyOf_59c91_7 ?_
    refine k_cast hE (k := np) (n := 300) (f := cpf (cm k) len) ⟨⟨Nat.lt_succ_self np, hnp.2⟩, by rw [ku_eq, show up cm np (cpf (cm k) len) np = cpf (cm k) len from if_pos rfl]; exact kM_106 (by rw [cpf_g, hlen]) _⟩ ck_J7_317 dJ7_copyOf_59c91_10 ?_
    exact k_areturn hE (Or.inr ⟨_, rfl⟩) hr dJ7_copyOf_59c91_13
theorem lo_X8_3 : Cond.methodLink RX8 3 objectInit ∈ lw_g := mem_g 1495 (by decide +kernel) (by decide +kernel)
theorem lk_X8i_0 : Cond.fieldLink RX8 9 (TX8 0).1 (TX8 0).2.1 (TX8 0).2.2.1 ∈ lw_g := mem_g 1496 (by decide +kernel) (by decide +kernel)
theorem lk_X8i_1 : Cond.fieldLink RX8 15 (TX8 1).1 (TX8 1).2.1 (TX8 1).2.2.1 ∈ lw_g := mem_g 1497 (by decide +kernel) (by decide +kernel)
theorem lk_X8i_2 : Cond.fieldLink RX8 18 (TX8 2).1 (TX8 2).2.1 (TX8 2).2.2.1 ∈ lw_g := mem_g 1498 (by decide +kernel) (by decide +kernel)
theorem lk_X8i_3 : Cond.fieldLink RX8 21 (TX8 3).1 (TX8 3).2.1 (TX8 3).2.2.1 ∈ lw_g := mem_g 1499 (by decide +kernel) (by decide +kernel)
theorem yokX8_init : YOK yX8_init cX8_init 5 4 none := ⟨(mem_g 1494 (by decide +kernel) (by decide +kernel)), (mem_g 150 (by decide +kernel) (by decide +kernel)), by decide +kernel, by decide +kernel, by decide +kernel⟩
theorem yiX8_init : Cond.instanceMethod yX8_init ∈ lw_g := (mem_g 1493 (by decide +kernel) (by decide +kernel))
theorem k_X8_init (l : Launch) {Y : Nat → ClassId} {D : va_G} {σ : Nat → Nat} {κ : Nat → xK} {np n0 b0 z : Nat} {cm : Mc} {dm : Md} {fl : Int32} (hz : Kn z np ∧ κ z = (208, 0, [2, 2, 2, 0])) (hfl : fl = 0 ∨ fl = 1) : Met l yX8_init (.code yX8_init cX8_init 5 none :: lw_g) (rmK 1 0 0) (PK Y D σ κ np n0 b0 [.ref (σ z), .ref (σ (z + 1)), .ref (σ (z + 2)), .ref (σ (z + 3)), .int fl] cm dm) (QK Y D σ (ku κ z (208, 0, [z + 4, z + 5, z + 6, 0])) np b0 none (wr cm z 3 fl) dm) 0 0 (xA b0) := by
  refine k_met (by decide) (Nat.le_of_ble_eq_true rfl) (fun p e s m args below meth c hE hr hin => ?_)
  refine k_pick [0, 1, 2, 3, 4] (L' := [(0, .ref (σ z)), (1, .ref (σ (z + 1))), (2, .ref (σ (z + 2))), (3, .ref (σ (z + 3))), (4, .int fl)]) rfl ?_
  have hfin : ∀ j, j < 4 → (TX8 j).2.2.2 = true ∧ (TX8 j).1 = RX8 := by decide +kernel
  refine k_aload_n hE 0 dX8_init_0 rfl rfl ?_
  refine k_obj hE lo_X8_3 oi_i oi_c dX8_init_1 (Nat.le_of_ble_eq_true rfl) (Nat.le_of_ble_eq_true rfl) ?_
  refine k_aload_n hE 0 dX8_init_4 rfl rfl ?_
  refine k_aload_n hE 1 dX8_init_5 rfl rfl ?_
  refine k_put hE [z + 4, 2, 2, 0] cl_8 hz 0 (z + 4) (.ref (σ (z + 1))) cm rfl (by decide) (by decide) lk_X8i_0 rfl (fun _ _ _ => rfl) (Or.inr ⟨(hfin 0 (by decide)).1, hin, (hfin 0 (by decide)).2⟩) (tyX8_ok 0 (by decide)) rfl rfl dX8_init_6 ?_
  refine k_aload_n hE 0 dX8_init_9 rfl rfl ?_
  refine k_aload_n hE 2 dX8_init_10 rfl rfl ?_
  refine k_put hE [z + 4, z + 5, 2, 0] cl_8 ⟨hz.1, ku_eq⟩ 1 (z + 5) (.ref (σ (z + 2))) cm rfl (Nat.le_of_ble_eq_true rfl) (by decide) lk_X8i_1 rfl (fun _ _ _ => rfl) (Or.inr ⟨(hfin 1 (by decide)).1, hin, (hfin 1 (by decide)).2⟩) (tyX8_ok 1 (by decide)) rfl rfl dX8_init_11 ?_
  refine k_aload_n hE 0 dX8_init_14 rfl rfl ?_
  refine k_aload_n hE 3 dX8_init_15 rfl rfl ?_
  refine k_put hE [z + 4, z + 5, z + 6, 0] cl_8 ⟨hz.1, ku_eq⟩ 2 (z + 6) (.ref (σ (z + 3))) cm rfl (Nat.le_of_ble_eq_true rfl) (by decide) lk_X8i_2 rfl (fun _ _ _ => rfl) (Or.inr ⟨(hfin 2 (by decide)).1, hin, (hfin 2 (by decide)).2⟩) (tyX8_ok 2 (by decide)) rfl rfl dX8_init_16 ?_
  refine k_aload_n hE 0 dX8_init_19 rfl rfl ?_
  refine k_iload hE 4 dX8_init_20 rfl ?_
  refine k_put hE [z + 4, z + 5, z + 6, 0] cl_8 ⟨hz.1, ku_eq⟩ 3 0 (.int fl) (wr cm z 3 fl) rfl (Nat.le_of_ble_eq_true rfl) (by decide) lk_X8i_3 (by show Value.int (if z = z ∧ 3 = 3 then fl else cm z 3) = _; rw [if_pos ⟨rfl, rfl⟩]) (fun a i h => if_neg (fun q => h.elim (fun h => h q.1) (fun h => h q.2))) (Or.inr ⟨(hfin 3 (by decide)).1, hin, (hfin 3 (by decide)).2⟩) (tyX8_ok 3 (by decide)) (by rcases hfl with rfl | rfl <;> rfl) (by rcases hfl with rfl | rfl <;> rfl) dX8_init_22 ?_
  rw [ku_ku, ku_ku, ku_ku]
  exact k_vreturn hE hr dX8_init_25
section XKU
variable {p : Program} {l : Launch} {e : Env} {R : Room} {s : State} {m : MethodId} {args : Array Value} {below : List Frame} {meth : Method} {c : Code} {nL : Nat} {Y : Nat → ClassId} {D : va_G} {σ : Nat → Nat} {κ : Nat → xK} {np n0 b0 cells slots : Nat} {Q : State → Prop} {pc : Nat} {L : List (Nat × Value)} {rest : List Value} {cm : Mc} {dm : Md} {cc : ByteArray} {own : String}
theorem k_if_lt (hE : EOKk p s m args meth c cc nL own Y D σ n0 b0) {β : Type} {r : β} {A B : Option β} {x : Int32} {off : Int} (tgt : Nat) (hd : decode cc pc = .ok (.ifCond .lt off, 3)) (ht : (pc : Int) + off = (tgt : Int)) (hf : (if x < 0 then A else B) = some r) (kt : A = some r → Xk p l e R s m args below meth c nL Y D σ κ np b0 cells slots Q tgt L rest cm dm) (kf : B = some r → Xk p l e R s m args below meth c nL Y D σ κ np b0 cells slots Q (pc + 3) L rest cm dm) : Xk p l e R s m args below meth c nL Y D σ κ np b0 cells slots Q pc L (.int x :: rest) cm dm := fun H locs ls hP hz hS hl => lv_if_lt hE.1 hE.2.1 hd ht (fun h => kt (by rw [if_pos h] at hf; exact hf) H locs ls hP hz hS hl) (fun h => kf (by rw [if_neg h] at hf; exact hf) H locs ls hP hz hS hl)
theorem k_icmp_gt (hE : EOKk p s m args meth c cc nL own Y D σ n0 b0) {β : Type} {r : β} {A B : Option β} {x y : Int32} {off : Int} (tgt : Nat) (hd : decode cc pc = .ok (.if_icmp .gt off, 3)) (ht : (pc : Int) + off = (tgt : Int)) (hf : (if y < x then A else B) = some r) (kt : A = some r → Xk p l e R s m args below meth c nL Y D σ κ np b0 cells slots Q tgt L rest cm dm) (kf : B = some r → Xk p l e R s m args below meth c nL Y D σ κ np b0 cells slots Q (pc + 3) L rest cm dm) : Xk p l e R s m args below meth c nL Y D σ κ np b0 cells slots Q pc L (.int y :: .int x :: rest) cm dm := fun H locs ls hP hz hS hl => lv_icmp_gt hE.1 hE.2.1 hd ht (fun h => kt (by rw [if_pos h] at hf; exact hf) H locs ls hP hz hS hl) (fun h => kf (by rw [if_neg h] at hf; exact hf) H locs ls hP hz hS hl)
theorem lk_X7t_cells : Cond.fieldLink RX7 47 (TX7 8).1 (TX7 8).2.1 (TX7 8).2.2.1 ∈ lw_g := mem_g 511 (by decide +kernel) (by decide +kernel)
theorem lk_X7t_code : Cond.fieldLink RX7 21 (TX7 7).1 (TX7 7).2.1 (TX7 7).2.2.1 ∈ lw_g := mem_g 510 (by decide +kernel) (by decide +kernel)
theorem lk_X7t_from : Cond.fieldLink RX7 24 (TX7 9).1 (TX7 9).2.1 (TX7 9).2.2.1 ∈ lw_g := mem_g 512 (by decide +kernel) (by decide +kernel)
theorem lk_X7t_end : Cond.fieldLink RX7 27 (TX7 10).1 (TX7 10).2.1 (TX7 10).2.2.1 ∈ lw_g := mem_g 513 (by decide +kernel) (by decide +kernel)
theorem lk_X7t_falls : Cond.fieldLink RX7 50 (TX7 11).1 (TX7 11).2.1 (TX7 11).2.2.1 ∈ lw_g := mem_g 514 (by decide +kernel) (by decide +kernel)
theorem lk_X7_65 : Cond.methodLink RX7 65 yJ7_copyOf_59c91 ∈ lw_g := mem_g 1478 (by decide +kernel) (by decide +kernel)
theorem lk_X7_69 : Cond.methodLink RX7 69 ⟨"[I", "clone", "()Ljava/lang/Object;"⟩ ∈ lw_g := mem_g 1490 (by decide +kernel) (by decide +kernel)
theorem lk_X7_74 : Cond.methodLink RX7 74 yX8_init ∈ lw_g := mem_g 1492 (by decide +kernel) (by decide +kernel)
theorem ck_X7_63 : Cond.classLink RX7 63 RX8 ∈ lw_g := mem_g 1476 (by decide +kernel) (by decide +kernel)
theorem ck_X7_70 : Cond.classLink RX7 70 "[I" ∈ lw_g := mem_g 1491 (by decide +kernel) (by decide +kernel)
theorem cs_8 : Cond.instantiable RX8 4 ∈ lw_g := (mem_g 1477 (by decide +kernel) (by decide +kernel))
theorem cn_8 : Cond.initialized RX8 ∈ lw_g := (mem_g 150 (by decide +kernel) (by decide +kernel))
theorem dv_8 {σ : Nat → Nat} {g : Nat → Int64} : ∀ j t : Nat, ([2, 2, 2, 0] : List Nat)[j]? = some t → defaultValue (tyX8 j) = kGV σ (fun _ => 0) g j t := by
  intro j t h
  have hj : j < 4 := (List.getElem?_eq_some_iff.mp h).1
  rcases (show j = 0 ∨ j = 1 ∨ j = 2 ∨ j = 3 by omega) with rfl | rfl | rfl | rfl
  · obtain rfl : 2 = t := Option.some.inj h
    rfl
  · obtain rfl : 2 = t := Option.some.inj h
    rfl
  · obtain rfl : 2 = t := Option.some.inj h
    rfl
  · obtain rfl : 0 = t := Option.some.inj h
    rfl
theorem up_ne {c : Mc} {k a : Nat} {f : Nat → Int32} (h : a ≠ k) : up c k f a = c a := if_neg h
/-- 'new' of a class without longs: the longs stay as they are -/
theorem k_newN (hE : EOKk p s m args meth c cc nL own Y D σ n0 b0) {C : String} {T : u_T} {N ci index : Nat} {ty0 : Nat → FieldType} (lk : List Nat) (hc : CLok ci C T N ty0) (hnp : n0 ≤ np ∧ ph np = false) (hcl : Cond.classLink own index C ∈ lw_g) (hins : Cond.instantiable C N ∈ lw_g) (hini : Cond.initialized C ∈ lw_g)
    (hlk : lk.length = N) (hdv : ∀ j t, lk[j]? = some t → defaultValue (ty0 j) = kGV σ (fun _ => 0) (dm np) j t) (hκ : κ np = (200 + ci, 0, lk)) (hcells : cells + 1 ≤ R.cells) (hslots : slots + N ≤ R.slots) (hd : decode cc pc = .ok (.new index, 3))
    (kk : Xk p l e R s m args below meth c nL Y D σ κ (np + 1) b0 (cells + 1) (slots + N) Q (pc + 3) L (.ref (σ np) :: rest) (up cm np (fun _ => 0)) dm) : Xk p l e R s m args below meth c nL Y D σ κ np b0 cells slots Q pc L rest cm dm := by
  intro H locs ls hP hz hS hl
  have hKn := hE.2.2.2.2.2.2.1.1 ci _ hc.1
  refine W.newcK hE.1 hE.2.1 hE.2.2.2.1 (hE.2.2.2.2.1 _ hcl) (hE.2.2.2.2.1 _ hins) (hE.2.2.2.2.1 _ hini) rfl hd hcells hslots hKn.2.1 hz fun H1 kC hkC e1 z1 o1 => ?_
  refine kk H1 locs ls ?_ (z1.trans ((hE.2.2.2.2.2.2.2.1.2.2 np hnp.1).1 hnp.2).symm) ⟨Nat.le_trans hS.1 (by omega), fun x h1 h2 => (o1 x (by rw [← hz]; exact Nat.lt_of_lt_of_le h1 hS.1)).trans (hS.2.1 x h1 h2), hS.2.2⟩ hl
  rw [wk_push (κ := κ) (κ' := κ) (c := cm) (c' := up cm np (fun _ => 0)) (d := dm) (d' := dm) hnp.2 (fun i hi => ⟨rfl, if_neg (by omega), rfl⟩)]
  refine (hP.kept (fun k x hx => o1 x.1 (by rw [← hz]; exact (hP k x hx).lt))).app (fun k x hx => ?_)
  have hz0 : k < 1 := (List.getElem?_eq_some_iff.mp hx).1
  rw [show k = 0 by omega] at hx
  cases hx
  rw [hκ, kM_new]
  refine ⟨_, hc.1, (u_born ty0 hE.2.2.2.2.1 hc.2.1 hKn hkC e1 hc.2.2.1).to (fun j hj => ?_)⟩
  have hjl : j < lk.length := by rw [hlk]; exact hj
  have hg := kG_get σ (up cm np (fun _ => 0) np) (dm np) lk 0 j _ (List.getElem?_eq_getElem hjl)
  rw [Nat.zero_add] at hg
  simp only [vp_V, List.getD_eq_getElem?_getD, hg, Option.getD_some]
  rw [hdv j _ (List.getElem?_eq_getElem hjl), show up cm np (fun _ => 0) np = fun _ => 0 from if_pos rfl]
end XKU
theorem kF_sig {σ σ' : Nat → Nat} {np : Nat} (hs : ∀ k, k < np → σ' k = σ k) {f : Nat → Int32} {g : Nat → Int64} : ∀ (l : List Nat) (b : Nat), (∀ t ∈ l, t < np + 2) → kF σ' f g b l = kF σ f g b l
  | [], b, _ => rfl
  | 0 :: l, b, h => by
    show Value.int (f b) :: kF σ' f g (b + 1) l = Value.int (f b) :: kF σ f g (b + 1) l
    rw [kF_sig hs l (b + 1) (fun t ht => h t (List.mem_cons_of_mem _ ht))]
  | 1 :: l, b, h => by
    show Value.long (g b) :: kF σ' f g (b + 1) l = Value.long (g b) :: kF σ f g (b + 1) l
    rw [kF_sig hs l (b + 1) (fun t ht => h t (List.mem_cons_of_mem _ ht))]
  | (n + 2) :: l, b, h => by
    have h2 := h (n + 2) List.mem_cons_self
    show Value.ref (σ' n) :: kF σ' f g (b + 1) l = Value.ref (σ n) :: kF σ f g (b + 1) l
    rw [kF_sig hs l (b + 1) (fun t ht => h t (List.mem_cons_of_mem _ ht)), hs n (by omega)]
theorem kd_old : ∀ k : Nat, k < 146 → ((kd k).1 = 104 → k + 1 + (kd k).2.1 ≤ 146) ∧ ((kd k).1 = 105 → k = 16 ∧ (kd k).2.1 = 12) ∧ ((kd k).1 < 100 → ∀ t ∈ (kd k).2.2, t < 148) ∧ (kd k).1 < 108 ∧ ((kd k).1 = 107 → ph k = true) := by decide +kernel
theorem kd_law {k : Nat} (h : 146 ≤ k) : ((k - 146) % 4 = 0 ∧ kd k = (8, 0, [2 + (k + 1), 2 + (k + 2), 2 + (k + 3), 0])) ∨ ((k - 146) % 4 = 1 ∧ kd k = (106, 0, [])) ∨ ((k - 146) % 4 = 2 ∧ kd k = (100, 8, [])) ∨ ((k - 146) % 4 = 3 ∧ kd k = (100, 8, [])) := by
  have h4 : (k - 146) % 4 < 4 := Nat.mod_lt _ (by decide)
  have hn : ¬ k < 146 := by omega
  unfold kd
  rw [if_neg hn]
  rcases (show (k - 146) % 4 = 0 ∨ (k - 146) % 4 = 1 ∨ (k - 146) % 4 = 2 ∨ (k - 146) % 4 = 3 by omega) with q | q | q | q
  · exact Or.inl ⟨q, by rw [q]; rfl⟩
  · exact Or.inr (Or.inl ⟨q, by rw [q]; rfl⟩)
  · exact Or.inr (Or.inr (Or.inl ⟨q, by rw [q]; rfl⟩))
  · exact Or.inr (Or.inr (Or.inr ⟨q, by rw [q]; rfl⟩))
theorem kd_lt8 (k : Nat) : (kd k).1 < 108 := by
  by_cases h : k < 146
  · exact (kd_old k h).2.2.2.1
  · rcases kd_law (k := k) (by omega) with q | q | q | q <;> (rw [q.2]; exact Nat.le_of_ble_eq_true rfl)
theorem kd_lt {k : Nat} (hp : ph k = false) : (kd k).1 < 107 := by
  by_cases h : k < 146
  · have h1 := (kd_old k h).2.2.2.1
    have h2 : (kd k).1 ≠ 107 := fun q => by
      have := (kd_old k h).2.2.2.2 q
      rw [hp] at this
      cases this
    omega
  · rcases kd_law (k := k) (by omega) with q | q | q | q <;> (rw [q.2]; exact Nat.le_of_ble_eq_true rfl)
theorem va_P_ext {D : va_G} {Y : Nat → ClassId} {σ σ' : Nat → Nat} {np : Nat} {c : Mc} {d : Md} {H : Heap} (hs : ∀ k, k < np → σ' k = σ k) (hal : (np - 146) % 4 = 0) (h146 : 146 ≤ np) (hB : Bk np c) (h : va_P D cl0 (Wl Y σ np c d) H) : va_P D cl0 (Wl Y σ' np c d) H := by
  intro i q hq
  obtain ⟨k, hkn, rfl, rfl⟩ := wl_key hq
  have hk : k < np := hkn.1
  have h0 := h (ix k) _ (wl_at hkn)
  rw [hs k hk]
  have hobj : (kd k).1 < 100 → ∀ t ∈ (kd k).2.2, t < np + 2 := by
    intro h1 t ht
    by_cases h2 : k < 146
    · have := (kd_old k h2).2.2.1 h1 t ht
      omega
    · rcases kd_law (k := k) (by omega) with q | q | q | q
      · rw [q.2] at ht
        simp only [List.mem_cons, List.not_mem_nil, or_false] at ht
        omega
      · rw [q.2] at h1; exact absurd h1 (by decide)
      · rw [q.2] at h1; exact absurd h1 (by decide)
      · rw [q.2] at h1; exact absurd h1 (by decide)
  by_cases c1 : (kd k).1 < 100
  · rw [kE_obj c1] at h0 ⊢
    rw [kF_sig hs _ _ (hobj c1)]
    exact h0
  · by_cases c2 : (kd k).1 = 104
    · have h2 : k < 146 := by
        apply Decidable.byContradiction
        intro hn
        rcases kd_law (k := k) (by omega) with q | q | q | q <;> (rw [q.2] at c2; exact absurd c2 (by simp))
      have h3 := (kd_old k h2).1 c2
      have e : ∀ τ : Nat → Nat, kE Y τ (kd k) k (c k) (d k) = .inl (Y 4, (kd k).2.1, .inr (.inr (.inr (.inr (fun j => some (τ (k + 1 + j))))))) := by
        intro τ
        unfold kE
        rw [if_neg (by omega), if_neg (by omega), if_neg (by omega), if_neg (by omega), if_pos c2]
      rw [e] at h0 ⊢
      show H[σ k]? = some (vp_cell _ _)
      rw [vp_cell_q]
      rw [show H[σ k]? = some (vp_cell (Y 4) ((kd k).2.1, .inr (.inr (.inr (.inr (fun j => some (σ (k + 1 + j)))))))) from h0, vp_cell_q]
      exact congrArg some (arrV_congr (fun j hj => by rw [hs (k + 1 + j) (by omega)]))
    · by_cases c3 : (kd k).1 = 105
      · have h2 : k < 146 := by
          apply Decidable.byContradiction
          intro hn
          rcases kd_law (k := k) (by omega) with q | q | q | q <;> (rw [q.2] at c3; exact absurd c3 (by simp))
        obtain ⟨rfl, h12⟩ := (kd_old k h2).2.1 c3
        have e : ∀ τ : Nat → Nat, kE Y τ (kd 16) 16 (c 16) (d 16) = .inl (Y 5, (kd 16).2.1, .inr (.inr (.inr (.inr (fun j => if c 16 j = 0 then none else some (τ (c 16 j).toNatClampNeg)))))) := by
          intro τ
          unfold kE
          rw [if_neg (by omega), if_neg (by omega), if_neg (by omega), if_neg (by omega), if_neg (by omega), if_pos c3]
        rw [e] at h0 ⊢
        show H[σ 16]? = some (vp_cell _ _)
        rw [vp_cell_q]
        rw [show H[σ 16]? = some (vp_cell (Y 5) ((kd 16).2.1, .inr (.inr (.inr (.inr (fun j => if c 16 j = 0 then none else some (σ (c 16 j).toNatClampNeg))))))) from h0, vp_cell_q]
        refine congrArg some (arrV_congr (fun j hj => ?_))
        by_cases h5 : c 16 j = 0
        · rw [if_pos h5, if_pos h5]
        · rw [if_neg h5, if_neg h5]
          rcases hB j (by omega) with h6 | h6
          · exact absurd h6 h5
          · unfold isStat at h6
            rw [hs _ (by omega)]
      · have e : ∀ τ : Nat → Nat, kE Y τ (kd k) k (c k) (d k) = kE Y (fun _ => 0) (kd k) k (c k) (d k) := by
          intro τ
          have h7 := kd_lt hkn.2
          rcases (show (kd k).1 = 100 ∨ (kd k).1 = 101 ∨ (kd k).1 = 102 ∨ (kd k).1 = 103 ∨ (kd k).1 = 106 by omega) with q | q | q | q | q <;> (unfold kE; rw [q]; rfl)
        rw [e] at h0 ⊢
        exact h0
theorem wk_kd {Y : Nat → ClassId} {σ : Nat → Nat} {κ : Nat → xK} {np : Nat} {c : Mc} {d : Md} (h : ∀ k, k < np → κ k = kd k) : Wk Y σ κ np c d = Wl Y σ np c d := wl_wk (fun k hk => by rw [h k hk]; exact kM_old (by have := kd_lt8 k; omega))
def QN (Y : Nat → ClassId) (D : va_G) (σ : Nat → Nat) (np b0 : Nat) (c1 : Mc) (d1 : Md) : Array Value → State → Outcome → State → Prop := fun _ st o t => ∃ σ' : Nat → Nat, (∀ k, k < np → σ' k = σ k) ∧ o = .returned (some (.ref (σ' np))) ∧ va_P D cl0 (Wl Y σ' (np + 4) c1 d1) t.heap ∧ Bk (np + 4) c1 ∧ OkS b0 σ' (np + 4) ∧ va_F (xA b0) st t
theorem bk_st {M : Mc} {np : Nat} {len fl : Int32} (hnp : 146 ≤ np) (hB : Bk np M) : Bk (np + 4) (stM M np len fl) := by
  intro i hi
  have e : stM M np len fl 16 i = M 16 i := by
    unfold stM wr
    rw [if_neg (fun q => by omega), up_ne (by omega), up_ne (by omega), up_ne (by omega), up_ne (by omega)]
  rw [e]
  refine (hB i hi).imp id (fun h => ?_)
  unfold isStat at h ⊢
  omega
theorem k_stTail {p : Program} {l : Launch} {e : Env} {s : State} {m : MethodId} {args : Array Value} {below : List Frame} {meth : Method} {c : Code} {Y : Nat → ClassId} {D : va_G} {σ σ' : Nat → Nat} {np b0 : Nat} {M : Mc} {N : Md} {r : Mc} (hE : EOKk p s m args meth c cX7_statute 2 RX7 Y D σ' np b0) (hr : meth.sig.returnType = some (.object "SettlerColony$Statute")) (hal : (np - 146) % 4 = 0) (hnp : 146 ≤ np) (hs : ∀ k, k < np → σ' k = σ k) (hB : Bk np M) {len : Int32} (h1 : ¬ len < 0) (h2 : len.toNatClampNeg ≤ 300) (hf : chp (M 114 11 = 0 ∨ M 114 11 = 1) (some (stM M np len (M 114 11))) = some r) : Xk p l e (rmK 4 4 320) s m args below meth c 2 Y D σ' (ku kd np (208, 0, [2, 2, 2, 0])) np b0 0 0 (MQ below (QN Y D σ np b0 r N) args s 4 320 (xA b0)) 27 [(0, .ref (σ' 114))] [.int len] M N := by
  obtain ⟨hfl, hf⟩ := chp_some hf
  replace hf := Option.some.inj hf
  subst hf
  have q1 : ku kd np (208, 0, [2, 2, 2, 0]) (np + 1) = (106, 0, []) := by
    rw [ku_ne (by omega)]
    rcases kd_law (k := np + 1) (by omega) with q | q | q | q
    · omega
    · exact q.2
    · omega
    · omega
  have q2 : ku kd np (208, 0, [2, 2, 2, 0]) (np + 1 + 1) = (100, 8, []) := by
    rw [ku_ne (by omega)]
    rcases kd_law (k := np + 1 + 1) (by omega) with q | q | q | q
    · omega
    · omega
    · exact q.2
    · omega
  have q3 : ku kd np (208, 0, [2, 2, 2, 0]) (np + 1 + 1 + 1) = (100, 8, []) := by
    rw [ku_ne (by omega)]
    rcases kd_law (k := np + 1 + 1 + 1) (by omega) with q | q | q | q
    · omega
    · omega
    · omega
    · exact q.2
  have h114 : ku kd np (208, 0, [2, 2, 2, 0]) 114 = (7, 0, [117, 118, 119, 0, 0, 0, 0, 120, 0, 121, 122, 0]) := by
    rw [ku_ne (by omega)]
    decide +kernel
  have h118 : ku kd np (208, 0, [2, 2, 2, 0]) 118 = (100, 300, []) := by
    rw [ku_ne (by omega)]
    decide +kernel
  have h119 : ku kd np (208, 0, [2, 2, 2, 0]) 119 = (100, 8, []) := by
    rw [ku_ne (by omega)]
    decide +kernel
  have h120 : ku kd np (208, 0, [2, 2, 2, 0]) 120 = (100, 8, []) := by
    rw [ku_ne (by omega)]
    decide +kernel
  have z8' : ∀ (f : Nat → Int32) (g : Nat → Int64) (k : Nat), kM Y σ' (100, 8, []) k f g = .inl (Y 0, 8, .inl f) := fun _ _ _ => rfl
  refine k_istore_n hE (L' := [(1, .int len), (0, .ref (σ' 114))]) dX7_statute_27 rfl (by decide) rfl ?_
  refine k_newN hE [2, 2, 2, 0] cl_8 ⟨Nat.le_refl np, ph_t (by omega) (by omega)⟩ ck_X7_63 cs_8 cn_8 rfl dv_8 ku_eq (Nat.le_of_ble_eq_true rfl) (Nat.le_of_ble_eq_true rfl) dX7_statute_28 ?_
  refine k_dup hE dX7_statute_31 rfl ?_
  refine k_aload_n hE 1 dX7_statute_32 rfl rfl ?_
  refine k_getRw hE cl_7 ⟨⟨by omega, rfl⟩, h114⟩ (by decide) 7 118 rfl (by decide) lk_X7t_code dX7_statute_33 ?_
  refine k_iload_n hE 0 dX7_statute_36 rfl rfl ?_
  refine k_callS1 hE [.ref (σ' 118), .int len] (rest := [.ref (σ' np), .ref (σ' np)]) (dq := 2) (mc := 1) (ms := 300) rfl yokJ7_copyOf ysJ7_copyOf lk_X7_65 ⟨(Nat.le_of_ble_eq_true rfl), (Nat.le_of_ble_eq_true rfl)⟩ ⟨(Nat.le_of_ble_eq_true rfl), (Nat.le_of_ble_eq_true rfl)⟩ rfl (Nat.le_of_ble_eq_true rfl) dX7_statute_37 (k_copyOf l ⟨Nat.le_succ np, ph_t (by omega) (by omega)⟩ ⟨⟨by omega, rfl⟩, h118⟩ h1 h2) ?_
  rw [ku_self q1, up_ne (show (118 : Nat) ≠ np by omega)]
  refine k_aload_n hE 1 dX7_statute_40 rfl rfl ?_
  refine k_getRw hE cl_7 ⟨⟨by omega, rfl⟩, h114⟩ (by decide) 9 119 rfl (by decide) lk_X7t_from dX7_statute_41 ?_
  refine k_clone hE (100, 8, []) (M 119) ⟨by omega, ph_t (by omega) (by omega)⟩ ⟨⟨by omega, rfl⟩, h119⟩ (fun g => z8' _ _ _) (fun j hj => by rw [up_ne (show (119 : Nat) ≠ np + 1 by omega), up_ne (show (119 : Nat) ≠ np by omega)]) lk_X7_69 (Nat.le_of_ble_eq_true rfl) (Nat.le_of_ble_eq_true rfl) (Nat.le_of_ble_eq_true rfl) (Nat.le_of_ble_eq_true rfl) dX7_statute_44 ?_
  rw [ku_self q2]
  refine k_cast hE (k := np + 1 + 1) (n := 8) ⟨⟨by omega, ph_t (by omega) (by omega)⟩, by rw [q2]; exact z8' _ _ _⟩ ck_X7_70 dX7_statute_47 ?_
  refine k_aload_n hE 1 dX7_statute_50 rfl rfl ?_
  refine k_getRw hE cl_7 ⟨⟨by omega, rfl⟩, h114⟩ (by decide) 10 120 rfl (by decide) lk_X7t_end dX7_statute_51 ?_
  refine k_clone hE (100, 8, []) (M 120) ⟨by omega, ph_t (by omega) (by omega)⟩ ⟨⟨by omega, rfl⟩, h120⟩ (fun g => z8' _ _ _) (fun j hj => by rw [up_ne (show (120 : Nat) ≠ np + 1 + 1 by omega), up_ne (show (120 : Nat) ≠ np + 1 by omega), up_ne (show (120 : Nat) ≠ np by omega)]) lk_X7_69 (Nat.le_of_ble_eq_true rfl) (Nat.le_of_ble_eq_true rfl) (Nat.le_of_ble_eq_true rfl) (Nat.le_of_ble_eq_true rfl) dX7_statute_54 ?_
  rw [ku_self q3]
  refine k_cast hE (k := np + 1 + 1 + 1) (n := 8) ⟨⟨by omega, ph_t (by omega) (by omega)⟩, by rw [q3]; exact z8' _ _ _⟩ ck_X7_70 dX7_statute_57 ?_
  refine k_aload_n hE 1 dX7_statute_60 rfl rfl ?_
  refine k_getIw hE cl_7 ⟨⟨by omega, rfl⟩, h114⟩ (by decide) 11 rfl (by decide) lk_X7t_falls dX7_statute_61 ?_
  rw [up_ne (show (114 : Nat) ≠ np + 1 + 1 + 1 by omega), up_ne (show (114 : Nat) ≠ np + 1 + 1 by omega), up_ne (show (114 : Nat) ≠ np + 1 by omega), up_ne (show (114 : Nat) ≠ np by omega)]
  refine k_callI hE [.ref (σ' (np + 1)), .ref (σ' (np + 1 + 1)), .ref (σ' (np + 1 + 1 + 1)), .int (M 114 11)] (rest := [.ref (σ' np)]) (dq := 1) (mc := 0) (ms := 0) rfl yokX8_init yiX8_init rfl lk_X7_74 ⟨(Nat.le_of_ble_eq_true rfl), (Nat.le_of_ble_eq_true rfl)⟩ ⟨(Nat.le_of_ble_eq_true rfl), (Nat.le_of_ble_eq_true rfl)⟩ rfl (Nat.le_of_ble_eq_true rfl) dX7_statute_64 (k_X8_init l (z := np) ⟨⟨by omega, ph_t (by omega) (by omega)⟩, ku_eq⟩ hfl) ?_
  intro H locs ls hP hz hS hl
  refine W.aret hE.1 hE.2.1 hr (Or.inl ⟨_, rfl⟩) (Or.inr ⟨_, rfl⟩) (fun t ht hW => ⟨σ', hs, rfl, ?_, bk_st hnp hB, hE.2.2.2.2.2.2.2.1.S _, hS.F ht⟩) hS.2.2 dX7_statute_67 hE.2.2.2.2.2.2.2.2.2.1
  rw [ht]
  have e : Wk Y σ' (ku (ku kd np (208, 0, [2, 2, 2, 0])) np (208, 0, [np + 4, np + 5, np + 6, 0])) (np + 4) (stM M np len (M 114 11)) N = Wl Y σ' (np + 4) (stM M np len (M 114 11)) N := by
    refine wl_wk (fun k hk => ?_)
    rw [ku_ku]
    by_cases h : k = np
    · subst h
      rw [ku_eq]
      have q0 : kd k = (8, 0, [2 + (k + 1), 2 + (k + 2), 2 + (k + 3), 0]) := by
        rcases kd_law (k := k) hnp with q | q | q | q
        · exact q.2
        · omega
        · omega
        · omega
      rw [q0, ← kM_kE (by decide)]
      have e1 : ([2 + (k + 1), 2 + (k + 2), 2 + (k + 3), 0] : List Nat).map shK = [k + 4, k + 5, k + 6, 0] := by
        have s1 : ∀ a : Nat, shK (2 + (k + a)) = k + (a + 3) := fun a => by
          unfold shK
          rw [if_neg (by omega)]
          omega
        show [shK (2 + (k + 1)), shK (2 + (k + 2)), shK (2 + (k + 3)), shK 0] = [k + 4, k + 5, k + 6, 0]
        rw [s1, s1, s1]
        rfl
      rw [e1]
    · rw [ku_ne h]
      exact kM_old (by have := kd_lt8 k; omega)
  rw [← e]
  exact hP
theorem k_statute {p : Program} {l : Launch} {e : Env} {s : State} {m : MethodId} {args : Array Value} {below : List Frame} {meth : Method} {c : Code} {Y : Nat → ClassId} {D : va_G} {σ σ' : Nat → Nat} {np b0 : Nat} {M : Mc} {N : Md} {r : Mc} (hE : EOKk p s m args meth c cX7_statute 2 RX7 Y D σ' np b0) (hr : meth.sig.returnType = some (.object "SettlerColony$Statute")) (hal : (np - 146) % 4 = 0) (hnp : 146 ≤ np) (hs : ∀ k, k < np → σ' k = σ k) (hB : Bk np M) (hf : fX7_statute M np = some r) : Xk p l e (rmK 4 4 320) s m args below meth c 2 Y D σ' (ku kd np (208, 0, [2, 2, 2, 0])) np b0 0 0 (MQ below (QN Y D σ np b0 r N) args s 4 320 (xA b0)) 0 [(0, .ref (σ' 114))] [] M N := by
  have h114 : Kn 114 np ∧ ku kd np (208, 0, [2, 2, 2, 0]) 114 = (7, 0, [117, 118, 119, 0, 0, 0, 0, 120, 0, 121, 122, 0]) := ⟨⟨by omega, rfl⟩, by rw [ku_ne (by omega)]; decide +kernel⟩
  have h118 : Kn 118 np ∧ ku kd np (208, 0, [2, 2, 2, 0]) 118 = (100, 300, []) := ⟨⟨by omega, rfl⟩, by rw [ku_ne (by omega)]; decide +kernel⟩
  unfold fX7_statute lt at hf
  refine k_aload_n hE 0 dX7_statute_0 rfl rfl ?_
  refine k_getIw hE cl_7 h114 (by decide) 8 rfl (by decide) lk_X7t_cells dX7_statute_1 ?_
  by_cases c1 : M 114 8 < 0
  · rw [if_pos c1] at hf
    refine k_if_lt (β := Unit) (r := ()) (A := some ()) (B := none) hE 26 dX7_statute_4 (by decide) (if_pos c1) (fun _ => ?_) (fun h => nomatch h)
    refine k_iconst hE (0 : Int32) dX7_statute_26 (by decide) ?_
    exact k_stTail hE hr hal hnp hs hB (by decide) (by decide) hf
  · rw [if_neg c1] at hf
    refine k_if_lt (β := Unit) (r := ()) (A := none) (B := some ()) hE 26 dX7_statute_4 (by decide) (if_neg c1) (fun h => nomatch h) (fun _ => ?_)
    refine k_aload_n hE 0 dX7_statute_7 rfl rfl ?_
    refine k_getIw hE cl_7 h114 (by decide) 8 rfl (by decide) lk_X7t_cells dX7_statute_8 ?_
    refine k_aload_n hE 0 dX7_statute_11 rfl rfl ?_
    refine k_getRw hE cl_7 h114 (by decide) 7 118 rfl (by decide) lk_X7t_code dX7_statute_12 ?_
    refine k_alen hE h118 dX7_statute_15 ?_
    by_cases c2 : nI 300 < M 114 8
    · rw [if_pos c2] at hf
      refine k_icmp_gt (β := Unit) (r := ()) (A := some ()) (B := none) hE 26 dX7_statute_16 (by decide) (if_pos c2) (fun _ => ?_) (fun h => nomatch h)
      refine k_iconst hE (0 : Int32) dX7_statute_26 (by decide) ?_
      exact k_stTail hE hr hal hnp hs hB (by decide) (by decide) hf
    · rw [if_neg c2] at hf
      refine k_icmp_gt (β := Unit) (r := ()) (A := none) (B := some ()) hE 26 dX7_statute_16 (by decide) (if_neg c2) (fun h => nomatch h) (fun _ => ?_)
      refine k_aload_n hE 0 dX7_statute_19 rfl rfl ?_
      refine k_getIw hE cl_7 h114 (by decide) 8 rfl (by decide) lk_X7t_cells dX7_statute_20 ?_
      refine k_goto hE 27 dX7_statute_23 (by decide) ?_
      refine k_stTail hE hr hal hnp hs hB c1 ?_ hf
      have h4 : (M 114 8).toInt ≤ 300 := Int32.le_iff_toInt_le.mp (Int32.not_lt.mp c2)
      show (M 114 8).toInt.toNat ≤ 300
      omega
theorem mX7_statute (l : Launch) {Y : Nat → ClassId} {D : va_G} {σ : Nat → Nat} {np b0 : Nat} {M : Mc} {N : Md} {r : Mc} (hal : (np - 146) % 4 = 0) (hf : fX7_statute M np = some r) : Met l yX7_statute (.code yX7_statute cX7_statute 2 (some (.object "SettlerColony$Statute")) :: lw_g) (rmK 4 4 320) (PR Y D σ np b0 [.ref (σ 114)] M N) (QN Y D σ np b0 r N) 4 320 (xA b0) := by
  refine Met.ofW (cc := cX7_statute) (maxL := 2) (ret := some (.object "SettlerColony$Statute")) (by decide) rfl ?_
  intro p e s m args below meth c s₁ B hml hv
  obtain ⟨rfl, hP, hB, hK, hN, hσ, hb0, hnp, hxs⟩ := hv
  have hts := atoms_spec (ws := .code yX7_statute cX7_statute 2 (some (.object "SettlerColony$Statute")) :: lw_g) B.pre
  have hlt : ∀ k, Kn k np → σ k < s.heap.size := fun k hk => (hP (ix k) _ (wl_at hk)).lt
  obtain ⟨σ', hs', hz', hT⟩ : ∃ σ' : Nat → Nat, (∀ k, k < np → σ' k = σ k) ∧ s.heap.size = σ' np ∧ OkT b0 σ' np := by
    refine ⟨fun k => if k < np then σ k else s.heap.size + (k - np), fun k hk => if_pos hk, ?_, ?_, ?_, ?_⟩
    · show _ = if np < np then _ else _
      rw [if_neg (Nat.lt_irrefl np)]
      omega
    · intro i j hpi hpj hij
      have hij : (if i < np then σ i else s.heap.size + (i - np)) = (if j < np then σ j else s.heap.size + (j - np)) := hij
      by_cases hi : i < np
      · by_cases hj : j < np
        · rw [if_pos hi, if_pos hj] at hij
          exact hσ.1 i j ⟨hi, hpi⟩ ⟨hj, hpj⟩ hij
        · rw [if_pos hi, if_neg hj] at hij
          have := hlt i ⟨hi, hpi⟩
          omega
      · by_cases hj : j < np
        · rw [if_neg hi, if_pos hj] at hij
          have := hlt j ⟨hj, hpj⟩
          omega
        · rw [if_neg hi, if_neg hj] at hij
          omega
    · intro i
      show b0 ≤ if i < np then σ i else s.heap.size + (i - np)
      by_cases hi : i < np
      · rw [if_pos hi]
        exact hσ.2 i hi
      · rw [if_neg hi]
        omega
    · intro k hk
      refine ⟨fun _ => ?_, fun q => ?_⟩
      · show (if k + 1 < np then _ else _) = (if k < np then _ else _) + 1
        rw [if_neg (by omega), if_neg (by omega)]
        omega
      · rw [ph_t (by omega) (by omega)] at q
        cases q
  have hP' := va_P_ext hs' hal hnp hB hP
  have hE : EOKk p s m #[.ref (σ 114)] meth c cX7_statute 2 RX7 Y D σ' np b0 := ⟨B.exec, B.bytes, hml, findClass_of_methodNamed B.named, fun w hw => hts w (List.mem_cons_of_mem _ hw), hN, hK, hT, hb0, B.notSynchronized, fun q => absurd q (by omega)⟩
  rw [lg_entry_eq]
  refine k_statute hE B.returns hal hnp hs' hB hf s.heap [] _ ?_ hz' va_S.rf ?_
  · rw [wk_kd (κ := ku kd np (208, 0, [2, 2, 2, 0])) (fun k hk => ku_ne (by omega))]
    exact hP'
  · rw [hs' 114 (by omega)]
    exact lv_entry [.ref (σ 114)] (Nat.le_of_ble_eq_true rfl)
