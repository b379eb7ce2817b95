theorem ckL_8 : Cond.classLink "SettlerColonyLaw" 8 RX11 ∈ lw_g := mem_g 157 (by decide +kernel) (by decide +kernel)
theorem ckL_148 : Cond.classLink "SettlerColonyLaw" 148 RX12 ∈ lw_g := mem_g 1904 (by decide +kernel) (by decide +kernel)
theorem csL_11 : Cond.instantiable RX11 18 ∈ lw_g := mem_g 158 (by decide +kernel) (by decide +kernel)
theorem csL_12 : Cond.instantiable RX12 34 ∈ lw_g := mem_g 1905 (by decide +kernel) (by decide +kernel)
theorem cnL_11 : Cond.initialized RX11 ∈ lw_g := mem_g 131 (by decide +kernel) (by decide +kernel)
theorem cnL_12 : Cond.initialized RX12 ∈ lw_g := mem_g 143 (by decide +kernel) (by decide +kernel)
theorem acL_J : Cond.arrayClass .long ∈ lw_g := mem_g 2591 (by decide +kernel) (by decide +kernel)
theorem lkw_147 : Cond.methodLink "SettlerColonyLaw" 147 yX11_init ∈ lw_g := mem_g 159 (by decide +kernel) (by decide +kernel)
theorem lkw_150 : Cond.methodLink "SettlerColonyLaw" 150 yX12_init ∈ lw_g := mem_g 1906 (by decide +kernel) (by decide +kernel)
theorem dv_11 {σ : Nat → Nat} : ∀ j t : Nat, ([2, 2, 2, 2, 2, 2, 2, 2, 0, 0, 0, 0, 0, 2, 0, 2, 0, 2] : List Nat)[j]? = some t → defaultValue (tyX11 j) = kGV σ (fun _ => 0) (fun _ => 0) j t := by
  intro j t h
  have hj : j < 18 := (List.getElem?_eq_some_iff.mp h).1
  rcases (show j = 0 ∨ j = 1 ∨ j = 2 ∨ j = 3 ∨ j = 4 ∨ j = 5 ∨ j = 6 ∨ j = 7 ∨ j = 8 ∨ j = 9 ∨ j = 10 ∨ j = 11 ∨ j = 12 ∨ j = 13 ∨ j = 14 ∨ j = 15 ∨ j = 16 ∨ j = 17 by omega) with rfl | rfl | rfl | rfl | rfl | rfl | rfl | rfl | rfl | rfl | rfl | rfl | rfl | rfl | rfl | rfl | rfl | rfl
  · obtain rfl : 2 = t := Option.some.inj h
    rfl
  · obtain rfl : 2 = t := Option.some.inj h
    rfl
  · obtain rfl : 2 = t := Option.some.inj h
    rfl
  · obtain rfl : 2 = t := Option.some.inj h
    rfl
  · obtain rfl : 2 = t := Option.some.inj h
    rfl
  · obtain rfl : 2 = t := Option.some.inj h
    rfl
  · obtain rfl : 2 = t := Option.some.inj h
    rfl
  · obtain rfl : 2 = t := Option.some.inj h
    rfl
  · obtain rfl : 0 = t := Option.some.inj h
    rfl
  · obtain rfl : 0 = t := Option.some.inj h
    rfl
  · obtain rfl : 0 = t := Option.some.inj h
    rfl
  · obtain rfl : 0 = t := Option.some.inj h
    rfl
  · obtain rfl : 0 = t := Option.some.inj h
    rfl
  · obtain rfl : 2 = t := Option.some.inj h
    rfl
  · obtain rfl : 0 = t := Option.some.inj h
    rfl
  · obtain rfl : 2 = t := Option.some.inj h
    rfl
  · obtain rfl : 0 = t := Option.some.inj h
    rfl
  · obtain rfl : 2 = t := Option.some.inj h
    rfl
theorem dv_12 {σ : Nat → Nat} : ∀ j t : Nat, ([0, 2, 2, 2, 2, 2, 2, 0, 2, 0, 0, 0, 0, 0, 0, 0, 0, 2, 2, 2, 2, 2, 2, 0, 0, 2, 2, 2, 0, 0, 2, 0, 1, 1] : List Nat)[j]? = some t → defaultValue (tyX12 j) = kGV σ (fun _ => 0) (fun _ => 0) j t := by
  intro j t h
  have hj : j < 34 := (List.getElem?_eq_some_iff.mp h).1
  rcases (show j = 0 ∨ j = 1 ∨ j = 2 ∨ j = 3 ∨ j = 4 ∨ j = 5 ∨ j = 6 ∨ j = 7 ∨ j = 8 ∨ j = 9 ∨ j = 10 ∨ j = 11 ∨ j = 12 ∨ j = 13 ∨ j = 14 ∨ j = 15 ∨ j = 16 ∨ j = 17 ∨ j = 18 ∨ j = 19 ∨ j = 20 ∨ j = 21 ∨ j = 22 ∨ j = 23 ∨ j = 24 ∨ j = 25 ∨ j = 26 ∨ j = 27 ∨ j = 28 ∨ j = 29 ∨ j = 30 ∨ j = 31 ∨ j = 32 ∨ j = 33 by omega) with rfl | rfl | rfl | rfl | rfl | rfl | rfl | rfl | rfl | rfl | rfl | rfl | rfl | rfl | rfl | rfl | rfl | rfl | rfl | rfl | rfl | rfl | rfl | rfl | rfl | rfl | rfl | rfl | rfl | rfl | rfl | rfl | rfl | rfl
  · obtain rfl : 0 = t := Option.some.inj h
    rfl
  · obtain rfl : 2 = t := Option.some.inj h
    rfl
  · obtain rfl : 2 = t := Option.some.inj h
    rfl
  · obtain rfl : 2 = t := Option.some.inj h
    rfl
  · obtain rfl : 2 = t := Option.some.inj h
    rfl
  · obtain rfl : 2 = t := Option.some.inj h
    rfl
  · obtain rfl : 2 = t := Option.some.inj h
    rfl
  · obtain rfl : 0 = t := Option.some.inj h
    rfl
  · obtain rfl : 2 = t := Option.some.inj h
    rfl
  · obtain rfl : 0 = t := Option.some.inj h
    rfl
  · obtain rfl : 0 = t := Option.some.inj h
    rfl
  · obtain rfl : 0 = t := Option.some.inj h
    rfl
  · obtain rfl : 0 = t := Option.some.inj h
    rfl
  · obtain rfl : 0 = t := Option.some.inj h
    rfl
  · obtain rfl : 0 = t := Option.some.inj h
    rfl
  · obtain rfl : 0 = t := Option.some.inj h
    rfl
  · obtain rfl : 0 = t := Option.some.inj h
    rfl
  · obtain rfl : 2 = t := Option.some.inj h
    rfl
  · obtain rfl : 2 = t := Option.some.inj h
    rfl
  · obtain rfl : 2 = t := Option.some.inj h
    rfl
  · obtain rfl : 2 = t := Option.some.inj h
    rfl
  · obtain rfl : 2 = t := Option.some.inj h
    rfl
  · obtain rfl : 2 = t := Option.some.inj h
    rfl
  · obtain rfl : 0 = t := Option.some.inj h
    rfl
  · obtain rfl : 0 = t := Option.some.inj h
    rfl
  · obtain rfl : 2 = t := Option.some.inj h
    rfl
  · obtain rfl : 2 = t := Option.some.inj h
    rfl
  · obtain rfl : 2 = t := Option.some.inj h
    rfl
  · obtain rfl : 0 = t := Option.some.inj h
    rfl
  · obtain rfl : 0 = t := Option.some.inj h
    rfl
  · obtain rfl : 2 = t := Option.some.inj h
    rfl
  · obtain rfl : 0 = t := Option.some.inj h
    rfl
  · obtain rfl : 1 = t := Option.some.inj h
    rfl
  · obtain rfl : 1 = t := Option.some.inj h
    rfl
theorem bl_00 {n : Nat} : Bl n (fun _ _ => 0) := fun _ _ => rfl
theorem bk_00 : Bk 146 M00 := fun i hi => Or.inl (fi_l i hi).2.1
section XEN
variable {p : Program} {l : Launch} {e : Env} {s : State} {m : MethodId} {args : Array Value} {below : List Frame} {meth : Method} {c : Code} {Y : Nat → ClassId} {D : va_G} {σ : Nat → Nat} {b0 cells slots : Nat} {Q : State → Prop} {pc : Nat} {L : List (Nat × Value)} {st : List Value} {R : Room} {nL : Nat} {cc : ByteArray} {own : String}
theorem eok_of (hE : EOKk p s m args meth c cc nL own Y D σ 0 b0) (hxs : xS b0 Y s) : EOK p s m args meth c cc nL own Y D σ 146 b0 := ⟨hE.1, hE.2.1, hE.2.2.1, hE.2.2.2.1, hE.2.2.2.2.1, hE.2.2.2.2.2.1, hE.2.2.2.2.2.2.1, hE.2.2.2.2.2.2.2.1.S 146, hE.2.2.2.2.2.2.2.2.1, Nat.le_refl _, hE.2.2.2.2.2.2.2.2.2.1, hxs⟩
theorem xk_end (kk : Xw p l e R s m args below meth c nL Y D σ 146 b0 cells slots Q pc L st M00 z8) : Xk p l e R s m args below meth c nL Y D σ (kS evC 134) 146 b0 cells slots Q pc L st M00 z8 := fun H locs ls hP hz hS hl => kk H locs ls (by rw [← wk_end]; exact hP) hS bk_00 hl
theorem law_entry {b nX : Nat} {xs : Nat → Int32} (hfl : l.stackTraces = false) (hE : EOKk p s m args meth c cL_law_ 7 "SettlerColonyLaw" Y D σ 0 b0) (hxs : xS b0 Y s) (hX : va_X b nX xs s s.heap) (hb : b < b0) (hn : nX ≤ 3072)
    (hend : ∀ (σ : Nat → Nat) (np cells slots j : Nat) (M : Mc) (N : Md), EOK p s m args meth c cL_law_ 7 "SettlerColonyLaw" Y D σ np b0 → cells ≤ 600000 → slots ≤ 7000000 → Xw p l e room_1 s m args below meth c 7 Y D σ np b0 cells slots Q 3283 (Lb σ b j) [] M N) :
    Xk p l e room_1 s m args below meth c 7 Y D σ (kS evC 0) 0 b0 0 0 Q 0 [(0, .ref b)] [] (fun _ _ => 0) z8 := by
  refine k_newS hE [2, 2, 2, 2, 2, 2, 2, 2, 0, 0, 0, 0, 0, 2, 0, 2, 0, 2] 1 1 18 rfl rfl rfl bl_00 (by decide +kernel) cl_11 ⟨Nat.zero_le _, rfl⟩ ckL_8 csL_11 cnL_11 rfl dv_11 (Nat.le_of_ble_eq_true rfl) (Nat.le_of_ble_eq_true rfl) dL_law__0 ?_
  refine k_dup hE dL_law__3 rfl ?_
  refine k_callI hE [] (rest := [.ref (σ 0)]) (dq := 4) (mc := 124) (ms := 20323) rfl yokX11_init yiX11_init rfl lkw_147 ⟨Nat.le_of_ble_eq_true rfl, Nat.le_of_ble_eq_true rfl⟩ ⟨Nat.le_of_ble_eq_true rfl, Nat.le_of_ble_eq_true rfl⟩ rfl (Nat.le_of_ble_eq_true rfl) dL_law__4 (iX11_init_0 l bl_00) ?_
  refine k_astore_n hE (L' := [(1, .ref (σ 0)), (0, .ref b)]) dL_law__7 rfl (by decide) rfl ?_
  refine k_newS hE [0, 2, 2, 2, 2, 2, 2, 0, 2, 0, 0, 0, 0, 0, 0, 0, 0, 2, 2, 2, 2, 2, 2, 0, 0, 2, 2, 2, 0, 0, 2, 0, 1, 1] 128 126 20375 rfl rfl rfl (mb_X11_init_0 bl_00) (by decide +kernel) cl_12 ⟨Nat.zero_le _, rfl⟩ ckL_148 csL_12 cnL_12 rfl dv_12 (Nat.le_of_ble_eq_true rfl) (Nat.le_of_ble_eq_true rfl) dL_law__8 ?_
  refine k_dup hE dL_law__11 rfl ?_
  refine k_callI hE [] (rest := [.ref (σ 127)]) (dq := 1) (mc := 17) (ms := 27277) rfl yokX12_init yiX12_init rfl lkw_150 ⟨Nat.le_of_ble_eq_true rfl, Nat.le_of_ble_eq_true rfl⟩ ⟨Nat.le_of_ble_eq_true rfl, Nat.le_of_ble_eq_true rfl⟩ rfl (Nat.le_of_ble_eq_true rfl) dL_law__12 (iX12_init_127 l (Bl.mono (b := 128) (mb_X11_init_0 bl_00) (by decide))) ?_
  refine k_astore_n hE (L' := [(2, .ref (σ 127)), (1, .ref (σ 0)), (0, .ref b)]) dL_law__15 rfl (by decide) rfl ?_
  refine k_iconst hE (nI 1) dL_law__16 (by decide) ?_
  refine k_nL hE 1 146 144 47653 rfl rfl rfl (mb_X12_init_127 (Bl.mono (b := 128) (mb_X11_init_0 bl_00) (by decide))) (by decide +kernel) ⟨Nat.zero_le _, rfl⟩ acL_J (by decide) (by decide +kernel) (by decide) (Nat.le_of_ble_eq_true rfl) (Nat.le_of_ble_eq_true rfl) dL_law__17 ?_
  refine k_astore_n hE (L' := [(3, .ref (σ 145)), (2, .ref (σ 127)), (1, .ref (σ 0)), (0, .ref b)]) dL_law__19 rfl (by decide) rfl ?_
  refine k_iconst hE (nI 0) dL_law__20 (by decide) ?_
  refine k_istore hE (L' := [(4, .int (nI 0)), (3, .ref (σ 145)), (2, .ref (σ 127)), (1, .ref (σ 0)), (0, .ref b)]) dL_law__21 (by decide) rfl ?_
  refine k_pick [4, 3, 2, 1, 0] (L' := Lb σ b 0) rfl ?_
  exact xk_end (law_loop hfl hX hb hn hend nX 0 σ 146 144 47653 M00 z8 (by omega) (by omega) (eok_of hE hxs) gi_first (Nat.le_of_ble_eq_true rfl) (Nat.le_of_ble_eq_true rfl))
end XEN
