/-! ===== the judgement: from every heap that holds the world (c, d), the frame at pc comes to Q ===== -/
def Xw (p : Program) (l : Launch) (e : Env) (R : Room) (s : State) (m : MethodId) (args : Array Value) (below : List Frame) (meth : Method) (c : Code) (nL : Nat) (Y : Nat → ClassId) (D : va_G) (σ : Nat → Nat) (np b0 cells slots : Nat) (Q : State → Prop) (pc : Nat) (L : List (Nat × Value)) (st : List Value) (cm : Mc) (dm : Md) : Prop :=
  ∀ (H : Heap) (locs : List Loc) (ls : Array Slot), va_P D cl0 (Wl Y σ np cm dm) H → va_S (xA b0) s.heap H locs → Bk np cm → lv_has ls nL L → W p l e R s m args below meth c H locs cells slots Q (F0 m pc ls st)
/-- the words of private members of nest mates -/
def isNw : Cond → Bool
  | .methodLinkNest .. => true
  | .fieldLinkNest .. => true
  | .castable .. => true
  | .declares .. => true
  | _ => false
def lw_nw : List Cond := lw_tbl.filter isNw
theorem mem_n {w : Cond} (i : Nat) (h : lw_tbl[i]? = some w) (hg : isNw w = true) : w ∈ lw_nw := List.mem_filter.mpr ⟨List.mem_of_getElem? h, hg⟩
theorem vx_otn {w : Cond} (h : w ∈ lw_nw) : w.onTables = true := by
  have h2 := (List.mem_filter.mp h).2
  cases w <;> first | rfl | exact absurd h2 (by simp [isNw])
def xNw (U : State) : Prop := ∀ w ∈ lw_nw, va_Nw w U
theorem xwarmD {x : MethodName} {s U : State} (hW : s.WarmedH U.vm) (hZ : va_Nw (.declares x) s) : va_Nw (.declares x) U := va_tabs rfl (rfl : (s.setVm U.vm).vm = U.vm) (by rw [Cond.declares_setVm hW.alike]; exact hZ)
theorem xNw.warm {s U : State} (hW : s.WarmedH U.vm) (h : xNw s) : xNw U := by
  intro w hw
  have h1 := h w hw
  have h2 := (List.mem_filter.mp hw).2
  cases w with
  | methodLinkNest a i x h => exact va_Nw.warmM hW h1
  | fieldLinkNest a i b n d h => exact va_Nw.warmF hW h1
  | castable a b => exact va_Nw.warmC hW h1
  | declares a => exact xwarmD hW h1
  | _ => exact absurd h2 (by simp [isNw])
theorem xNw.same {u U : State} (hv : u.vm = U.vm) (h : xNw u) : xNw U := by
  intro w hw
  have h1 := h w hw
  have h2 := (List.mem_filter.mp hw).2
  cases w with
  | methodLinkNest a i x h => exact va_Nw.same rfl hv h1
  | fieldLinkNest a i b n d h => exact va_Nw.same rfl hv h1
  | castable a b => exact va_Nw.same rfl hv h1
  | declares a => exact va_Nw.same rfl hv h1
  | _ => exact absurd h2 (by simp [isNw])
/-! what the machine holds that nobody writes: the usual meanings, the texts, what a throw looks at -/
def usu (j : Nat) : Int32 := match j with
  | 0 => nI 20
  | 1 => nI 50
  | 2 => nI 2
  | 3 => nI 5
  | 4 => nI 1
  | 5 => 0
  | 6 => nI 4
  | _ => nI 1
def sOwn (i : Nat) : String := if i = 0 then "SettlerColony$Reader" else "SettlerColonyModel"
def sIdx (i : Nat) : Nat := [105, 198, 200, 202, 204, 206, 208, 210, 212, 301, 214, 216, 218, 220, 222, 273, 275, 280, 296, 294, 289, 303, 305].getD i 0
def sTxt (i : Nat) : String := ["price share wage run fine votes choice squat undo stand fall week year sold people soil least most if or and not ", "price", "share", "wage", "run", "fine", "votes", "choice", "squat", "undo", "week", "year", "sold", "people", "soil", "least", "most", "if", "not", "and", "or", "fall", "stand"].getD i ""
def sLen : List Nat := [113, 5, 5, 4, 3, 4, 5, 6, 5, 4, 4, 4, 4, 6, 4, 5, 4, 2, 3, 3, 2, 4, 5]
def sByt : List (List Int32) := [[112, 114, 105, 99, 101, 32, 115, 104, 97, 114, 101, 32, 119, 97, 103, 101, 32, 114, 117, 110, 32, 102, 105, 110, 101, 32, 118, 111, 116, 101, 115, 32, 99, 104, 111, 105, 99, 101, 32, 115, 113, 117, 97, 116, 32, 117, 110, 100, 111, 32, 115, 116, 97, 110, 100, 32, 102, 97, 108, 108, 32, 119, 101, 101, 107, 32, 121, 101, 97, 114, 32, 115, 111, 108, 100, 32, 112, 101, 111, 112, 108, 101, 32, 115, 111, 105, 108, 32, 108, 101, 97, 115, 116, 32, 109, 111, 115, 116, 32, 105, 102, 32, 111, 114, 32, 97, 110, 100, 32, 110, 111, 116, 32], [112, 114, 105, 99, 101], [115, 104, 97, 114, 101], [119, 97, 103, 101], [114, 117, 110], [102, 105, 110, 101], [118, 111, 116, 101, 115], [99, 104, 111, 105, 99, 101], [115, 113, 117, 97, 116], [117, 110, 100, 111], [119, 101, 101, 107], [121, 101, 97, 114], [115, 111, 108, 100], [112, 101, 111, 112, 108, 101], [115, 111, 105, 108], [108, 101, 97, 115, 116], [109, 111, 115, 116], [105, 102], [110, 111, 116], [97, 110, 100], [111, 114], [102, 97, 108, 108], [115, 116, 97, 110, 100]]
def xS (b0 : Nat) (Y : Nat → ClassId) (U : State) : Prop :=
  va_Z "SettlerColony" "USUAL" "[I" (.ref (Y 100)) (xA b0) U U.heap ∧ va_T .int (Y 100) 8 (fun j => .int (usu j)) (xA b0) U U.heap ∧ va_Z "java/lang/String" "COMPACT_STRINGS" "Z" (.int 1) (xA b0) U U.heap ∧ vx_Zq "java/lang/Throwable" "UNASSIGNED_STACK" "[Ljava/lang/StackTraceElement;" (xA b0) U U.heap ∧ vx_Zq "java/lang/Throwable" "SUPPRESSED_SENTINEL" "Ljava/util/List;" (xA b0) U U.heap ∧ va_Zq "jdk/internal/util/Preconditions" "SIOOBE_FORMATTER" "Ljava/util/function/BiFunction;" (xA b0) U U.heap ∧ vk_S 23 sLen sByt (fun i => Y (200 + i)) (fun i => Y (300 + i)) (xA b0) U U.heap ∧ (∀ i : Nat, i < 23 → vk_R (sOwn i) (sIdx i) (sTxt i) (Y (200 + i)) U) ∧ va_Nc "java/lang/IllegalArgumentException" "java/lang/IndexOutOfBoundsException" U ∧ va_Nc "java/lang/IllegalStateException" "java/lang/IllegalArgumentException" U
theorem xS.go {b0 : Nat} {Y : Nat → ClassId} {s U : State} (hW : s.WarmedH U.vm) (hq : ∀ a : Nat, a < s.heap.size → ¬ xA b0 a → U.heap[a]? = s.heap[a]?) (h : xS b0 Y s) : xS b0 Y U := by
  obtain ⟨h1, h2, h3, h4, h5, h6, h7, h8, h9, h10⟩ := h
  exact ⟨va_Z.moved hW.alike (h1.kept hq), va_T.moved hW.alike (h2.kept hq), va_Z.moved hW.alike (h3.kept hq), vx_Zq.moved hW.alike (h4.kept hq), vx_Zq.moved hW.alike (h5.kept hq), va_Zq.moved hW.alike (h6.kept hq), vk_S.moved hW.alike (h7.kept hq), fun i hi => vk_R.warm hW (h8 i hi), va_Nc.moved hW.alike h9, va_Nc.moved hW.alike h10⟩
theorem xS.same {b0 : Nat} {Y : Nat → ClassId} {u U : State} (hv : U.vm = u.vm) (hh : U.heap = u.heap) (h : xS b0 Y u) : xS b0 Y U := by
  obtain ⟨h1, h2, h3, h4, h5, h6, h7, h8, h9, h10⟩ := h
  have hA : u.vm.Alike U.vm := by rw [hv]; exact Vm.Alike.refl _
  have hq : ∀ a : Nat, a < u.heap.size → ¬ xA b0 a → U.heap[a]? = u.heap[a]? := fun a _ _ => by rw [hh]
  exact ⟨va_Z.moved hA (h1.kept hq), va_T.moved hA (h2.kept hq), va_Z.moved hA (h3.kept hq), vx_Zq.moved hA (h4.kept hq), vx_Zq.moved hA (h5.kept hq), va_Zq.moved hA (h6.kept hq), vk_S.moved hA (h7.kept hq), fun i hi => vk_R.same hv (h8 i hi), va_Nc.moved hA h9, va_Nc.moved hA h10⟩
/-- what stays during a method -/
def EOK (p : Program) (s : State) (m : MethodId) (args : Array Value) (meth : Method) (c : Code) (cc : ByteArray) (nL : Nat) (own : String) (Y : Nat → ClassId) (D : va_G) (σ : Nat → Nat) (np b0 : Nat) : Prop :=
  p.tables.exec = Jvm.exec ∧ c.code = cc ∧ c.maxLocals = nL ∧ s.vm.findClass own = some m.cls ∧ (∀ w ∈ lw_g, w.before args s = true) ∧ xNw s ∧ va_K D cl0 (tysOf Y) s ∧ OkS b0 σ np ∧ b0 ≤ s.heap.size ∧ 146 ≤ np ∧ meth.locks = false ∧ xS b0 Y s
section XR
variable {p : Program} {l : Launch} {e : Env} {R : Room} {s : State} {m : MethodId} {args : Array Value} {below : List Frame} {meth : Method} {c : Code} {nL : Nat} {Y : Nat → ClassId} {D : va_G} {σ : Nat → Nat} {np b0 cells slots : Nat} {Q : State → Prop} {pc : Nat} {L : List (Nat × Value)} {rest : List Value} {cm : Mc} {dm : Md} {cc : ByteArray} {own : String}
theorem EOK.kd (hE : EOK p s m args meth c cc nL own Y D σ np b0) {k : Nat} {t : xK} (h : k < 146 ∧ kd k = t) : k < np ∧ kd k = t := ⟨Nat.lt_of_lt_of_le h.1 hE.2.2.2.2.2.2.2.2.2.1, h.2⟩

theorem x_iload_n (hE : EOK p s m args meth c cc nL own Y D σ np b0) (j : Nat) {kk : Fin 4} {i : Nat} {x : Int32} (hd : decode cc pc = .ok (.iload_n kk, 1)) (hi : (kk : Nat) = i) (hj : L[j]? = some (i, .int x)) (k : Xw p l e R s m args below meth c nL Y D σ np b0 cells slots Q (pc + 1) L (.int x :: rest) cm dm) : Xw p l e R s m args below meth c nL Y D σ np b0 cells slots Q pc L rest cm dm := fun H locs ls hP hS hB hl => lv_iload_n hE.1 hE.2.1 hd hi (lv_at hl j hj) (k H locs ls hP hS hB hl)
theorem x_iload (hE : EOK p s m args meth c cc nL own Y D σ np b0) (j : Nat) {i : Nat} {x : Int32} (hd : decode cc pc = .ok (.iload i, 2)) (hj : L[j]? = some (i, .int x)) (k : Xw p l e R s m args below meth c nL Y D σ np b0 cells slots Q (pc + 2) L (.int x :: rest) cm dm) : Xw p l e R s m args below meth c nL Y D σ np b0 cells slots Q pc L rest cm dm := fun H locs ls hP hS hB hl => lv_iload hE.1 hE.2.1 hd (lv_at hl j hj) (k H locs ls hP hS hB hl)
theorem x_istore_n (hE : EOK p s m args meth c cc nL own Y D σ np b0) {L' : List (Nat × Value)} {kk : Fin 4} {i : Nat} {x : Int32} (hd : decode cc pc = .ok (.istore_n kk, 1)) (hi : (kk : Nat) = i) (hn : i < nL) (hl : (i, Value.int x) :: L.filter (fun q => !(q.1 == i) && !(q.1 + 1 == i && q.2.category == 2)) = L') (k : Xw p l e R s m args below meth c nL Y D σ np b0 cells slots Q (pc + 1) L' rest cm dm) : Xw p l e R s m args below meth c nL Y D σ np b0 cells slots Q pc L (.int x :: rest) cm dm := fun H locs ls hP hS hB h => lv_istore_n hE.1 hE.2.1 hd hi h hn hl (fun ls' h' => k H locs ls' hP hS hB h')
theorem x_istore (hE : EOK p s m args meth c cc nL own Y D σ np b0) {L' : List (Nat × Value)} {i : Nat} {x : Int32} (hd : decode cc pc = .ok (.istore i, 2)) (hn : i < nL) (hl : (i, Value.int x) :: L.filter (fun q => !(q.1 == i) && !(q.1 + 1 == i && q.2.category == 2)) = L') (k : Xw p l e R s m args below meth c nL Y D σ np b0 cells slots Q (pc + 2) L' rest cm dm) : Xw p l e R s m args below meth c nL Y D σ np b0 cells slots Q pc L (.int x :: rest) cm dm := fun H locs ls hP hS hB h => lv_istore hE.1 hE.2.1 hd h hn hl (fun ls' h' => k H locs ls' hP hS hB h')
theorem x_aload_n (hE : EOK p s m args meth c cc nL own Y D σ np b0) (j : Nat) {kk : Fin 4} {i : Nat} {x : Nat} (hd : decode cc pc = .ok (.aload_n kk, 1)) (hi : (kk : Nat) = i) (hj : L[j]? = some (i, .ref x)) (k : Xw p l e R s m args below meth c nL Y D σ np b0 cells slots Q (pc + 1) L (.ref x :: rest) cm dm) : Xw p l e R s m args below meth c nL Y D σ np b0 cells slots Q pc L rest cm dm := fun H locs ls hP hS hB hl => lv_aload_n hE.1 hE.2.1 hd hi (lv_at hl j hj) (k H locs ls hP hS hB hl)
theorem x_aload (hE : EOK p s m args meth c cc nL own Y D σ np b0) (j : Nat) {i : Nat} {x : Nat} (hd : decode cc pc = .ok (.aload i, 2)) (hj : L[j]? = some (i, .ref x)) (k : Xw p l e R s m args below meth c nL Y D σ np b0 cells slots Q (pc + 2) L (.ref x :: rest) cm dm) : Xw p l e R s m args below meth c nL Y D σ np b0 cells slots Q pc L rest cm dm := fun H locs ls hP hS hB hl => lv_aload hE.1 hE.2.1 hd (lv_at hl j hj) (k H locs ls hP hS hB hl)
theorem x_astore_n (hE : EOK p s m args meth c cc nL own Y D σ np b0) {L' : List (Nat × Value)} {kk : Fin 4} {i : Nat} {x : Nat} (hd : decode cc pc = .ok (.astore_n kk, 1)) (hi : (kk : Nat) = i) (hn : i < nL) (hl : (i, Value.ref x) :: L.filter (fun q => !(q.1 == i) && !(q.1 + 1 == i && q.2.category == 2)) = L') (k : Xw p l e R s m args below meth c nL Y D σ np b0 cells slots Q (pc + 1) L' rest cm dm) : Xw p l e R s m args below meth c nL Y D σ np b0 cells slots Q pc L (.ref x :: rest) cm dm := fun H locs ls hP hS hB h => lv_astore_n hE.1 hE.2.1 hd hi h hn hl (fun ls' h' => k H locs ls' hP hS hB h')
theorem x_astore (hE : EOK p s m args meth c cc nL own Y D σ np b0) {L' : List (Nat × Value)} {i : Nat} {x : Nat} (hd : decode cc pc = .ok (.astore i, 2)) (hn : i < nL) (hl : (i, Value.ref x) :: L.filter (fun q => !(q.1 == i) && !(q.1 + 1 == i && q.2.category == 2)) = L') (k : Xw p l e R s m args below meth c nL Y D σ np b0 cells slots Q (pc + 2) L' rest cm dm) : Xw p l e R s m args below meth c nL Y D σ np b0 cells slots Q pc L (.ref x :: rest) cm dm := fun H locs ls hP hS hB h => lv_astore hE.1 hE.2.1 hd h hn hl (fun ls' h' => k H locs ls' hP hS hB h')
theorem x_lload_n (hE : EOK p s m args meth c cc nL own Y D σ np b0) (j : Nat) {kk : Fin 4} {i : Nat} {x : Int64} (hd : decode cc pc = .ok (.lload_n kk, 1)) (hi : (kk : Nat) = i) (hj : L[j]? = some (i, .long x)) (k : Xw p l e R s m args below meth c nL Y D σ np b0 cells slots Q (pc + 1) L (.long x :: rest) cm dm) : Xw p l e R s m args below meth c nL Y D σ np b0 cells slots Q pc L rest cm dm := fun H locs ls hP hS hB hl => lv_lload_n hE.1 hE.2.1 hd hi (lv_at hl j hj) (k H locs ls hP hS hB hl)
theorem x_lload (hE : EOK p s m args meth c cc nL own Y D σ np b0) (j : Nat) {i : Nat} {x : Int64} (hd : decode cc pc = .ok (.lload i, 2)) (hj : L[j]? = some (i, .long x)) (k : Xw p l e R s m args below meth c nL Y D σ np b0 cells slots Q (pc + 2) L (.long x :: rest) cm dm) : Xw p l e R s m args below meth c nL Y D σ np b0 cells slots Q pc L rest cm dm := fun H locs ls hP hS hB hl => lv_lload hE.1 hE.2.1 hd (lv_at hl j hj) (k H locs ls hP hS hB hl)
theorem x_lstore_n (hE : EOK p s m args meth c cc nL own Y D σ np b0) {L' : List (Nat × Value)} {kk : Fin 4} {i : Nat} {x : Int64} (hd : decode cc pc = .ok (.lstore_n kk, 1)) (hi : (kk : Nat) = i) (hn : i + 1 < nL) (hl : (i, Value.long x) :: L.filter (fun q => !(q.1 == i) && (!(q.1 == i + 1) && !(q.1 + 1 == i && q.2.category == 2))) = L') (k : Xw p l e R s m args below meth c nL Y D σ np b0 cells slots Q (pc + 1) L' rest cm dm) : Xw p l e R s m args below meth c nL Y D σ np b0 cells slots Q pc L (.long x :: rest) cm dm := fun H locs ls hP hS hB h => lv_lstore_n hE.1 hE.2.1 hd hi h hn hl (fun ls' h' => k H locs ls' hP hS hB h')
theorem x_lstore (hE : EOK p s m args meth c cc nL own Y D σ np b0) {L' : List (Nat × Value)} {i : Nat} {x : Int64} (hd : decode cc pc = .ok (.lstore i, 2)) (hn : i + 1 < nL) (hl : (i, Value.long x) :: L.filter (fun q => !(q.1 == i) && (!(q.1 == i + 1) && !(q.1 + 1 == i && q.2.category == 2))) = L') (k : Xw p l e R s m args below meth c nL Y D σ np b0 cells slots Q (pc + 2) L' rest cm dm) : Xw p l e R s m args below meth c nL Y D σ np b0 cells slots Q pc L (.long x :: rest) cm dm := fun H locs ls hP hS hB h => lv_lstore hE.1 hE.2.1 hd h hn hl (fun ls' h' => k H locs ls' hP hS hB h')
theorem x_iconst (hE : EOK p s m args meth c cc nL own Y D σ np b0) {n : Int} (v : Int32) (hd : decode cc pc = .ok (.iconst n, 1)) (hv : Int32.ofInt n = v) (k : Xw p l e R s m args below meth c nL Y D σ np b0 cells slots Q (pc + 1) L (.int v :: rest) cm dm) : Xw p l e R s m args below meth c nL Y D σ np b0 cells slots Q pc L rest cm dm := fun H locs ls hP hS hB hl => lv_iconst hE.1 hE.2.1 hd hv (k H locs ls hP hS hB hl)
theorem x_bipush (hE : EOK p s m args meth c cc nL own Y D σ np b0) {n : Int} (v : Int32) (hd : decode cc pc = .ok (.bipush n, 2)) (hv : (Int8.ofInt n).toInt32 = v) (k : Xw p l e R s m args below meth c nL Y D σ np b0 cells slots Q (pc + 2) L (.int v :: rest) cm dm) : Xw p l e R s m args below meth c nL Y D σ np b0 cells slots Q pc L rest cm dm := fun H locs ls hP hS hB hl => lv_bipush hE.1 hE.2.1 hd hv (k H locs ls hP hS hB hl)
theorem x_sipush (hE : EOK p s m args meth c cc nL own Y D σ np b0) {n : Int} (v : Int32) (hd : decode cc pc = .ok (.sipush n, 3)) (hv : (Int16.ofInt n).toInt32 = v) (k : Xw p l e R s m args below meth c nL Y D σ np b0 cells slots Q (pc + 3) L (.int v :: rest) cm dm) : Xw p l e R s m args below meth c nL Y D σ np b0 cells slots Q pc L rest cm dm := fun H locs ls hP hS hB hl => lv_sipush hE.1 hE.2.1 hd hv (k H locs ls hP hS hB hl)
theorem x_lconst (hE : EOK p s m args meth c cc nL own Y D σ np b0) {n : Fin 2} (v : Int64) (hd : decode cc pc = .ok (.lconst n, 1)) (hv : Int64.ofNat (n : Nat) = v) (k : Xw p l e R s m args below meth c nL Y D σ np b0 cells slots Q (pc + 1) L (.long v :: rest) cm dm) : Xw p l e R s m args below meth c nL Y D σ np b0 cells slots Q pc L rest cm dm := fun H locs ls hP hS hB hl => lv_lconst hE.1 hE.2.1 hd hv (k H locs ls hP hS hB hl)
theorem x_ldc (hE : EOK p s m args meth c cc nL own Y D σ np b0) {index : Nat} (v : Int32) (hw : Cond.constant own index v ∈ lw_g) (hd : decode cc pc = .ok (.ldc index, 2)) (k : Xw p l e R s m args below meth c nL Y D σ np b0 cells slots Q (pc + 2) L (.int v :: rest) cm dm) : Xw p l e R s m args below meth c nL Y D σ np b0 cells slots Q pc L rest cm dm := fun H locs ls hP hS hB hl => lv_ldc hE.1 hE.2.1 hE.2.2.2.1 (hE.2.2.2.2.1 _ hw) hd (k H locs ls hP hS hB hl)
theorem x_ldc_w (hE : EOK p s m args meth c cc nL own Y D σ np b0) {index : Nat} (v : Int32) (hw : Cond.constant own index v ∈ lw_g) (hd : decode cc pc = .ok (.ldc_w index, 3)) (k : Xw p l e R s m args below meth c nL Y D σ np b0 cells slots Q (pc + 3) L (.int v :: rest) cm dm) : Xw p l e R s m args below meth c nL Y D σ np b0 cells slots Q pc L rest cm dm := fun H locs ls hP hS hB hl => lv_ldcw hE.1 hE.2.1 hE.2.2.2.1 (hE.2.2.2.2.1 _ hw) hd (k H locs ls hP hS hB hl)
theorem x_ldc2 (hE : EOK p s m args meth c cc nL own Y D σ np b0) {index : Nat} (v : Int64) (hw : Cond.constantLong own index v ∈ lw_g) (hd : decode cc pc = .ok (.ldc2_w index, 3)) (k : Xw p l e R s m args below meth c nL Y D σ np b0 cells slots Q (pc + 3) L (.long v :: rest) cm dm) : Xw p l e R s m args below meth c nL Y D σ np b0 cells slots Q pc L rest cm dm := fun H locs ls hP hS hB hl => lv_ldc2 hE.1 hE.2.1 hE.2.2.2.1 (hE.2.2.2.2.1 _ hw) hd (k H locs ls hP hS hB hl)
theorem x_iadd (hE : EOK p s m args meth c cc nL own Y D σ np b0) {x y : Int32} (hd : decode cc pc = .ok (.iadd, 1)) (k : Xw p l e R s m args below meth c nL Y D σ np b0 cells slots Q (pc + 1) L (.int (x + y) :: rest) cm dm) : Xw p l e R s m args below meth c nL Y D σ np b0 cells slots Q pc L (.int y :: .int x :: rest) cm dm := fun H locs ls hP hS hB hl => lv_iadd hE.1 hE.2.1 hd (k H locs ls hP hS hB hl)
theorem x_isub (hE : EOK p s m args meth c cc nL own Y D σ np b0) {x y : Int32} (hd : decode cc pc = .ok (.isub, 1)) (k : Xw p l e R s m args below meth c nL Y D σ np b0 cells slots Q (pc + 1) L (.int (x - y) :: rest) cm dm) : Xw p l e R s m args below meth c nL Y D σ np b0 cells slots Q pc L (.int y :: .int x :: rest) cm dm := fun H locs ls hP hS hB hl => lv_isub hE.1 hE.2.1 hd (k H locs ls hP hS hB hl)
theorem x_imul (hE : EOK p s m args meth c cc nL own Y D σ np b0) {x y : Int32} (hd : decode cc pc = .ok (.imul, 1)) (k : Xw p l e R s m args below meth c nL Y D σ np b0 cells slots Q (pc + 1) L (.int (x * y) :: rest) cm dm) : Xw p l e R s m args below meth c nL Y D σ np b0 cells slots Q pc L (.int y :: .int x :: rest) cm dm := fun H locs ls hP hS hB hl => lv_imul hE.1 hE.2.1 hd (k H locs ls hP hS hB hl)
theorem x_iand (hE : EOK p s m args meth c cc nL own Y D σ np b0) {x y : Int32} (hd : decode cc pc = .ok (.iand, 1)) (k : Xw p l e R s m args below meth c nL Y D σ np b0 cells slots Q (pc + 1) L (.int (x &&& y) :: rest) cm dm) : Xw p l e R s m args below meth c nL Y D σ np b0 cells slots Q pc L (.int y :: .int x :: rest) cm dm := fun H locs ls hP hS hB hl => lv_iand hE.1 hE.2.1 hd (k H locs ls hP hS hB hl)
theorem x_ior (hE : EOK p s m args meth c cc nL own Y D σ np b0) {x y : Int32} (hd : decode cc pc = .ok (.ior, 1)) (k : Xw p l e R s m args below meth c nL Y D σ np b0 cells slots Q (pc + 1) L (.int (x ||| y) :: rest) cm dm) : Xw p l e R s m args below meth c nL Y D σ np b0 cells slots Q pc L (.int y :: .int x :: rest) cm dm := fun H locs ls hP hS hB hl => lv_ior hE.1 hE.2.1 hd (k H locs ls hP hS hB hl)
theorem x_ixor (hE : EOK p s m args meth c cc nL own Y D σ np b0) {x y : Int32} (hd : decode cc pc = .ok (.ixor, 1)) (k : Xw p l e R s m args below meth c nL Y D σ np b0 cells slots Q (pc + 1) L (.int (x ^^^ y) :: rest) cm dm) : Xw p l e R s m args below meth c nL Y D σ np b0 cells slots Q pc L (.int y :: .int x :: rest) cm dm := fun H locs ls hP hS hB hl => lv_ixor hE.1 hE.2.1 hd (k H locs ls hP hS hB hl)
theorem x_ishl (hE : EOK p s m args meth c cc nL own Y D σ np b0) {x y : Int32} (hd : decode cc pc = .ok (.ishl, 1)) (k : Xw p l e R s m args below meth c nL Y D σ np b0 cells slots Q (pc + 1) L (.int (x <<< (y &&& 31)) :: rest) cm dm) : Xw p l e R s m args below meth c nL Y D σ np b0 cells slots Q pc L (.int y :: .int x :: rest) cm dm := fun H locs ls hP hS hB hl => lv_ishl hE.1 hE.2.1 hd (k H locs ls hP hS hB hl)
theorem x_ishr (hE : EOK p s m args meth c cc nL own Y D σ np b0) {x y : Int32} (hd : decode cc pc = .ok (.ishr, 1)) (k : Xw p l e R s m args below meth c nL Y D σ np b0 cells slots Q (pc + 1) L (.int (x >>> (y &&& 31)) :: rest) cm dm) : Xw p l e R s m args below meth c nL Y D σ np b0 cells slots Q pc L (.int y :: .int x :: rest) cm dm := fun H locs ls hP hS hB hl => lv_ishr hE.1 hE.2.1 hd (k H locs ls hP hS hB hl)
theorem x_ineg (hE : EOK p s m args meth c cc nL own Y D σ np b0) {x : Int32} (hd : decode cc pc = .ok (.ineg, 1)) (k : Xw p l e R s m args below meth c nL Y D σ np b0 cells slots Q (pc + 1) L (.int (-x) :: rest) cm dm) : Xw p l e R s m args below meth c nL Y D σ np b0 cells slots Q pc L (.int x :: rest) cm dm := fun H locs ls hP hS hB hl => lv_ineg hE.1 hE.2.1 hd (k H locs ls hP hS hB hl)
/-- the rest of a division, as the machine has it -/
def irm (x y : Int32) : Int32 := x - x / y * y
def lrm (x y : Int64) : Int64 := x - x / y * y
def iushr5 (x y : Int32) : Int32 := (x.toUInt32 >>> (y.toUInt32 &&& Int32.toUInt32 31)).toInt32
theorem x_iushr (hE : EOK p s m args meth c cc nL own Y D σ np b0) {x y : Int32} (hd : decode cc pc = .ok (.iushr, 1)) (k : Xw p l e R s m args below meth c nL Y D σ np b0 cells slots Q (pc + 1) L (.int (iushr5 x y) :: rest) cm dm) : Xw p l e R s m args below meth c nL Y D σ np b0 cells slots Q pc L (.int y :: .int x :: rest) cm dm := fun H locs ls hP hS hB hl => lv_iushr hE.1 hE.2.1 hd rfl (k H locs ls hP hS hB hl)
theorem x_i2l (hE : EOK p s m args meth c cc nL own Y D σ np b0) {x : Int32} (hd : decode cc pc = .ok (.i2l, 1)) (k : Xw p l e R s m args below meth c nL Y D σ np b0 cells slots Q (pc + 1) L (.long x.toInt64 :: rest) cm dm) : Xw p l e R s m args below meth c nL Y D σ np b0 cells slots Q pc L (.int x :: rest) cm dm := fun H locs ls hP hS hB hl => lv_i2l hE.1 hE.2.1 hd rfl (k H locs ls hP hS hB hl)
theorem x_l2i (hE : EOK p s m args meth c cc nL own Y D σ np b0) {x : Int64} (hd : decode cc pc = .ok (.l2i, 1)) (k : Xw p l e R s m args below meth c nL Y D σ np b0 cells slots Q (pc + 1) L (.int x.toInt32 :: rest) cm dm) : Xw p l e R s m args below meth c nL Y D σ np b0 cells slots Q pc L (.long x :: rest) cm dm := fun H locs ls hP hS hB hl => lv_l2i hE.1 hE.2.1 hd rfl (k H locs ls hP hS hB hl)
theorem x_i2b (hE : EOK p s m args meth c cc nL own Y D σ np b0) {x : Int32} (hd : decode cc pc = .ok (.i2b, 1)) (k : Xw p l e R s m args below meth c nL Y D σ np b0 cells slots Q (pc + 1) L (.int x.toInt8.toInt32 :: rest) cm dm) : Xw p l e R s m args below meth c nL Y D σ np b0 cells slots Q pc L (.int x :: rest) cm dm := fun H locs ls hP hS hB hl => lv_i2b hE.1 hE.2.1 hd rfl (k H locs ls hP hS hB hl)
theorem x_ladd (hE : EOK p s m args meth c cc nL own Y D σ np b0) {x y : Int64} (hd : decode cc pc = .ok (.ladd, 1)) (k : Xw p l e R s m args below meth c nL Y D σ np b0 cells slots Q (pc + 1) L (.long (x + y) :: rest) cm dm) : Xw p l e R s m args below meth c nL Y D σ np b0 cells slots Q pc L (.long y :: .long x :: rest) cm dm := fun H locs ls hP hS hB hl => lv_ladd hE.1 hE.2.1 hd (k H locs ls hP hS hB hl)
theorem x_lsub (hE : EOK p s m args meth c cc nL own Y D σ np b0) {x y : Int64} (hd : decode cc pc = .ok (.lsub, 1)) (k : Xw p l e R s m args below meth c nL Y D σ np b0 cells slots Q (pc + 1) L (.long (x - y) :: rest) cm dm) : Xw p l e R s m args below meth c nL Y D σ np b0 cells slots Q pc L (.long y :: .long x :: rest) cm dm := fun H locs ls hP hS hB hl => lv_lsub hE.1 hE.2.1 hd (k H locs ls hP hS hB hl)
theorem x_lmul (hE : EOK p s m args meth c cc nL own Y D σ np b0) {x y : Int64} (hd : decode cc pc = .ok (.lmul, 1)) (k : Xw p l e R s m args below meth c nL Y D σ np b0 cells slots Q (pc + 1) L (.long (x * y) :: rest) cm dm) : Xw p l e R s m args below meth c nL Y D σ np b0 cells slots Q pc L (.long y :: .long x :: rest) cm dm := fun H locs ls hP hS hB hl => lv_lmul hE.1 hE.2.1 hd (k H locs ls hP hS hB hl)
theorem x_lneg (hE : EOK p s m args meth c cc nL own Y D σ np b0) {x : Int64} (hd : decode cc pc = .ok (.lneg, 1)) (k : Xw p l e R s m args below meth c nL Y D σ np b0 cells slots Q (pc + 1) L (.long (-x) :: rest) cm dm) : Xw p l e R s m args below meth c nL Y D σ np b0 cells slots Q pc L (.long x :: rest) cm dm := fun H locs ls hP hS hB hl => lv_lneg hE.1 hE.2.1 hd (k H locs ls hP hS hB hl)
theorem x_lcmp (hE : EOK p s m args meth c cc nL own Y D σ np b0) {x y : Int64} (hd : decode cc pc = .ok (.lcmp, 1)) (k : Xw p l e R s m args below meth c nL Y D σ np b0 cells slots Q (pc + 1) L (.int (lg_cmp x y) :: rest) cm dm) : Xw p l e R s m args below meth c nL Y D σ np b0 cells slots Q pc L (.long y :: .long x :: rest) cm dm := fun H locs ls hP hS hB hl => W.lcmp hE.1 hE.2.1 hd (k H locs ls hP hS hB hl)
theorem x_dup (hE : EOK p s m args meth c cc nL own Y D σ np b0) {va : Value} (hd : decode cc pc = .ok (.dup, 1)) (h1 : va.category = 1) (k : Xw p l e R s m args below meth c nL Y D σ np b0 cells slots Q (pc + 1) L (va :: va :: rest) cm dm) : Xw p l e R s m args below meth c nL Y D σ np b0 cells slots Q pc L (va :: rest) cm dm := fun H locs ls hP hS hB hl => lv_dup hE.1 hE.2.1 hd h1 (k H locs ls hP hS hB hl)
theorem x_pop (hE : EOK p s m args meth c cc nL own Y D σ np b0) {va : Value} (hd : decode cc pc = .ok (.pop, 1)) (h1 : va.category = 1) (k : Xw p l e R s m args below meth c nL Y D σ np b0 cells slots Q (pc + 1) L (rest) cm dm) : Xw p l e R s m args below meth c nL Y D σ np b0 cells slots Q pc L (va :: rest) cm dm := fun H locs ls hP hS hB hl => lv_pop hE.1 hE.2.1 hd h1 (k H locs ls hP hS hB hl)
theorem x_dup_x1 (hE : EOK p s m args meth c cc nL own Y D σ np b0) {va vb : Value} (hd : decode cc pc = .ok (.dup_x1, 1)) (h1 : va.category = 1) (h2 : vb.category = 1) (k : Xw p l e R s m args below meth c nL Y D σ np b0 cells slots Q (pc + 1) L (va :: vb :: va :: rest) cm dm) : Xw p l e R s m args below meth c nL Y D σ np b0 cells slots Q pc L (va :: vb :: rest) cm dm := fun H locs ls hP hS hB hl => lv_dup_x1 hE.1 hE.2.1 hd h1 h2 (k H locs ls hP hS hB hl)
theorem x_dup2 (hE : EOK p s m args meth c cc nL own Y D σ np b0) {va vb : Value} (hd : decode cc pc = .ok (.dup2, 1)) (h1 : va.category = 1) (h2 : vb.category = 1) (k : Xw p l e R s m args below meth c nL Y D σ np b0 cells slots Q (pc + 1) L (va :: vb :: va :: vb :: rest) cm dm) : Xw p l e R s m args below meth c nL Y D σ np b0 cells slots Q pc L (va :: vb :: rest) cm dm := fun H locs ls hP hS hB hl => lv_dup2_11 hE.1 hE.2.1 hd h1 h2 (k H locs ls hP hS hB hl)
theorem x_dup2_2 (hE : EOK p s m args meth c cc nL own Y D σ np b0) {va : Value} (hd : decode cc pc = .ok (.dup2, 1)) (h1 : va.category = 2) (k : Xw p l e R s m args below meth c nL Y D σ np b0 cells slots Q (pc + 1) L (va :: va :: rest) cm dm) : Xw p l e R s m args below meth c nL Y D σ np b0 cells slots Q pc L (va :: rest) cm dm := fun H locs ls hP hS hB hl => lv_dup2_2 hE.1 hE.2.1 hd h1 (k H locs ls hP hS hB hl)
theorem x_goto (hE : EOK p s m args meth c cc nL own Y D σ np b0) {off : Int} (tgt : Nat) (hd : decode cc pc = .ok (.goto off, 3)) (ht : (pc : Int) + off = (tgt : Int)) (k : Xw p l e R s m args below meth c nL Y D σ np b0 cells slots Q tgt L rest cm dm) : Xw p l e R s m args below meth c nL Y D σ np b0 cells slots Q pc L rest cm dm := fun H locs ls hP hS hB hl => lv_goto hE.1 hE.2.1 hd ht (k H locs ls hP hS hB hl)
theorem x_iinc (hE : EOK p s m args meth c cc nL own Y D σ np b0) (j : Nat) {L' : List (Nat × Value)} {i : Nat} {n : Int} {x : Int32} (v : Int32) (hd : decode cc pc = .ok (.iinc i n, 3)) (hk : L[j]? = some (i, .int x)) (hv : x + Int32.ofInt n = v) (hn : i < nL) (hl : (i, Value.int v) :: L.filter (fun q => !(q.1 == i) && !(q.1 + 1 == i && q.2.category == 2)) = L') (k : Xw p l e R s m args below meth c nL Y D σ np b0 cells slots Q (pc + 3) L' rest cm dm) : Xw p l e R s m args below meth c nL Y D σ np b0 cells slots Q pc L rest cm dm := fun H locs ls hP hS hB h => lv_iinc hE.1 hE.2.1 hd h hk hv hn hl (fun ls' h' => k H locs ls' hP hS hB h')
theorem x_pick (ks : List Nat) {L' : List (Nat × Value)} (hl : lv_pick L ks = L') (k : Xw p l e R s m args below meth c nL Y D σ np b0 cells slots Q pc L' rest cm dm) : Xw p l e R s m args below meth c nL Y D σ np b0 cells slots Q pc L rest cm dm := fun H locs ls hP hS hB h => k H locs ls hP hS hB (lv_sub h ks hl)
/-! the shapes of a printed answer -/
def lt {α β : Type} (a : α) (f : α → β) : β := f a
def bnd {α β : Type} (x : Option α) (f : α → Option β) : Option β := match x with | none => none | some a => f a
def bn2 {α γ β : Type} (x : Option (α × γ)) (f : α → γ → Option β) : Option β := match x with | none => none | some a => f a.1 a.2
def chk {β : Type} (i : Int32) (n : Nat) (x : Option β) : Option β := if i < 0 ∨ n ≤ i.toNatClampNeg then none else x
def chz {β : Type} (i : Int32) (x : Option β) : Option β := if i = 0 then none else x
def chl {β : Type} (i : Int64) (x : Option β) : Option β := if i = 0 then none else x
def chp {β : Type} (P : Prop) [Decidable P] (x : Option β) : Option β := if P then x else none
theorem chk_some {β : Type} {i : Int32} {n : Nat} {x : Option β} {r : β} (h : chk i n x = some r) : vp_in i n ∧ x = some r := by
  unfold chk at h
  by_cases q : i < 0 ∨ n ≤ i.toNatClampNeg
  · rw [if_pos q] at h; cases h
  · rw [if_neg q] at h; exact ⟨q, h⟩
theorem chz_some {β : Type} {i : Int32} {x : Option β} {r : β} (h : chz i x = some r) : ¬ i = 0 ∧ x = some r := by
  unfold chz at h
  by_cases q : i = 0
  · rw [if_pos q] at h; cases h
  · rw [if_neg q] at h; exact ⟨q, h⟩
theorem chl_some {β : Type} {i : Int64} {x : Option β} {r : β} (h : chl i x = some r) : ¬ i = 0 ∧ x = some r := by
  unfold chl at h
  by_cases q : i = 0
  · rw [if_pos q] at h; cases h
  · rw [if_neg q] at h; exact ⟨q, h⟩
theorem chp_some {β : Type} {P : Prop} [Decidable P] {x : Option β} {r : β} (h : chp P x = some r) : P ∧ x = some r := by
  unfold chp at h
  by_cases q : P
  · rw [if_pos q] at h; exact ⟨q, h⟩
  · rw [if_neg q] at h; cases h
theorem bnd_some {α β : Type} {x : Option α} {f : α → Option β} {r : β} (h : bnd x f = some r) : ∃ a, x = some a ∧ f a = some r := by
  cases x with
  | none => cases h
  | some a => exact ⟨a, rfl, h⟩
theorem bn2_some {α γ β : Type} {x : Option (α × γ)} {f : α → γ → Option β} {r : β} (h : bn2 x f = some r) : ∃ a, x = some a ∧ f a.1 a.2 = some r := by
  cases x with
  | none => cases h
  | some a => exact ⟨a, rfl, h⟩
theorem x_ltI {β : Type} {r : β} {x : Int32} {f : Int32 → Option β} (hf : lt x f = some r) (k : ∀ y : Int32, f y = some r → Xw p l e R s m args below meth c nL Y D σ np b0 cells slots Q pc L (.int y :: rest) cm dm) : Xw p l e R s m args below meth c nL Y D σ np b0 cells slots Q pc L (.int x :: rest) cm dm := k x hf
theorem x_ltL {β : Type} {r : β} {x : Int64} {f : Int64 → Option β} (hf : lt x f = some r) (k : ∀ y : Int64, f y = some r → Xw p l e R s m args below meth c nL Y D σ np b0 cells slots Q pc L (.long y :: rest) cm dm) : Xw p l e R s m args below meth c nL Y D σ np b0 cells slots Q pc L (.long x :: rest) cm dm := k x hf
theorem x_idiv (hE : EOK p s m args meth c cc nL own Y D σ np b0) {β : Type} {r : β} {x y : Int32} {B : Option β} (hd : decode cc pc = .ok (.idiv, 1)) (hf : chz y B = some r) (k : B = some r → Xw p l e R s m args below meth c nL Y D σ np b0 cells slots Q (pc + 1) L (.int (x / y) :: rest) cm dm) : Xw p l e R s m args below meth c nL Y D σ np b0 cells slots Q pc L (.int y :: .int x :: rest) cm dm := fun H locs ls hP hS hB hl => lv_idiv hE.1 hE.2.1 hd (chz_some hf).1 (k (chz_some hf).2 H locs ls hP hS hB hl)
theorem x_irem (hE : EOK p s m args meth c cc nL own Y D σ np b0) {β : Type} {r : β} {x y : Int32} {B : Option β} (hd : decode cc pc = .ok (.irem, 1)) (hf : chz y B = some r) (k : B = some r → Xw p l e R s m args below meth c nL Y D σ np b0 cells slots Q (pc + 1) L (.int (irm x y) :: rest) cm dm) : Xw p l e R s m args below meth c nL Y D σ np b0 cells slots Q pc L (.int y :: .int x :: rest) cm dm := fun H locs ls hP hS hB hl => lv_irem hE.1 hE.2.1 hd (chz_some hf).1 (k (chz_some hf).2 H locs ls hP hS hB hl)
theorem x_ldiv (hE : EOK p s m args meth c cc nL own Y D σ np b0) {β : Type} {r : β} {x y : Int64} {B : Option β} (hd : decode cc pc = .ok (.ldiv, 1)) (hf : chl y B = some r) (k : B = some r → Xw p l e R s m args below meth c nL Y D σ np b0 cells slots Q (pc + 1) L (.long (x / y) :: rest) cm dm) : Xw p l e R s m args below meth c nL Y D σ np b0 cells slots Q pc L (.long y :: .long x :: rest) cm dm := fun H locs ls hP hS hB hl => lv_ldiv hE.1 hE.2.1 hd (chl_some hf).1 (k (chl_some hf).2 H locs ls hP hS hB hl)
theorem x_lrem (hE : EOK p s m args meth c cc nL own Y D σ np b0) {β : Type} {r : β} {x y : Int64} {B : Option β} (hd : decode cc pc = .ok (.lrem, 1)) (hf : chl y B = some r) (k : B = some r → Xw p l e R s m args below meth c nL Y D σ np b0 cells slots Q (pc + 1) L (.long (lrm x y) :: rest) cm dm) : Xw p l e R s m args below meth c nL Y D σ np b0 cells slots Q pc L (.long y :: .long x :: rest) cm dm := fun H locs ls hP hS hB hl => lv_lrem hE.1 hE.2.1 hd (chl_some hf).1 (k (chl_some hf).2 H locs ls hP hS hB hl)
theorem x_idivC (hE : EOK p s m args meth c cc nL own Y D σ np b0) {x y : Int32} (hd : decode cc pc = .ok (.idiv, 1)) (hy : ¬ y = 0) (k : Xw p l e R s m args below meth c nL Y D σ np b0 cells slots Q (pc + 1) L (.int (x / y) :: rest) cm dm) : Xw p l e R s m args below meth c nL Y D σ np b0 cells slots Q pc L (.int y :: .int x :: rest) cm dm := fun H locs ls hP hS hB hl => lv_idiv hE.1 hE.2.1 hd hy (k H locs ls hP hS hB hl)
theorem x_iremC (hE : EOK p s m args meth c cc nL own Y D σ np b0) {x y : Int32} (hd : decode cc pc = .ok (.irem, 1)) (hy : ¬ y = 0) (k : Xw p l e R s m args below meth c nL Y D σ np b0 cells slots Q (pc + 1) L (.int (irm x y) :: rest) cm dm) : Xw p l e R s m args below meth c nL Y D σ np b0 cells slots Q pc L (.int y :: .int x :: rest) cm dm := fun H locs ls hP hS hB hl => lv_irem hE.1 hE.2.1 hd hy (k H locs ls hP hS hB hl)
theorem x_if_eq (hE : EOK p s m args meth c cc nL own Y D σ np b0) {β : Type} {r : β} {A B : Option β} {x : Int32} {off : Int} (tgt : Nat) (hd : decode cc pc = .ok (.ifCond .eq off, 3)) (ht : (pc : Int) + off = (tgt : Int)) (hf : (if x = 0 then A else B) = some r) (kt : A = some r → Xw p l e R s m args below meth c nL Y D σ np b0 cells slots Q tgt L rest cm dm) (kf : B = some r → Xw p l e R s m args below meth c nL Y D σ np b0 cells slots Q (pc + 3) L rest cm dm) : Xw p l e R s m args below meth c nL Y D σ np b0 cells slots Q pc L (.int x :: rest) cm dm := fun H locs ls hP hS hB hl => lv_if_eq hE.1 hE.2.1 hd ht (fun h => kt (by rw [if_pos h] at hf; exact hf) H locs ls hP hS hB hl) (fun h => kf (by rw [if_neg h] at hf; exact hf) H locs ls hP hS hB hl)
theorem x_if_lt (hE : EOK p s m args meth c cc nL own Y D σ np b0) {β : Type} {r : β} {A B : Option β} {x : Int32} {off : Int} (tgt : Nat) (hd : decode cc pc = .ok (.ifCond .lt off, 3)) (ht : (pc : Int) + off = (tgt : Int)) (hf : (if x < 0 then A else B) = some r) (kt : A = some r → Xw p l e R s m args below meth c nL Y D σ np b0 cells slots Q tgt L rest cm dm) (kf : B = some r → Xw p l e R s m args below meth c nL Y D σ np b0 cells slots Q (pc + 3) L rest cm dm) : Xw p l e R s m args below meth c nL Y D σ np b0 cells slots Q pc L (.int x :: rest) cm dm := fun H locs ls hP hS hB hl => lv_if_lt hE.1 hE.2.1 hd ht (fun h => kt (by rw [if_pos h] at hf; exact hf) H locs ls hP hS hB hl) (fun h => kf (by rw [if_neg h] at hf; exact hf) H locs ls hP hS hB hl)
theorem x_if_ge (hE : EOK p s m args meth c cc nL own Y D σ np b0) {β : Type} {r : β} {A B : Option β} {x : Int32} {off : Int} (tgt : Nat) (hd : decode cc pc = .ok (.ifCond .ge off, 3)) (ht : (pc : Int) + off = (tgt : Int)) (hf : (if 0 ≤ x then A else B) = some r) (kt : A = some r → Xw p l e R s m args below meth c nL Y D σ np b0 cells slots Q tgt L rest cm dm) (kf : B = some r → Xw p l e R s m args below meth c nL Y D σ np b0 cells slots Q (pc + 3) L rest cm dm) : Xw p l e R s m args below meth c nL Y D σ np b0 cells slots Q pc L (.int x :: rest) cm dm := fun H locs ls hP hS hB hl => lv_if_ge hE.1 hE.2.1 hd ht (fun h => kt (by rw [if_pos h] at hf; exact hf) H locs ls hP hS hB hl) (fun h => kf (by rw [if_neg h] at hf; exact hf) H locs ls hP hS hB hl)
theorem x_if_gt (hE : EOK p s m args meth c cc nL own Y D σ np b0) {β : Type} {r : β} {A B : Option β} {x : Int32} {off : Int} (tgt : Nat) (hd : decode cc pc = .ok (.ifCond .gt off, 3)) (ht : (pc : Int) + off = (tgt : Int)) (hf : (if 0 < x then A else B) = some r) (kt : A = some r → Xw p l e R s m args below meth c nL Y D σ np b0 cells slots Q tgt L rest cm dm) (kf : B = some r → Xw p l e R s m args below meth c nL Y D σ np b0 cells slots Q (pc + 3) L rest cm dm) : Xw p l e R s m args below meth c nL Y D σ np b0 cells slots Q pc L (.int x :: rest) cm dm := fun H locs ls hP hS hB hl => lv_if_gt hE.1 hE.2.1 hd ht (fun h => kt (by rw [if_pos h] at hf; exact hf) H locs ls hP hS hB hl) (fun h => kf (by rw [if_neg h] at hf; exact hf) H locs ls hP hS hB hl)
theorem x_if_le (hE : EOK p s m args meth c cc nL own Y D σ np b0) {β : Type} {r : β} {A B : Option β} {x : Int32} {off : Int} (tgt : Nat) (hd : decode cc pc = .ok (.ifCond .le off, 3)) (ht : (pc : Int) + off = (tgt : Int)) (hf : (if x ≤ 0 then A else B) = some r) (kt : A = some r → Xw p l e R s m args below meth c nL Y D σ np b0 cells slots Q tgt L rest cm dm) (kf : B = some r → Xw p l e R s m args below meth c nL Y D σ np b0 cells slots Q (pc + 3) L rest cm dm) : Xw p l e R s m args below meth c nL Y D σ np b0 cells slots Q pc L (.int x :: rest) cm dm := fun H locs ls hP hS hB hl => lv_if_le hE.1 hE.2.1 hd ht (fun h => kt (by rw [if_pos h] at hf; exact hf) H locs ls hP hS hB hl) (fun h => kf (by rw [if_neg h] at hf; exact hf) H locs ls hP hS hB hl)
theorem x_icmp_eq (hE : EOK p s m args meth c cc nL own Y D σ np b0) {β : Type} {r : β} {A B : Option β} {x y : Int32} {off : Int} (tgt : Nat) (hd : decode cc pc = .ok (.if_icmp .eq off, 3)) (ht : (pc : Int) + off = (tgt : Int)) (hf : (if x = y then A else B) = some r) (kt : A = some r → Xw p l e R s m args below meth c nL Y D σ np b0 cells slots Q tgt L rest cm dm) (kf : B = some r → Xw p l e R s m args below meth c nL Y D σ np b0 cells slots Q (pc + 3) L rest cm dm) : Xw p l e R s m args below meth c nL Y D σ np b0 cells slots Q pc L (.int y :: .int x :: rest) cm dm := fun H locs ls hP hS hB hl => lv_icmp_eq hE.1 hE.2.1 hd ht (fun h => kt (by rw [if_pos h] at hf; exact hf) H locs ls hP hS hB hl) (fun h => kf (by rw [if_neg h] at hf; exact hf) H locs ls hP hS hB hl)
theorem x_icmp_lt (hE : EOK p s m args meth c cc nL own Y D σ np b0) {β : Type} {r : β} {A B : Option β} {x y : Int32} {off : Int} (tgt : Nat) (hd : decode cc pc = .ok (.if_icmp .lt off, 3)) (ht : (pc : Int) + off = (tgt : Int)) (hf : (if x < y then A else B) = some r) (kt : A = some r → Xw p l e R s m args below meth c nL Y D σ np b0 cells slots Q tgt L rest cm dm) (kf : B = some r → Xw p l e R s m args below meth c nL Y D σ np b0 cells slots Q (pc + 3) L rest cm dm) : Xw p l e R s m args below meth c nL Y D σ np b0 cells slots Q pc L (.int y :: .int x :: rest) cm dm := fun H locs ls hP hS hB hl => lv_icmp_lt hE.1 hE.2.1 hd ht (fun h => kt (by rw [if_pos h] at hf; exact hf) H locs ls hP hS hB hl) (fun h => kf (by rw [if_neg h] at hf; exact hf) H locs ls hP hS hB hl)
theorem x_icmp_ge (hE : EOK p s m args meth c cc nL own Y D σ np b0) {β : Type} {r : β} {A B : Option β} {x y : Int32} {off : Int} (tgt : Nat) (hd : decode cc pc = .ok (.if_icmp .ge off, 3)) (ht : (pc : Int) + off = (tgt : Int)) (hf : (if y ≤ x then A else B) = some r) (kt : A = some r → Xw p l e R s m args below meth c nL Y D σ np b0 cells slots Q tgt L rest cm dm) (kf : B = some r → Xw p l e R s m args below meth c nL Y D σ np b0 cells slots Q (pc + 3) L rest cm dm) : Xw p l e R s m args below meth c nL Y D σ np b0 cells slots Q pc L (.int y :: .int x :: rest) cm dm := fun H locs ls hP hS hB hl => lv_icmp_ge hE.1 hE.2.1 hd ht (fun h => kt (by rw [if_pos h] at hf; exact hf) H locs ls hP hS hB hl) (fun h => kf (by rw [if_neg h] at hf; exact hf) H locs ls hP hS hB hl)
theorem x_icmp_gt (hE : EOK p s m args meth c cc nL own Y D σ np b0) {β : Type} {r : β} {A B : Option β} {x y : Int32} {off : Int} (tgt : Nat) (hd : decode cc pc = .ok (.if_icmp .gt off, 3)) (ht : (pc : Int) + off = (tgt : Int)) (hf : (if y < x then A else B) = some r) (kt : A = some r → Xw p l e R s m args below meth c nL Y D σ np b0 cells slots Q tgt L rest cm dm) (kf : B = some r → Xw p l e R s m args below meth c nL Y D σ np b0 cells slots Q (pc + 3) L rest cm dm) : Xw p l e R s m args below meth c nL Y D σ np b0 cells slots Q pc L (.int y :: .int x :: rest) cm dm := fun H locs ls hP hS hB hl => lv_icmp_gt hE.1 hE.2.1 hd ht (fun h => kt (by rw [if_pos h] at hf; exact hf) H locs ls hP hS hB hl) (fun h => kf (by rw [if_neg h] at hf; exact hf) H locs ls hP hS hB hl)
theorem x_icmp_le (hE : EOK p s m args meth c cc nL own Y D σ np b0) {β : Type} {r : β} {A B : Option β} {x y : Int32} {off : Int} (tgt : Nat) (hd : decode cc pc = .ok (.if_icmp .le off, 3)) (ht : (pc : Int) + off = (tgt : Int)) (hf : (if x ≤ y then A else B) = some r) (kt : A = some r → Xw p l e R s m args below meth c nL Y D σ np b0 cells slots Q tgt L rest cm dm) (kf : B = some r → Xw p l e R s m args below meth c nL Y D σ np b0 cells slots Q (pc + 3) L rest cm dm) : Xw p l e R s m args below meth c nL Y D σ np b0 cells slots Q pc L (.int y :: .int x :: rest) cm dm := fun H locs ls hP hS hB hl => lv_icmp_le hE.1 hE.2.1 hd ht (fun h => kt (by rw [if_pos h] at hf; exact hf) H locs ls hP hS hB hl) (fun h => kf (by rw [if_neg h] at hf; exact hf) H locs ls hP hS hB hl)
theorem x_if_ne (hE : EOK p s m args meth c cc nL own Y D σ np b0) {β : Type} {r : β} {A B : Option β} {x : Int32} {off : Int} (tgt : Nat) (hd : decode cc pc = .ok (.ifCond .ne off, 3)) (ht : (pc : Int) + off = (tgt : Int)) (hf : (if x = 0 then B else A) = some r) (kt : A = some r → Xw p l e R s m args below meth c nL Y D σ np b0 cells slots Q tgt L rest cm dm) (kf : B = some r → Xw p l e R s m args below meth c nL Y D σ np b0 cells slots Q (pc + 3) L rest cm dm) : Xw p l e R s m args below meth c nL Y D σ np b0 cells slots Q pc L (.int x :: rest) cm dm := fun H locs ls hP hS hB hl => lv_if_ne hE.1 hE.2.1 hd ht (fun h => kt (by rw [if_neg h] at hf; exact hf) H locs ls hP hS hB hl) (fun h => kf (by rw [if_pos h] at hf; exact hf) H locs ls hP hS hB hl)
theorem x_icmp_ne (hE : EOK p s m args meth c cc nL own Y D σ np b0) {β : Type} {r : β} {A B : Option β} {x y : Int32} {off : Int} (tgt : Nat) (hd : decode cc pc = .ok (.if_icmp .ne off, 3)) (ht : (pc : Int) + off = (tgt : Int)) (hf : (if x = y then B else A) = some r) (kt : A = some r → Xw p l e R s m args below meth c nL Y D σ np b0 cells slots Q tgt L rest cm dm) (kf : B = some r → Xw p l e R s m args below meth c nL Y D σ np b0 cells slots Q (pc + 3) L rest cm dm) : Xw p l e R s m args below meth c nL Y D σ np b0 cells slots Q pc L (.int y :: .int x :: rest) cm dm := fun H locs ls hP hS hB hl => lv_icmp_ne hE.1 hE.2.1 hd ht (fun h => kt (by rw [if_neg h] at hf; exact hf) H locs ls hP hS hB hl) (fun h => kf (by rw [if_pos h] at hf; exact hf) H locs ls hP hS hB hl)
theorem x_ifnonnull (hE : EOK p s m args meth c cc nL own Y D σ np b0) {x : Nat} {off : Int} (tgt : Nat) (hd : decode cc pc = .ok (.ifnonnull off, 3)) (ht : (pc : Int) + off = (tgt : Int)) (k : Xw p l e R s m args below meth c nL Y D σ np b0 cells slots Q tgt L rest cm dm) : Xw p l e R s m args below meth c nL Y D σ np b0 cells slots Q pc L (.ref x :: rest) cm dm := fun H locs ls hP hS hB hl => lv_ifnonnull hE.1 hE.2.1 hd ht (k H locs ls hP hS hB hl)
theorem x_ifnull (hE : EOK p s m args meth c cc nL own Y D σ np b0) {x : Nat} {off : Int} (hd : decode cc pc = .ok (.ifnull off, 3)) (k : Xw p l e R s m args below meth c nL Y D σ np b0 cells slots Q (pc + 3) L rest cm dm) : Xw p l e R s m args below meth c nL Y D σ np b0 cells slots Q pc L (.ref x :: rest) cm dm := fun H locs ls hP hS hB hl => lv_ifnull hE.1 hE.2.1 hd (k H locs ls hP hS hB hl)
theorem x_swi {β : Type} {r : β} {x : Int32} {A B : Option β} {G : Prop} (a : Int32) (hf : (if x = a then A else B) = some r) (k1 : x = a → A = some r → G) (k2 : ¬ x = a → B = some r → G) : G := by
  by_cases h : x = a
  · rw [if_pos h] at hf; exact k1 h hf
  · rw [if_neg h] at hf; exact k2 h hf
theorem x_tabI (hE : EOK p s m args meth c cc nL own Y D σ np b0) (tgt : Nat) {dflt lo hi : Int} {offs : Array Int} {len : Nat} {x a : Int32} {off : Int} (hd : decode cc pc = .ok (.tableswitch dflt lo hi offs, len)) (hq : x = a) (h1 : ¬ a.toInt < lo) (h2 : ¬ hi < a.toInt) (ho : offs[(a.toInt - lo).toNat]? = some off) (ht : (pc : Int) + off = (tgt : Int)) (k : Xw p l e R s m args below meth c nL Y D σ np b0 cells slots Q tgt L rest cm dm) : Xw p l e R s m args below meth c nL Y D σ np b0 cells slots Q pc L (.int x :: rest) cm dm := by
  intro H locs ls hP hS hB hl
  subst hq
  exact lv_tableIn hE.1 hE.2.1 hd h1 h2 ho ht (k H locs ls hP hS hB hl)
theorem x_tabO (hE : EOK p s m args meth c cc nL own Y D σ np b0) (tgt : Nat) {dflt lo hi : Int} {offs : Array Int} {len : Nat} {x : Int32} (hd : decode cc pc = .ok (.tableswitch dflt lo hi offs, len)) (h : x.toInt < lo ∨ hi < x.toInt) (ht : (pc : Int) + dflt = (tgt : Int)) (k : Xw p l e R s m args below meth c nL Y D σ np b0 cells slots Q tgt L rest cm dm) : Xw p l e R s m args below meth c nL Y D σ np b0 cells slots Q pc L (.int x :: rest) cm dm := by
  intro H locs ls hP hS hB hl
  exact lv_tableOut hE.1 hE.2.1 hd h ht (k H locs ls hP hS hB hl)
theorem x_lsw (hE : EOK p s m args meth c cc nL own Y D σ np b0) (tgt : Nat) {dflt : Int} {ps : Array (Int × Int)} {len : Nat} {x : Int32} {off : Int} (hd : decode cc pc = .ok (.lookupswitch dflt ps, len)) (hp : (ps.toList.zip (ps.toList.drop 1)).all (fun (a, next) => a.1 < next.1) = true) (ho : Op.lookupswitch.offset ps.toList dflt x.toInt = off) (ht : (pc : Int) + off = (tgt : Int)) (k : Xw p l e R s m args below meth c nL Y D σ np b0 cells slots Q tgt L rest cm dm) : Xw p l e R s m args below meth c nL Y D σ np b0 cells slots Q pc L (.int x :: rest) cm dm := by
  intro H locs ls hP hS hB hl
  exact lv_lookup hE.1 hE.2.1 hd hp ho ht (k H locs ls hP hS hB hl)
theorem x_ne {x a : Int32} {k : Int} (h : ¬ x = a) (e : a.toInt = k) : ¬ x.toInt = k := fun q => h (Int32.toInt_inj.mp (q.trans e.symm))
theorem x_out {x : Int32} {lo hi : Int} (n : Nat) (hn : hi = lo + n - 1) (h : ∀ k : Nat, k < n → ¬ x.toInt = lo + k) : x.toInt < lo ∨ hi < x.toInt := by
  rcases Int.lt_or_le x.toInt lo with q | q
  · exact Or.inl q
  · rcases Int.lt_or_le hi x.toInt with q2 | q2
    · exact Or.inr q2
    · exact absurd (show x.toInt = lo + ((x.toInt - lo).toNat : Nat) by omega) (h _ (by omega))
theorem x_null (hE : EOK p s m args meth c cc nL own Y D σ np b0) (hd : decode cc pc = .ok (.aconst_null, 1)) (k : Xw p l e R s m args below meth c nL Y D σ np b0 cells slots Q (pc + 1) L (.null :: rest) cm dm) : Xw p l e R s m args below meth c nL Y D σ np b0 cells slots Q pc L rest cm dm := fun H locs ls hP hS hB hl => lv_null hE.1 hE.2.1 hd (k H locs ls hP hS hB hl)
theorem x_aload_nN (hE : EOK p s m args meth c cc nL own Y D σ np b0) (j : Nat) {kk : Fin 4} {i : Nat} (hd : decode cc pc = .ok (.aload_n kk, 1)) (hi : (kk : Nat) = i) (hj : L[j]? = some (i, .null)) (k : Xw p l e R s m args below meth c nL Y D σ np b0 cells slots Q (pc + 1) L (.null :: rest) cm dm) : Xw p l e R s m args below meth c nL Y D σ np b0 cells slots Q pc L rest cm dm := fun H locs ls hP hS hB hl => lv_aload_nN hE.1 hE.2.1 hd hi (lv_at hl j hj) (k H locs ls hP hS hB hl)
theorem x_aloadN (hE : EOK p s m args meth c cc nL own Y D σ np b0) (j : Nat) {i : Nat} (hd : decode cc pc = .ok (.aload i, 2)) (hj : L[j]? = some (i, .null)) (k : Xw p l e R s m args below meth c nL Y D σ np b0 cells slots Q (pc + 2) L (.null :: rest) cm dm) : Xw p l e R s m args below meth c nL Y D σ np b0 cells slots Q pc L rest cm dm := fun H locs ls hP hS hB hl => lv_aloadN hE.1 hE.2.1 hd (lv_at hl j hj) (k H locs ls hP hS hB hl)
theorem x_astore_nN (hE : EOK p s m args meth c cc nL own Y D σ np b0) {L' : List (Nat × Value)} {kk : Fin 4} {i : Nat} (hd : decode cc pc = .ok (.astore_n kk, 1)) (hi : (kk : Nat) = i) (hn : i < nL) (hl : (i, Value.null) :: L.filter (fun q => !(q.1 == i) && !(q.1 + 1 == i && q.2.category == 2)) = L') (k : Xw p l e R s m args below meth c nL Y D σ np b0 cells slots Q (pc + 1) L' rest cm dm) : Xw p l e R s m args below meth c nL Y D σ np b0 cells slots Q pc L (.null :: rest) cm dm := fun H locs ls hP hS hB h => lv_astore_nN hE.1 hE.2.1 hd hi h hn hl (fun ls' h' => k H locs ls' hP hS hB h')
theorem x_astoreN (hE : EOK p s m args meth c cc nL own Y D σ np b0) {L' : List (Nat × Value)} {i : Nat} (hd : decode cc pc = .ok (.astore i, 2)) (hn : i < nL) (hl : (i, Value.null) :: L.filter (fun q => !(q.1 == i) && !(q.1 + 1 == i && q.2.category == 2)) = L') (k : Xw p l e R s m args below meth c nL Y D σ np b0 cells slots Q (pc + 2) L' rest cm dm) : Xw p l e R s m args below meth c nL Y D σ np b0 cells slots Q pc L (.null :: rest) cm dm := fun H locs ls hP hS hB h => lv_astoreN hE.1 hE.2.1 hd h hn hl (fun ls' h' => k H locs ls' hP hS hB h')
theorem x_ifnullN (hE : EOK p s m args meth c cc nL own Y D σ np b0) {off : Int} (tgt : Nat) (hd : decode cc pc = .ok (.ifnull off, 3)) (ht : (pc : Int) + off = (tgt : Int)) (k : Xw p l e R s m args below meth c nL Y D σ np b0 cells slots Q tgt L rest cm dm) : Xw p l e R s m args below meth c nL Y D σ np b0 cells slots Q pc L (.null :: rest) cm dm := fun H locs ls hP hS hB hl => lv_ifnullN hE.1 hE.2.1 hd ht (k H locs ls hP hS hB hl)
theorem x_ifnonnullN (hE : EOK p s m args meth c cc nL own Y D σ np b0) {off : Int} (hd : decode cc pc = .ok (.ifnonnull off, 3)) (k : Xw p l e R s m args below meth c nL Y D σ np b0 cells slots Q (pc + 3) L rest cm dm) : Xw p l e R s m args below meth c nL Y D σ np b0 cells slots Q pc L (.null :: rest) cm dm := fun H locs ls hP hS hB hl => lv_ifnonnullN hE.1 hE.2.1 hd (k H locs ls hP hS hB hl)
theorem x_usual (hE : EOK p s m args meth c cc nL own Y D σ np b0) {index : Nat} (hw : Cond.fieldLink own index "SettlerColony" "USUAL" "[I" ∈ lw_g) (hd : decode cc pc = .ok (.getstatic index, 3)) (k : Xw p l e R s m args below meth c nL Y D σ np b0 cells slots Q (pc + 3) L (.ref (Y 100) :: rest) cm dm) : Xw p l e R s m args below meth c nL Y D σ np b0 cells slots Q pc L rest cm dm := fun H locs ls hP hS hB hl => va_gets hE.1 hE.2.1 hE.2.2.2.2.2.2.2.2.2.2.2.1 hS hE.2.2.2.1 (hE.2.2.2.2.1 _ hw) (fun _ h => h) hd (k H locs ls hP hS hB hl)
theorem x_usualN (hE : EOK p s m args meth c cc nL own Y D σ np b0) {index : Nat} {host : String} (hw : Cond.fieldLinkNest own index "SettlerColony" "USUAL" "[I" host ∈ lw_nw) (hd : decode cc pc = .ok (.getstatic index, 3)) (k : Xw p l e R s m args below meth c nL Y D σ np b0 cells slots Q (pc + 3) L (.ref (Y 100) :: rest) cm dm) : Xw p l e R s m args below meth c nL Y D σ np b0 cells slots Q pc L rest cm dm := fun H locs ls hP hS hB hl => va_getsN hE.1 hE.2.1 hE.2.2.2.2.2.2.2.2.2.2.2.1 hS hE.2.2.2.1 (va_Nw.use rfl (hE.2.2.2.2.2.1 _ hw)) (fun _ h => h) hd (k H locs ls hP hS hB hl)
theorem x_ualen (hE : EOK p s m args meth c cc nL own Y D σ np b0) (hd : decode cc pc = .ok (.arraylength, 1)) (k : Xw p l e R s m args below meth c nL Y D σ np b0 cells slots Q (pc + 1) L (.int (nI 8) :: rest) cm dm) : Xw p l e R s m args below meth c nL Y D σ np b0 cells slots Q pc L (.ref (Y 100) :: rest) cm dm := by
  intro H locs ls hP hS hB hl
  obtain ⟨cell, h1, h2, h3, h4, h5, h6, h7⟩ := hE.2.2.2.2.2.2.2.2.2.2.2.2.1.kept (H1 := H) (fun a x y => hS.2.1 a x y)
  exact W.alen hE.1 hE.2.1 h1 h2 h5 rfl rfl hd (k H locs ls hP hS hB hl)
theorem x_uald (hE : EOK p s m args meth c cc nL own Y D σ np b0) {β : Type} {r : β} {B : Option β} {i : Int32} (hd : decode cc pc = .ok (.iaload, 1)) (hf : chk i 8 B = some r) (k : B = some r → Xw p l e R s m args below meth c nL Y D σ np b0 cells slots Q (pc + 1) L (.int (usu i.toNatClampNeg) :: rest) cm dm) : Xw p l e R s m args below meth c nL Y D σ np b0 cells slots Q pc L (.int i :: .ref (Y 100) :: rest) cm dm := by
  intro H locs ls hP hS hB hl
  obtain ⟨cell, h1, h2, h3, h4, h5, h6, h7⟩ := hE.2.2.2.2.2.2.2.2.2.2.2.2.1.kept (H1 := H) (fun a x y => hS.2.1 a x y)
  have hin := (chk_some hf).1
  have hlt : i.toNatClampNeg < 8 := Nat.not_le.mp fun q => hin (Or.inr q)
  exact W.iald hE.1 hE.2.1 h1 h2 h3 (fun q => hin (q.imp id (fun q2 => Nat.le_trans h4 q2))) (h6 _ hlt) rfl rfl hd (k (chk_some hf).2 H locs ls hP hS hB hl)
/-! ===== fields and rows of the world ===== -/
theorem kE_obj {Y : Nat → ClassId} {σ : Nat → Nat} {t : xK} {k : Nat} {f : Nat → Int32} {g : Nat → Int64} (h : t.1 < 100) : kE Y σ t k f g = .inr (t.1, kF σ f g 0 t.2.2) := by
  unfold kE
  rw [if_neg (by omega), if_neg (by omega), if_neg (by omega), if_neg (by omega), if_neg (by omega), if_neg (by omega), if_neg (by omega)]
theorem x_getV (hE : EOK p s m args meth c cc nL own Y D σ np b0) {C : String} {T : u_T} {N ci k index : Nat} {ty0 : Nat → FieldType} {lk : List Nat} {t : Nat} (hc : CLok ci C T N ty0) (hk : k < np ∧ kd k = (ci, 0, lk)) (hci : ci < 100) (j : Nat) (hj : lk[j]? = some t) (hjN : j < N) (hw : Cond.fieldLink own index (T j).1 (T j).2.1 (T j).2.2.1 ∈ lw_g) (hd : decode cc pc = .ok (.getfield index, 3)) {v : Value} (hv : kV σ (cm k) (dm k) j t = v) (kk : Xw p l e R s m args below meth c nL Y D σ np b0 cells slots Q (pc + 3) L (v :: rest) cm dm) : Xw p l e R s m args below meth c nL Y D σ np b0 cells slots Q pc L (.ref (σ k) :: rest) cm dm := by
  intro H locs ls hP hS hB hl
  have he := wl_at (Y := Y) (σ := σ) (c := cm) (d := dm) (kn_of hk (Nat.ne_of_lt (Nat.lt_trans hci (by decide))))
  rw [hk.2, kE_obj hci] at he
  have hg := kF_get σ (cm k) (dm k) lk 0 j t hj
  rw [Nat.zero_add, hv] at hg
  exact va_get (ref := (T j).1) hE.1 hE.2.1 hE.2.2.2.2.1 hc.2.1 hE.2.2.2.1 hE.2.2.2.2.2.2.1 hP (ix k) he hc.1 j hjN (hE.2.2.2.2.1 _ hw) (fun _ h => h) hg hd (kk H locs ls hP hS hB hl)
theorem x_getI (hE : EOK p s m args meth c cc nL own Y D σ np b0) {C : String} {T : u_T} {N ci k index : Nat} {ty0 : Nat → FieldType} {lk : List Nat} (hc : CLok ci C T N ty0) (hk : k < np ∧ kd k = (ci, 0, lk)) (hci : ci < 100) (j : Nat) (hj : lk[j]? = some 0) (hjN : j < N) (hw : Cond.fieldLink own index (T j).1 (T j).2.1 (T j).2.2.1 ∈ lw_g) (hd : decode cc pc = .ok (.getfield index, 3)) (kk : Xw p l e R s m args below meth c nL Y D σ np b0 cells slots Q (pc + 3) L (.int (cm k j) :: rest) cm dm) : Xw p l e R s m args below meth c nL Y D σ np b0 cells slots Q pc L (.ref (σ k) :: rest) cm dm := x_getV hE hc hk hci j hj hjN hw hd rfl kk
theorem x_getL (hE : EOK p s m args meth c cc nL own Y D σ np b0) {C : String} {T : u_T} {N ci k index : Nat} {ty0 : Nat → FieldType} {lk : List Nat} (hc : CLok ci C T N ty0) (hk : k < np ∧ kd k = (ci, 0, lk)) (hci : ci < 100) (j : Nat) (hj : lk[j]? = some 1) (hjN : j < N) (hw : Cond.fieldLink own index (T j).1 (T j).2.1 (T j).2.2.1 ∈ lw_g) (hd : decode cc pc = .ok (.getfield index, 3)) (kk : Xw p l e R s m args below meth c nL Y D σ np b0 cells slots Q (pc + 3) L (.long (dm k j) :: rest) cm dm) : Xw p l e R s m args below meth c nL Y D σ np b0 cells slots Q pc L (.ref (σ k) :: rest) cm dm := x_getV hE hc hk hci j hj hjN hw hd rfl kk
theorem x_getR (hE : EOK p s m args meth c cc nL own Y D σ np b0) {C : String} {T : u_T} {N ci k index : Nat} {ty0 : Nat → FieldType} {lk : List Nat} (hc : CLok ci C T N ty0) (hk : k < np ∧ kd k = (ci, 0, lk)) (hci : ci < 100) (j : Nat) (k2 : Nat) (hj : lk[j]? = some (2 + k2)) (hjN : j < N) (hw : Cond.fieldLink own index (T j).1 (T j).2.1 (T j).2.2.1 ∈ lw_g) (hd : decode cc pc = .ok (.getfield index, 3)) (kk : Xw p l e R s m args below meth c nL Y D σ np b0 cells slots Q (pc + 3) L (.ref (σ k2) :: rest) cm dm) : Xw p l e R s m args below meth c nL Y D σ np b0 cells slots Q pc L (.ref (σ k) :: rest) cm dm := x_getV hE hc hk hci j hj hjN hw hd (by rw [Nat.add_comm 2 k2]; rfl) kk
theorem x_putI (hE : EOK p s m args meth c cc nL own Y D σ np b0) {C : String} {T : u_T} {N ci k index : Nat} {ty0 : Nat → FieldType} {lk : List Nat} {β : Type} {r : β} {f : Mc → Option β} {x : Int32} (hc : CLok ci C T N ty0) (hk : k < np ∧ kd k = (ci, 0, lk)) (hci : ci < 100) (j : Nat) (hj : lk[j]? = some 0) (hjN : j < N) (hw : Cond.fieldLink own index (T j).1 (T j).2.1 (T j).2.2.1 ∈ lw_g) (hfin : (T j).2.2.2 = false) {ty : FieldType} (hty : parseFieldDescriptor (T j).2.2.1 = some ty) (hn : narrow ty (.int x) = .int x) (hfit : fits ty (.int x) = true) (hd : decode cc pc = .ok (.putfield index, 3)) (hf : lt (wr cm k j x) f = some r) (kk : ∀ c1 : Mc, f c1 = some r → Xw p l e R s m args below meth c nL Y D σ np b0 cells slots Q (pc + 3) L rest c1 dm) : Xw p l e R s m args below meth c nL Y D σ np b0 cells slots Q pc L (.int x :: .ref (σ k) :: rest) cm dm := by
  intro H locs ls hP hS hB hl
  have he := wl_at (Y := Y) (σ := σ) (c := cm) (d := dm) (kn_of hk (Nat.ne_of_lt (Nat.lt_trans hci (by decide))))
  have e1 : kE Y σ (kd k) k (cm k) (dm k) = .inr (ci, kF σ (cm k) (dm k) 0 lk) := by rw [hk.2, kE_obj hci]
  have e2 : ∀ f, kE Y σ (kd k) k f (dm k) = .inr (ci, kF σ f (dm k) 0 lk) := by intro f; rw [hk.2, kE_obj hci]
  rw [e1] at he
  refine va_put (ref := (T j).1) hE.1 hE.2.1 hE.2.2.2.2.1 hc.2.1 ty0 hc.2.2.1 hc.2.2.2 hE.2.2.2.1 hE.2.2.2.2.2.2.1 hP (wl_D hE.2.2.2.2.2.2.2.1) hS (ix k) he hc.1 j hjN (hE.2.2.2.2.1 _ hw) (fun _ h => h) hfin hty hn hfit (by rw [kF_len]; exact (List.getElem?_eq_some_iff.mp hj).1) hd (fun H1 locs1 hP1 hD1 hS1 => ?_)
  rw [kF_set σ (cm k) (dm k) j x hj, ← e2, wl_set (kn_of hk (Nat.ne_of_lt (Nat.lt_trans hci (by decide)))), wr_up] at hP1
  have hk16 : k ≠ 16 := by
    intro q
    subst q
    have := hk.2
    rw [show kd 16 = (105, 12, []) from by decide +kernel] at this
    have h2 : (105 : Nat) = ci := congrArg Prod.fst this
    omega
  exact kk _ hf H1 locs1 ls hP1 hS1 (bk_wr hB hk16) hl
theorem x_putL (hE : EOK p s m args meth c cc nL own Y D σ np b0) {C : String} {T : u_T} {N ci k index : Nat} {ty0 : Nat → FieldType} {lk : List Nat} {β : Type} {r : β} {f : Md → Option β} {x : Int64} (hc : CLok ci C T N ty0) (hk : k < np ∧ kd k = (ci, 0, lk)) (hci : ci < 100) (j : Nat) (hj : lk[j]? = some 1) (hjN : j < N) (hw : Cond.fieldLink own index (T j).1 (T j).2.1 (T j).2.2.1 ∈ lw_g) (hfin : (T j).2.2.2 = false) {ty : FieldType} (hty : parseFieldDescriptor (T j).2.2.1 = some ty) (hn : narrow ty (.long x) = .long x) (hfit : fits ty (.long x) = true) (hd : decode cc pc = .ok (.putfield index, 3)) (hf : lt (wrd dm k j x) f = some r) (kk : ∀ d1 : Md, f d1 = some r → Xw p l e R s m args below meth c nL Y D σ np b0 cells slots Q (pc + 3) L rest cm d1) : Xw p l e R s m args below meth c nL Y D σ np b0 cells slots Q pc L (.long x :: .ref (σ k) :: rest) cm dm := by
  intro H locs ls hP hS hB hl
  have he := wl_at (Y := Y) (σ := σ) (c := cm) (d := dm) (kn_of hk (Nat.ne_of_lt (Nat.lt_trans hci (by decide))))
  have e1 : ∀ g, kE Y σ (kd k) k (cm k) g = .inr (ci, kF σ (cm k) g 0 lk) := by intro g; rw [hk.2, kE_obj hci]
  rw [e1] at he
  refine va_put (ref := (T j).1) hE.1 hE.2.1 hE.2.2.2.2.1 hc.2.1 ty0 hc.2.2.1 hc.2.2.2 hE.2.2.2.1 hE.2.2.2.2.2.2.1 hP (wl_D hE.2.2.2.2.2.2.2.1) hS (ix k) he hc.1 j hjN (hE.2.2.2.2.1 _ hw) (fun _ h => h) hfin hty hn hfit (by rw [kF_len]; exact (List.getElem?_eq_some_iff.mp hj).1) hd (fun H1 locs1 hP1 hD1 hS1 => ?_)
  rw [kF_setd σ (cm k) (dm k) j x hj, ← e1, wl_setd (kn_of hk (Nat.ne_of_lt (Nat.lt_trans hci (by decide)))), wrd_up] at hP1
  exact kk _ hf H1 locs1 ls hP1 hS1 hB hl
theorem x_iald (hE : EOK p s m args meth c cc nL own Y D σ np b0) {k n : Nat} {β : Type} {r : β} {B : Option β} {i : Int32} (hk : k < np ∧ kd k = (100, n, [])) (hd : decode cc pc = .ok (.iaload, 1)) (hf : chk i n B = some r) (kk : B = some r → Xw p l e R s m args below meth c nL Y D σ np b0 cells slots Q (pc + 1) L (.int (cm k i.toNatClampNeg) :: rest) cm dm) : Xw p l e R s m args below meth c nL Y D σ np b0 cells slots Q pc L (.int i :: .ref (σ k) :: rest) cm dm := by
  intro H locs ls hP hS hB hl
  have he := wl_at (Y := Y) (σ := σ) (c := cm) (d := dm) (kn_of hk (by decide))
  rw [hk.2] at he
  exact va_iald hE.1 hE.2.1 hE.2.2.2.2.2.2.1 hP (ix k) 0 he rfl (chk_some hf).1 hd (kk (chk_some hf).2 H locs ls hP hS hB hl)
theorem x_zald (hE : EOK p s m args meth c cc nL own Y D σ np b0) {k n : Nat} {β : Type} {r : β} {B : Option β} {i : Int32} (hk : k < np ∧ kd k = (101, n, [])) (hd : decode cc pc = .ok (.baload, 1)) (hf : chk i n B = some r) (kk : B = some r → Xw p l e R s m args below meth c nL Y D σ np b0 cells slots Q (pc + 1) L (.int (cm k i.toNatClampNeg) :: rest) cm dm) : Xw p l e R s m args below meth c nL Y D σ np b0 cells slots Q pc L (.int i :: .ref (σ k) :: rest) cm dm := by
  intro H locs ls hP hS hB hl
  have he := wl_at (Y := Y) (σ := σ) (c := cm) (d := dm) (kn_of hk (by decide))
  rw [hk.2] at he
  exact va_zald hE.1 hE.2.1 hE.2.2.2.2.2.2.1 hP (ix k) 1 he rfl (chk_some hf).1 hd (kk (chk_some hf).2 H locs ls hP hS hB hl)
theorem x_bald (hE : EOK p s m args meth c cc nL own Y D σ np b0) {k n : Nat} {β : Type} {r : β} {B : Option β} {i : Int32} (hk : k < np ∧ kd k = (102, n, [])) (hd : decode cc pc = .ok (.baload, 1)) (hf : chk i n B = some r) (kk : B = some r → Xw p l e R s m args below meth c nL Y D σ np b0 cells slots Q (pc + 1) L (.int (cm k i.toNatClampNeg) :: rest) cm dm) : Xw p l e R s m args below meth c nL Y D σ np b0 cells slots Q pc L (.int i :: .ref (σ k) :: rest) cm dm := by
  intro H locs ls hP hS hB hl
  have he := wl_at (Y := Y) (σ := σ) (c := cm) (d := dm) (kn_of hk (by decide))
  rw [hk.2] at he
  exact va_bald hE.1 hE.2.1 hE.2.2.2.2.2.2.1 hP (ix k) 2 he rfl (chk_some hf).1 hd (kk (chk_some hf).2 H locs ls hP hS hB hl)
theorem x_iast (hE : EOK p s m args meth c cc nL own Y D σ np b0) {k n : Nat} {β : Type} {r : β} {f : Mc → Option β} {i x : Int32} (hk : k < np ∧ kd k = (100, n, [])) (hd : decode cc pc = .ok (.iastore, 1)) (hf : chk i n (lt (wr cm k i.toNatClampNeg x) f) = some r) (kk : ∀ c1 : Mc, f c1 = some r → Xw p l e R s m args below meth c nL Y D σ np b0 cells slots Q (pc + 1) L rest c1 dm) : Xw p l e R s m args below meth c nL Y D σ np b0 cells slots Q pc L (.int x :: .int i :: .ref (σ k) :: rest) cm dm := by
  intro H locs ls hP hS hB hl
  have he := wl_at (Y := Y) (σ := σ) (c := cm) (d := dm) (kn_of hk (by decide))
  have e2 : ∀ f, kE Y σ (kd k) k f (dm k) = .inl (Y 0, n, .inl f) := by intro f; rw [hk.2]; rfl
  rw [e2] at he
  refine va_iast hE.1 hE.2.1 hE.2.2.2.2.2.2.1 hP (wl_D hE.2.2.2.2.2.2.2.1) hS (ix k) 0 he rfl (chk_some hf).1 hd (fun H1 locs1 hP1 hD1 hS1 => ?_)
  rw [← e2, wl_set (kn_of hk (by decide)), wr_up] at hP1
  have hk16 : k ≠ 16 := by
    intro q
    subst q
    have := hk.2
    rw [show kd 16 = (105, 12, []) from by decide +kernel] at this
    have h2 : (105 : Nat) = 100 := congrArg Prod.fst this
    omega
  exact kk _ (chk_some hf).2 H1 locs1 ls hP1 hS1 (bk_wr hB hk16) hl
theorem x_zast (hE : EOK p s m args meth c cc nL own Y D σ np b0) {k n : Nat} {β : Type} {r : β} {f : Mc → Option β} {i x : Int32} (hk : k < np ∧ kd k = (101, n, [])) (hd : decode cc pc = .ok (.bastore, 1)) (hf : chk i n (lt (wr cm k i.toNatClampNeg (vp_nar .boolean x)) f) = some r) (kk : ∀ c1 : Mc, f c1 = some r → Xw p l e R s m args below meth c nL Y D σ np b0 cells slots Q (pc + 1) L rest c1 dm) : Xw p l e R s m args below meth c nL Y D σ np b0 cells slots Q pc L (.int x :: .int i :: .ref (σ k) :: rest) cm dm := by
  intro H locs ls hP hS hB hl
  have he := wl_at (Y := Y) (σ := σ) (c := cm) (d := dm) (kn_of hk (by decide))
  have e2 : ∀ f, kE Y σ (kd k) k f (dm k) = .inl (Y 1, n, .inl f) := by intro f; rw [hk.2]; rfl
  rw [e2] at he
  refine va_zast hE.1 hE.2.1 hE.2.2.2.2.2.2.1 hP (wl_D hE.2.2.2.2.2.2.2.1) hS (ix k) 1 he rfl (chk_some hf).1 hd (fun H1 locs1 hP1 hD1 hS1 => ?_)
  rw [← e2, wl_set (kn_of hk (by decide)), wr_up] at hP1
  have hk16 : k ≠ 16 := by
    intro q
    subst q
    have := hk.2
    rw [show kd 16 = (105, 12, []) from by decide +kernel] at this
    have h2 : (105 : Nat) = 101 := congrArg Prod.fst this
    omega
  exact kk _ (chk_some hf).2 H1 locs1 ls hP1 hS1 (bk_wr hB hk16) hl
theorem x_bast (hE : EOK p s m args meth c cc nL own Y D σ np b0) {k n : Nat} {β : Type} {r : β} {f : Mc → Option β} {i x : Int32} (hk : k < np ∧ kd k = (102, n, [])) (hd : decode cc pc = .ok (.bastore, 1)) (hf : chk i n (lt (wr cm k i.toNatClampNeg (vp_nar .byte x)) f) = some r) (kk : ∀ c1 : Mc, f c1 = some r → Xw p l e R s m args below meth c nL Y D σ np b0 cells slots Q (pc + 1) L rest c1 dm) : Xw p l e R s m args below meth c nL Y D σ np b0 cells slots Q pc L (.int x :: .int i :: .ref (σ k) :: rest) cm dm := by
  intro H locs ls hP hS hB hl
  have he := wl_at (Y := Y) (σ := σ) (c := cm) (d := dm) (kn_of hk (by decide))
  have e2 : ∀ f, kE Y σ (kd k) k f (dm k) = .inl (Y 2, n, .inl f) := by intro f; rw [hk.2]; rfl
  rw [e2] at he
  refine va_bast hE.1 hE.2.1 hE.2.2.2.2.2.2.1 hP (wl_D hE.2.2.2.2.2.2.2.1) hS (ix k) 2 he rfl (chk_some hf).1 hd (fun H1 locs1 hP1 hD1 hS1 => ?_)
  rw [← e2, wl_set (kn_of hk (by decide)), wr_up] at hP1
  have hk16 : k ≠ 16 := by
    intro q
    subst q
    have := hk.2
    rw [show kd 16 = (105, 12, []) from by decide +kernel] at this
    have h2 : (105 : Nat) = 102 := congrArg Prod.fst this
    omega
  exact kk _ (chk_some hf).2 H1 locs1 ls hP1 hS1 (bk_wr hB hk16) hl
theorem x_lald (hE : EOK p s m args meth c cc nL own Y D σ np b0) {k n : Nat} {β : Type} {r : β} {B : Option β} {i : Int32} (hk : k < np ∧ kd k = (103, n, [])) (hd : decode cc pc = .ok (.laload, 1)) (hf : chk i n B = some r) (kk : B = some r → Xw p l e R s m args below meth c nL Y D σ np b0 cells slots Q (pc + 1) L (.long (dm k i.toNatClampNeg) :: rest) cm dm) : Xw p l e R s m args below meth c nL Y D σ np b0 cells slots Q pc L (.int i :: .ref (σ k) :: rest) cm dm := by
  intro H locs ls hP hS hB hl
  have he := wl_at (Y := Y) (σ := σ) (c := cm) (d := dm) (kn_of hk (by decide))
  rw [hk.2] at he
  exact va_lald hE.1 hE.2.1 hE.2.2.2.2.2.2.1 hP (ix k) 3 he rfl (chk_some hf).1 hd (kk (chk_some hf).2 H locs ls hP hS hB hl)
theorem x_aldR (hE : EOK p s m args meth c cc nL own Y D σ np b0) {k n : Nat} {β : Type} {r : β} {B : Option β} {i : Int32} (hk : k < np ∧ kd k = (104, n, [])) (hd : decode cc pc = .ok (.aaload, 1)) (hf : chk i n B = some r) (kk : B = some r → Xw p l e R s m args below meth c nL Y D σ np b0 cells slots Q (pc + 1) L (.ref (σ (k + 1 + i.toNatClampNeg)) :: rest) cm dm) : Xw p l e R s m args below meth c nL Y D σ np b0 cells slots Q pc L (.int i :: .ref (σ k) :: rest) cm dm := by
  intro H locs ls hP hS hB hl
  have he := wl_at (Y := Y) (σ := σ) (c := cm) (d := dm) (kn_of hk (by decide))
  rw [hk.2] at he
  have ha := hP (ix k) _ he
  have hK := (hE.2.2.2.2.2.2.1.2 4 _ rfl).1
  have hin := (chk_some hf).1
  have hlt : i.toNatClampNeg < n := Nat.not_le.mp fun q => hin (Or.inr q)
  exact W.aald (v := .ref (σ (k + 1 + i.toNatClampNeg))) (ty := .array .int) hE.1 hE.2.1 ha (hK n (fun j => va_rf (some (σ (k + 1 + j))))) rfl (fun q => by cases q) (by show ¬ (i < 0 ∨ (arrV _ _ _).slots.size ≤ _); rw [arrV_size]; exact hin) (by show (arrV _ _ _).slots[_]? = _; rw [arrV_read _ _ hlt]; rfl) rfl rfl hd (kk (chk_some hf).2 H locs ls hP hS hB hl)
/-- a statute out of the book, or none (0) -/
def vrf (σ : Nat → Nat) (r : Nat) : Value := if r = 0 then .null else .ref (σ r)
theorem x_aldB (hE : EOK p s m args meth c cc nL own Y D σ np b0) {β : Type} {r : β} {f : Nat → Option β} {i : Int32} (hd : decode cc pc = .ok (.aaload, 1)) (hf : chk i 12 (lt (cm 16 i.toNatClampNeg).toNatClampNeg f) = some r) (kk : ∀ z : Nat, (z = 0 ∨ isStat np z) → f z = some r → Xw p l e R s m args below meth c nL Y D σ np b0 cells slots Q (pc + 1) L (vrf σ z :: rest) cm dm) : Xw p l e R s m args below meth c nL Y D σ np b0 cells slots Q pc L (.int i :: .ref (σ 16) :: rest) cm dm := by
  intro H locs ls hP hS hB hl
  have h16 : 16 < np := Nat.lt_of_lt_of_le (by decide) hE.2.2.2.2.2.2.2.2.2.1
  have he := wl_at (Y := Y) (σ := σ) (c := cm) (d := dm) ⟨h16, rfl⟩
  rw [show kd 16 = (105, 12, []) from by decide +kernel] at he
  have hin := (chk_some hf).1
  have hlt : i.toNatClampNeg < 12 := Nat.not_le.mp fun q => hin (Or.inr q)
  have hv : va_rf (if cm 16 i.toNatClampNeg = 0 then none else some (σ (cm 16 i.toNatClampNeg).toNatClampNeg)) = vrf σ (cm 16 i.toNatClampNeg).toNatClampNeg := by
    unfold vrf
    rcases hB _ hlt with h | h
    · rw [if_pos h, h]; rfl
    · have h0 : ¬ (cm 16 i.toNatClampNeg).toNatClampNeg = 0 := by unfold isStat at h; omega
      have h1 : ¬ cm 16 i.toNatClampNeg = 0 := fun q => h0 (by rw [q]; rfl)
      rw [if_neg h1, if_neg h0]; rfl
  have k2 := kk _ ((hB _ hlt).imp (fun h => by rw [h]; rfl) id) (chk_some hf).2 H locs ls hP hS hB hl
  rw [← hv] at k2
  exact va_aldq hE.1 hE.2.1 hE.2.2.2.2.2.2.1 hP 16 5 he rfl hin hd k2
theorem x_alen (hE : EOK p s m args meth c cc nL own Y D σ np b0) {k n t : Nat} (v : Int32) (hk : k < np ∧ kd k = (t, n, [])) (ht : t = 100 ∨ t = 101 ∨ t = 105) (hv : Int32.ofNat n = v) (hd : decode cc pc = .ok (.arraylength, 1)) (kk : Xw p l e R s m args below meth c nL Y D σ np b0 cells slots Q (pc + 1) L (.int v :: rest) cm dm) : Xw p l e R s m args below meth c nL Y D σ np b0 cells slots Q pc L (.ref (σ k) :: rest) cm dm := by
  intro H locs ls hP hS hB hl
  have he := wl_at (Y := Y) (σ := σ) (c := cm) (d := dm) (kn_of hk (by rcases ht with rfl | rfl | rfl <;> decide))
  rw [hk.2] at he
  rcases ht with rfl | rfl | rfl
  · exact va_alen hE.1 hE.2.1 hE.2.2.2.2.2.2.1 hP (ix k) 0 he (ty := .int) rfl hv hd (kk H locs ls hP hS hB hl)
  · exact va_alen hE.1 hE.2.1 hE.2.2.2.2.2.2.1 hP (ix k) 1 he (ty := .boolean) rfl hv hd (kk H locs ls hP hS hB hl)
  · exact va_alen hE.1 hE.2.1 hE.2.2.2.2.2.2.1 hP (ix k) 5 he rfl hv hd (kk H locs ls hP hS hB hl)
/-- a call's end: with what, and the world behind it -/
def QR (Y : Nat → ClassId) (D : va_G) (σ : Nat → Nat) (np b0 : Nat) (v : Option Value) (c1 : Mc) (d1 : Md) : Array Value → State → Outcome → State → Prop := fun _ st o t => o = .returned v ∧ va_P D cl0 (Wl Y σ np c1 d1) t.heap ∧ Bk np c1 ∧ va_F (xA b0) st t
def PR (Y : Nat → ClassId) (D : va_G) (σ : Nat → Nat) (np b0 : Nat) (av : List Value) (c1 : Mc) (d1 : Md) : Array Value → State → Prop := va_Pc av (fun U => va_P D cl0 (Wl Y σ np c1 d1) U.heap ∧ Bk np c1 ∧ va_K D cl0 (tysOf Y) U ∧ xNw U ∧ OkS b0 σ np ∧ b0 ≤ U.heap.size ∧ 146 ≤ np ∧ xS b0 Y U)
theorem pr_blind {av : List Value} : FrameBlind (PR Y D σ np b0 av cm dm) := by
  intro a U g mk h
  obtain ⟨h1, h2, h3, h4, h5, h6, h7, h8, h9⟩ := h
  exact ⟨h1, h2, h3, va_K.moved (u := U) (U := U.calling g mk a) (Vm.Alike.refl U.vm) h4, xNw.same (u := U) (U := U.calling g mk a) rfl h5, h6, h7, h8, xS.same (u := U) (U := U.calling g mk a) rfl rfl h9⟩
theorem pr_of (hE : EOK p s m args meth c cc nL own Y D σ np b0) {H : Heap} {locs : List Loc} (hP : va_P D cl0 (Wl Y σ np cm dm) H) (hS : va_S (xA b0) s.heap H locs) (hB : Bk np cm) {av : List Value} {U : State} (hU : U.heap = H) (hW : s.WarmedH U.vm) : PR Y D σ np b0 av cm dm av.toArray U :=
  ⟨rfl, by rw [hU]; exact hP, hB, va_K.moved hW.alike hE.2.2.2.2.2.2.1, xNw.warm hW hE.2.2.2.2.2.1, hE.2.2.2.2.2.2.2.1, by rw [hU]; exact Nat.le_trans hE.2.2.2.2.2.2.2.2.1 hS.1, hE.2.2.2.2.2.2.2.2.2.1, xS.go hW (fun a h1 h2 => by rw [hU]; exact hS.2.1 a h1 h2) hE.2.2.2.2.2.2.2.2.2.2.2⟩
theorem x_ret {v : Option Value} {c1 : Mc} {d1 : Md} {av : Array Value} {st0 : List Value} {mc ms : Nat} {H : Heap} {locs : List Loc} {ls : Array Slot} (hE : EOK p s m args meth c cc nL own Y D σ np b0)
    (hr : va_Run p l e R s m args below meth c H locs cells slots mc ms (F0 m pc ls st0) rest (QR Y D σ np b0 v c1 d1 av) (xA b0)) (hS : va_S (xA b0) s.heap H locs) (hl : lv_has ls nL L)
    (k : Xw p l e R s m args below meth c nL Y D σ np b0 (cells + mc) (slots + ms) Q (pc + 3) L (v.toList ++ rest) c1 d1) : W p l e R s m args below meth c H locs cells slots Q (F0 m pc ls st0) := by
  intro T hT X
  obtain ⟨v', st₀, t, T', L', h0, X', hL, e1, e2, ⟨hv, hp, hb, hz, hk⟩, st⟩ := hr T hT X
  cases hv
  rw [h0] at hz hk
  have hS1 : va_S (xA b0) s.heap T'.heap (locs ++ L') := by
    refine ⟨Nat.le_trans hS.1 (by rw [e1]; exact hz), fun q h1 h2 => ?_, fun q hq => ?_⟩
    · rw [e1, hk q (Nat.lt_of_lt_of_le h1 hS.1) h2]
      exact hS.2.1 q h1 h2
    · rcases List.mem_append.mp hq with h | h
      · exact hS.2.2 q h
      · exact hL q h
  obtain ⟨t2, a1, b1⟩ := k T'.heap (locs ++ L') ls (by rw [e1]; exact hp) hS1 hb hl T' rfl X'
  exact ⟨t2, st t2 a1, b1⟩
/-- what a call site asks of the callee's words -/
def YOK (y : MethodName) (bytes : ByteArray) (maxL n : Nat) (ret : Option FieldType) : Prop := (Cond.code y bytes maxL ret ∈ lw_g) ∧ Cond.initialized y.cls ∈ lw_g ∧ y.cls ≠ "java/lang/invoke/MethodHandle" ∧ y.cls ≠ "java/lang/invoke/VarHandle" ∧ (parseMethodDescriptor y.desc).map (fun d => d.parameters.length) = some n
def YV (y : MethodName) : Prop := Cond.instanceMethod y ∈ lw_g ∧ Cond.selects y.cls y y ∈ lw_g
def rmD (d : Nat) : Room := { frames := d, cells := 0, slots := 0, locals := 64 * d }
theorem x_recv (hE : EOK p s m args meth c cc nL own Y D σ np b0) {H : Heap} (hP : va_P D cl0 (Wl Y σ np cm dm) H) {C : String} {T : u_T} {N ci k : Nat} {ty0 : Nat → FieldType} {lk : List Nat} (hc : CLok ci C T N ty0) (hk : k < np ∧ kd k = (ci, 0, lk)) (hci : ci < 100) : ∃ cellB : Cell, H[σ k]? = some cellB ∧ cellB.vm.isStatics = false ∧ s.vm.findClass C = some cellB.cls := by
  have he := wl_at (Y := Y) (σ := σ) (c := cm) (d := dm) (kn_of hk (Nat.ne_of_lt (Nat.lt_trans hci (by decide))))
  rw [hk.2, kE_obj hci] at he
  exact va_recv (q := (C, T, N)) hE.2.2.2.2.2.2.1 hP hc.1 he
theorem cb_of (hE : EOK p s m args meth c cc nL own Y D σ np b0) {y : MethodName} {bytes : ByteArray} {maxL n : Nat} {ret : Option FieldType} {rm : Room} {mc ms index : Nat} (hY : YOK y bytes maxL n ret) (hw : Cond.methodLink own index y ∈ lw_g) (hrc : rm.cells = mc) (hrs : rm.slots = ms) (hR : rm.frames + 1 ≤ R.frames ∧ 8 + (maxL + 11) + rm.locals ≤ R.locals) : CallB R s args own index y bytes maxL ret (.code y bytes maxL ret :: lw_g) rm mc ms n :=
  callB_of n hE.2.2.2.2.1 (goodIn_g (fun w h => (List.mem_cons.mp h).elim (fun q => by rw [q]; exact hY.1) id)) rfl hrc hrs (hE.2.2.2.2.1 _ hY.2.1) (hE.2.2.2.2.1 _ hw) hY.2.2 hR
theorem cn_of (hE : EOK p s m args meth c cc nL own Y D σ np b0) {y : MethodName} {host : String} {bytes : ByteArray} {maxL n : Nat} {ret : Option FieldType} {rm : Room} {mc ms index : Nat} (hY : YOK y bytes maxL n ret) (hw : Cond.methodLinkNest own index y host ∈ lw_nw) (hrc : rm.cells = mc) (hrs : rm.slots = ms) (hR : rm.frames + 1 ≤ R.frames ∧ 8 + (maxL + 11) + rm.locals ≤ R.locals) : va_CN R s args own index y host bytes maxL ret (.code y bytes maxL ret :: lw_g) rm mc ms n :=
  va_cnB n hE.2.2.2.2.1 (goodIn_g (fun w h => (List.mem_cons.mp h).elim (fun q => by rw [q]; exact hY.1) id)) rfl hrc hrs (hE.2.2.2.2.2.1 _ hw) (hE.2.2.2.2.1 _ hY.2.1) hY.2.2 hR
/-- a virtual call that makes nothing -/
theorem x_callV (hE : EOK p s m args meth c cc nL own Y D σ np b0) {y : MethodName} {bytes : ByteArray} {maxL n index : Nat} {ret : Option FieldType} {rm : Room} {v : Option Value} {c1 : Mc} {d1 : Md} {C : String} {T : u_T} {N ci k : Nat} {ty0 : Nat → FieldType} {lk : List Nat} (As : List Value)
    (hY : YOK y bytes maxL n ret) (hV : YV y) (hw : Cond.methodLink own index y ∈ lw_g) (hC : y.cls = C) (hc : CLok ci C T N ty0) (hk : k < np ∧ kd k = (ci, 0, lk)) (hci : ci < 100) (hrc : rm.cells = 0) (hrs : rm.slots = 0) (hR : rm.frames + 1 ≤ R.frames ∧ 8 + (maxL + 11) + rm.locals ≤ R.locals) (hcs : cells ≤ R.cells ∧ slots ≤ R.slots)
    (hn : As.length = n) (hst : (rest.map fun v => v.category).sum ≤ 8) (hd : decode cc pc = .ok (.invokevirtual index, 3))
    (hM : Met l y (.code y bytes maxL ret :: lw_g) rm (PR Y D σ np b0 (.ref (σ k) :: As) cm dm) (QR Y D σ np b0 v c1 d1) 0 0 (xA b0))
    (kk : Xw p l e R s m args below meth c nL Y D σ np b0 cells slots Q (pc + 3) L (v.toList ++ rest) c1 d1) : Xw p l e R s m args below meth c nL Y D σ np b0 cells slots Q pc L (As.reverse ++ .ref (σ k) :: rest) cm dm := by
  intro H locs ls hP hS hB hl
  subst hC
  refine x_ret hE (va_runV (As := As) (rest := rest) (Ts := lw_g) ⟨hE.1, hE.2.1, hE.2.2.1, hE.2.2.2.1, hE.2.2.2.2.1⟩ hM ⟨cb_of hE hY hw hrc hrs hR, hE.2.2.2.2.1 _ hV.1, hE.2.2.2.2.1 _ hV.2⟩ ⟨pr_blind, x_recv hE hP hc hk hci, fun U hU hW => pr_of hE hP hS hB hU hW⟩ rfl hn hl.1 rfl ?_ hd hcs) hS hl kk
  show 2 * 0 + _ ≤ 8
  rw [Nat.mul_zero, Nat.zero_add]
  exact hst
theorem x_callS (hE : EOK p s m args meth c cc nL own Y D σ np b0) {y : MethodName} {bytes : ByteArray} {maxL n index : Nat} {ret : Option FieldType} {rm : Room} {v : Option Value} {c1 : Mc} {d1 : Md} (As : List Value)
    (hY : YOK y bytes maxL n ret) (hV : Cond.static y ∈ lw_g) (hw : Cond.methodLink own index y ∈ lw_g) (hrc : rm.cells = 0) (hrs : rm.slots = 0) (hR : rm.frames + 1 ≤ R.frames ∧ 8 + (maxL + 11) + rm.locals ≤ R.locals) (hcs : cells ≤ R.cells ∧ slots ≤ R.slots)
    (hn : As.length = n) (hst : (rest.map fun v => v.category).sum ≤ 8) (hd : decode cc pc = .ok (.invokestatic index, 3))
    (hM : Met l y (.code y bytes maxL ret :: lw_g) rm (PR Y D σ np b0 As cm dm) (QR Y D σ np b0 v c1 d1) 0 0 (xA b0))
    (kk : Xw p l e R s m args below meth c nL Y D σ np b0 cells slots Q (pc + 3) L (v.toList ++ rest) c1 d1) : Xw p l e R s m args below meth c nL Y D σ np b0 cells slots Q pc L (As.reverse ++ rest) cm dm := by
  intro H locs ls hP hS hB hl
  refine x_ret hE (va_runS (As := As) (rest := rest) (Ts := lw_g) ⟨hE.1, hE.2.1, hE.2.2.1, hE.2.2.2.1, hE.2.2.2.2.1⟩ hM ⟨cb_of hE hY hw hrc hrs hR, hE.2.2.2.2.1 _ hV⟩ ⟨pr_blind, fun U hU hW => pr_of hE hP hS hB hU hW⟩ rfl hn hl.1 rfl ?_ hd hcs) hS hl kk
  show 2 * 0 + _ ≤ 8
  rw [Nat.mul_zero, Nat.zero_add]
  exact hst
theorem x_callSN (hE : EOK p s m args meth c cc nL own Y D σ np b0) {y : MethodName} {host : String} {bytes : ByteArray} {maxL n index : Nat} {ret : Option FieldType} {rm : Room} {v : Option Value} {c1 : Mc} {d1 : Md} (As : List Value)
    (hY : YOK y bytes maxL n ret) (hV : Cond.static y ∈ lw_g) (hw : Cond.methodLinkNest own index y host ∈ lw_nw) (hrc : rm.cells = 0) (hrs : rm.slots = 0) (hR : rm.frames + 1 ≤ R.frames ∧ 8 + (maxL + 11) + rm.locals ≤ R.locals) (hcs : cells ≤ R.cells ∧ slots ≤ R.slots)
    (hn : As.length = n) (hst : (rest.map fun v => v.category).sum ≤ 8) (hd : decode cc pc = .ok (.invokestatic index, 3))
    (hM : Met l y (.code y bytes maxL ret :: lw_g) rm (PR Y D σ np b0 As cm dm) (QR Y D σ np b0 v c1 d1) 0 0 (xA b0))
    (kk : Xw p l e R s m args below meth c nL Y D σ np b0 cells slots Q (pc + 3) L (v.toList ++ rest) c1 d1) : Xw p l e R s m args below meth c nL Y D σ np b0 cells slots Q pc L (As.reverse ++ rest) cm dm := by
  intro H locs ls hP hS hB hl
  refine x_ret hE (va_runSN (As := As) (rest := rest) (Ts := lw_g) ⟨hE.1, hE.2.1, hE.2.2.1, hE.2.2.2.1, hE.2.2.2.2.1⟩ hM ⟨cn_of hE hY hw hrc hrs hR, hE.2.2.2.2.1 _ hV, trivial⟩ ⟨pr_blind, fun U hU hW => pr_of hE hP hS hB hU hW⟩ rfl hn hl.1 rfl ?_ hd hcs) hS hl kk
  show 2 * 0 + _ ≤ 8
  rw [Nat.mul_zero, Nat.zero_add]
  exact hst
/-! a method's end -/
theorem x_ireturn (hE : EOK p s m args meth c cc nL own Y D σ np b0) {v : Int32} {rt : FieldType} (hr : meth.sig.returnType = some rt) (hrt : narrow rt (.int v) = .int v) (hd : decode cc pc = .ok (.ireturn, 1)) : Xw p l e R s m args below meth c nL Y D σ np b0 cells slots (MQ below (QR Y D σ np b0 (some (.int v)) cm dm) args s cells slots (xA b0)) pc L [.int v] cm dm := by
  intro H locs ls hP hS hB hl
  exact W.zret hE.1 hE.2.1 hr hrt (fun t ht hW => ⟨rfl, by rw [ht]; exact hP, hB, hS.F ht⟩) hS.2.2 hd hE.2.2.2.2.2.2.2.2.2.2.1
theorem x_lreturn (hE : EOK p s m args meth c cc nL own Y D σ np b0) {v : Int64} (hr : meth.sig.returnType = some .long) (hd : decode cc pc = .ok (.lreturn, 1)) : Xw p l e R s m args below meth c nL Y D σ np b0 cells slots (MQ below (QR Y D σ np b0 (some (.long v)) cm dm) args s cells slots (xA b0)) pc L [.long v] cm dm := by
  intro H locs ls hP hS hB hl
  exact W.lret hE.1 hE.2.1 hr (fun t ht hW => ⟨rfl, by rw [ht]; exact hP, hB, hS.F ht⟩) hS.2.2 hd hE.2.2.2.2.2.2.2.2.2.2.1
/-- a method out of its walk -/
theorem x_met {y : MethodName} {maxL : Nat} {ret : Option FieldType} {av : List Value} {rm : Room} {v : Option Value} {c1 : Mc} {d1 : Md} (hy : plainName y.cls = true) (hav : (lg_sl av).length ≤ maxL)
    (body : ∀ (p : Program) (e : Env) (s : State) (m : MethodId) (args : Array Value) (below : List Frame) (meth : Method) (c : Code), EOK p s m args meth c cc maxL y.cls Y D σ np b0 → meth.sig.returnType = ret →
      Xw p l e rm s m args below meth c maxL Y D σ np b0 0 0 (MQ below (QR Y D σ np b0 v c1 d1) args s 0 0 (xA b0)) 0 (lv_args 0 av) [] cm dm) :
    Met l y (.code y cc maxL ret :: lw_g) rm (PR Y D σ np b0 av cm dm) (QR Y D σ np b0 v c1 d1) 0 0 (xA b0) := by
  refine Met.ofW (cc := cc) (maxL := maxL) (ret := ret) hy rfl ?_
  intro p e s m args below meth c s₁ B hml hv
  obtain ⟨rfl, hP, hB, hK, hN, hσ, hb0, hnp, hxs⟩ := hv
  have hts := atoms_spec (ws := .code y cc maxL ret :: lw_g) B.pre
  have hE : EOK p s m av.toArray meth c cc maxL y.cls Y D σ np b0 := ⟨B.exec, B.bytes, hml, findClass_of_methodNamed B.named, fun w hw => hts w (List.mem_cons_of_mem _ hw), hN, hK, hσ, hb0, hnp, B.notSynchronized, hxs⟩
  rw [lg_entry_eq]
  exact body p e s m av.toArray below meth c hE B.returns s.heap [] _ hP va_S.rf hB (lv_entry av hav)
abbrev isZ (x : Int32) : Prop := x = 0 ∨ x = 1
theorem nar_Z {x : Int32} (h : isZ x) : narrow .boolean (.int x) = .int x := by
  rcases h with rfl | rfl <;> rfl
theorem fit_Z {x : Int32} (h : isZ x) : fits .boolean (.int x) = true := by
  rcases h with rfl | rfl <;> rfl
theorem x_vreturn (hE : EOK p s m args meth c cc nL own Y D σ np b0) (hr : meth.sig.returnType = none) (hd : decode cc pc = .ok (.return_, 1)) : Xw p l e R s m args below meth c nL Y D σ np b0 cells slots (MQ below (QR Y D σ np b0 none cm dm) args s cells slots (xA b0)) pc L [] cm dm := by
  intro H locs ls hP hS hB hl
  exact W.vret hE.1 hE.2.1 hr (fun t ht hW => ⟨rfl, by rw [ht]; exact hP, hB, hS.F ht⟩) hS.2.2 hd hE.2.2.2.2.2.2.2.2.2.2.1
end XR
