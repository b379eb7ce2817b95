/-- fields of an object in the making: 0 an int, 1 a long, 2 null, 3 + k the cell k -/
def kG (σ : Nat → Nat) (f : Nat → Int32) (g : Nat → Int64) : Nat → List Nat → List Value
  | _, [] => []
  | j, t :: l => (match t with | 0 => Value.int (f j) | 1 => Value.long (g j) | 2 => Value.null | n + 3 => Value.ref (σ n)) :: kG σ f g (j + 1) l
def kGV (σ : Nat → Nat) (f : Nat → Int32) (g : Nat → Int64) (j t : Nat) : Value := match t with | 0 => Value.int (f j) | 1 => Value.long (g j) | 2 => Value.null | n + 3 => Value.ref (σ n)
theorem kG_get (σ : Nat → Nat) (f : Nat → Int32) (g : Nat → Int64) : ∀ (l : List Nat) (b j : Nat) (t : Nat), l[j]? = some t → (kG σ f g b l)[j]? = some (kGV σ f g (b + j) t)
  | [], b, j, t, h => by simp at h
  | x :: l, b, 0, t, h => by
    simp at h
    subst h
    rfl
  | x :: l, b, j + 1, t, h => by
    simp at h
    have := kG_get σ f g l (b + 1) j t h
    simp only [kG, List.getElem?_cons_succ]
    rw [this]
    congr 2
    omega
theorem kG_len (σ : Nat → Nat) (f : Nat → Int32) (g : Nat → Int64) : ∀ (l : List Nat) (b : Nat), (kG σ f g b l).length = l.length
  | [], b => rfl
  | x :: l, b => by simp [kG, kG_len σ f g l (b + 1)]
theorem kG_ext {σ : Nat → Nat} {f f' : Nat → Int32} {g g' : Nat → Int64} {l l' : List Nat} (hlen : l.length = l'.length) (h : ∀ i t t', l[i]? = some t → l'[i]? = some t' → kGV σ f g i t = kGV σ f' g' i t') : kG σ f g 0 l = kG σ f' g' 0 l' := by
  apply List.ext_getElem?
  intro i
  cases ht : l[i]? with
  | none =>
    have hn : l.length ≤ i := by simpa using ht
    rw [List.getElem?_eq_none (by rw [kG_len]; exact hn), List.getElem?_eq_none (by rw [kG_len, ← hlen]; exact hn)]
  | some t =>
    have hl : i < l'.length := by rw [← hlen]; exact (List.getElem?_eq_some_iff.mp ht).1
    have ht' := List.getElem?_eq_getElem hl
    rw [kG_get σ f g l 0 i t ht, kG_get σ f' g' l' 0 i _ ht', Nat.zero_add, h i t _ ht ht']
theorem kG_set {σ : Nat → Nat} {f f' : Nat → Int32} {g : Nat → Int64} {l : List Nat} (j t' : Nat) (v : Value) (hj : j < l.length) (hv : kGV σ f' g j t' = v) (hf : ∀ i, i ≠ j → f' i = f i) : (kG σ f g 0 l).set j v = kG σ f' g 0 (l.set j t') := by
  apply List.ext_getElem?
  intro i
  by_cases hi : i = j
  · subst hi
    rw [List.getElem?_set_self (by rw [kG_len]; exact hj), kG_get σ f' g _ 0 i t' (List.getElem?_set_self hj), Nat.zero_add, hv]
  · rw [List.getElem?_set_ne (Ne.symm hi)]
    cases ht : l[i]? with
    | none =>
      have hn : l.length ≤ i := by simpa using ht
      rw [List.getElem?_eq_none (by rw [kG_len]; exact hn), List.getElem?_eq_none (by rw [kG_len, List.length_set]; exact hn)]
    | some t =>
      rw [kG_get σ f g l 0 i t ht, kG_get σ f' g _ 0 i t (by rw [List.getElem?_set_ne (Ne.symm hi)]; exact ht), Nat.zero_add]
      refine congrArg some ?_
      match t with
      | 0 => show Value.int (f i) = Value.int (f' i); rw [hf i hi]
      | 1 => rfl
      | 2 => rfl
      | n + 3 => rfl
/-- a cell, also one in the making (200 and its class's number) -/
def kM (Y : Nat → ClassId) (σ : Nat → Nat) (t : xK) (k : Nat) (f : Nat → Int32) (g : Nat → Int64) : va_E := if 200 ≤ t.1 then .inr (t.1 - 200, kG σ f g 0 t.2.2) else kE Y σ t k f g
def Wk (Y : Nat → ClassId) (σ : Nat → Nat) (κ : Nat → xK) (np : Nat) (c : Mc) (d : Md) : va_W := (List.range (ix np)).map (fun i => (σ (rx i), kM Y σ (κ (rx i)) (rx i) (c (rx i)) (d (rx i))))
theorem wk_at {Y : Nat → ClassId} {σ : Nat → Nat} {κ : Nat → xK} {np : Nat} {c : Mc} {d : Md} {k : Nat} (h : Kn k np) : (Wk Y σ κ np c d)[ix k]? = some (σ k, kM Y σ (κ k) k (c k) (d k)) := by
  unfold Wk
  rw [List.getElem?_map, List.getElem?_range (ix_lt h)]
  show some (σ (rx (ix k)), kM Y σ (κ (rx (ix k))) (rx (ix k)) (c (rx (ix k))) (d (rx (ix k)))) = _
  rw [rx_ix h.2]
theorem wk_ai {Y : Nat → ClassId} {σ : Nat → Nat} {κ : Nat → xK} {np : Nat} {c : Mc} {d : Md} {i : Nat} (h : i < ix np) : (Wk Y σ κ np c d)[i]? = some (σ (rx i), kM Y σ (κ (rx i)) (rx i) (c (rx i)) (d (rx i))) := by
  unfold Wk
  rw [List.getElem?_map, List.getElem?_range h]
  rfl
theorem wk_len {Y : Nat → ClassId} {σ : Nat → Nat} {κ : Nat → xK} {np : Nat} {c : Mc} {d : Md} : (Wk Y σ κ np c d).length = ix np := by simp [Wk]
/-- among the first twenty a cell's number is its place -/
theorem ix_lo {i : Nat} (h : i ≤ 20) : ix i = i := if_pos h
theorem wk_lo {Y : Nat → ClassId} {σ : Nat → Nat} {κ : Nat → xK} {np : Nat} {c : Mc} {d : Md} {i : Nat} (h : i < np) (h20 : np ≤ 20) : (Wk Y σ κ np c d)[i]? = some (σ i, kM Y σ (κ i) i (c i) (d i)) := by
  have h1 := wk_at (Y := Y) (σ := σ) (κ := κ) (c := c) (d := d) (k := i) (np := np) ⟨h, ph_t (by omega) (by omega)⟩
  rwa [ix_lo (by omega)] at h1
/-- κ with another kind at k -/
def ku (κ : Nat → xK) (k : Nat) (t : xK) : Nat → xK := fun a => if a = k then t else κ a
theorem wk_set {Y : Nat → ClassId} {σ : Nat → Nat} {κ κ' : Nat → xK} {np : Nat} {c c' : Mc} {d d' : Md} {k : Nat} {E : va_E} (h : Kn k np) (he : kM Y σ (κ' k) k (c' k) (d' k) = E) (ho : ∀ i, i ≠ k → κ' i = κ i ∧ c' i = c i ∧ d' i = d i) : (Wk Y σ κ np c d).set (ix k) (σ k, E) = Wk Y σ κ' np c' d' := by
  apply List.ext_getElem?
  intro i
  by_cases hi : i = ix k
  · subst hi
    rw [List.getElem?_set_self (by rw [wk_len]; exact ix_lt h), wk_at h, he]
  · rw [List.getElem?_set_ne (Ne.symm hi)]
    by_cases hn : i < ix np
    · have h3 := ho (rx i) (rx_ne hi)
      rw [wk_ai hn, wk_ai hn, h3.1, h3.2.1, h3.2.2]
    · rw [List.getElem?_eq_none (by rw [wk_len]; omega), List.getElem?_eq_none (by rw [wk_len]; omega)]
theorem ix_succ {k : Nat} (h : ph k = false) : ix (k + 1) = ix k + 1 := by
  have := ph_f h
  have := ix_cs k
  have := ix_cs (k + 1)
  omega
theorem ix_skip {k : Nat} (h : ph k = true) : ix (k + 1) = ix k := by
  have h2 : k = 20 ∨ k = 67 := by simpa [ph] using h
  rcases h2 with rfl | rfl <;> rfl
theorem wk_push {Y : Nat → ClassId} {σ : Nat → Nat} {κ κ' : Nat → xK} {np : Nat} {c c' : Mc} {d d' : Md} (hn : ph np = false) (ho : ∀ i, i < np → κ' i = κ i ∧ c' i = c i ∧ d' i = d i) : Wk Y σ κ' (np + 1) c' d' = Wk Y σ κ np c d ++ [(σ np, kM Y σ (κ' np) np (c' np) (d' np))] := by
  unfold Wk
  rw [ix_succ hn, List.range_succ, List.map_append]
  congr 1
  · apply List.map_congr_left
    intro k hk
    have h := ho (rx k) (rx_lt (List.mem_range.mp hk))
    rw [h.1, h.2.1, h.2.2]
  · show [(σ (rx (ix np)), kM Y σ (κ' (rx (ix np))) (rx (ix np)) (c' (rx (ix np))) (d' (rx (ix np))))] = _
    rw [rx_ix hn]
theorem wk_skip {Y : Nat → ClassId} {σ : Nat → Nat} {κ : Nat → xK} {np : Nat} {c : Mc} {d : Md} (hn : ph np = true) : Wk Y σ κ (np + 1) c d = Wk Y σ κ np c d := by
  unfold Wk
  rw [ix_skip hn]
theorem wl_wk {Y : Nat → ClassId} {σ : Nat → Nat} {κ : Nat → xK} {np : Nat} {c : Mc} {d : Md} (h : ∀ k, k < np → kM Y σ (κ k) k (c k) (d k) = kE Y σ (kd k) k (c k) (d k)) : Wk Y σ κ np c d = Wl Y σ np c d := by
  unfold Wk Wl
  apply List.map_congr_left
  intro k hk
  rw [h (rx k) (rx_lt (List.mem_range.mp hk))]
theorem wk_key {Y : Nat → ClassId} {σ : Nat → Nat} {κ : Nat → xK} {np : Nat} {c : Mc} {d : Md} {i : Nat} {q : Nat × va_E} (h : (Wk Y σ κ np c d)[i]? = some q) : ∃ k, Kn k np ∧ i = ix k ∧ q = (σ k, kM Y σ (κ k) k (c k) (d k)) := by
  have hl : i < ix np := by
    have := (List.getElem?_eq_some_iff.mp h).1
    rwa [wk_len] at this
  rw [wk_ai hl] at h
  exact ⟨rx i, ⟨rx_lt hl, ph_rx i⟩, (ix_rx i).symm, (Option.some.inj h).symm⟩
/-- addresses: all apart, from b0 on, behind np0 one after the other -/
def OkT (b0 : Nat) (σ : Nat → Nat) (n0 : Nat) : Prop := (∀ i j, ph i = false → ph j = false → σ i = σ j → i = j) ∧ (∀ i, b0 ≤ σ i) ∧ ∀ k, n0 ≤ k → (ph k = false → σ (k + 1) = σ k + 1) ∧ (ph k = true → σ (k + 1) = σ k)
theorem OkT.S {b0 n0 : Nat} {σ : Nat → Nat} (h : OkT b0 σ n0) (np : Nat) : OkS b0 σ np := ⟨fun i j hi hj e => h.1 i j hi.2 hj.2 e, fun i _ => h.2.1 i⟩
theorem wk_D {Y : Nat → ClassId} {σ : Nat → Nat} {κ : Nat → xK} {np n0 b0 : Nat} {c : Mc} {d : Md} (h : OkT b0 σ n0) : va_D (xA b0) (Wk Y σ κ np c d) := by
  refine ⟨fun i j p q hi hj hpq => ?_, fun i q hq => ?_⟩
  · obtain ⟨k1, h1, rfl, rfl⟩ := wk_key hi
    obtain ⟨k2, h2, rfl, rfl⟩ := wk_key hj
    rw [h.1 k1 k2 h1.2 h2.2 hpq]
  · obtain ⟨k1, h1, rfl, rfl⟩ := wk_key hq
    exact h.2.1 k1
def Xk (p : Program) (l : Launch) (e : Env) (R : Room) (s : State) (m : MethodId) (args : Array Value) (below : List Frame) (meth : Method) (c : Code) (nL : Nat) (Y : Nat → ClassId) (D : va_G) (σ : Nat → Nat) (κ : Nat → xK) (np b0 cells slots : Nat) (Q : State → Prop) (pc : Nat) (L : List (Nat × Value)) (st : List Value) (cm : Mc) (dm : Md) : Prop :=
  ∀ (H : Heap) (locs : List Loc) (ls : Array Slot), va_P D cl0 (Wk Y σ κ np cm dm) H → H.size = σ np → va_S (xA b0) s.heap H locs → lv_has ls nL L → W p l e R s m args below meth c H locs cells slots Q (F0 m pc ls st)
/-- the words of arrays of arrays, and of statutes -/
def xAO (U : State) : Prop := (Cond.arrayOver (.array .int)).before #[] U = true ∧ (Cond.arrayOver (.object "SettlerColony$Statute")).before #[] U = true
theorem xAO.warm {s U : State} (hW : s.WarmedH U.vm) (h : xAO s) : xAO U := by
  have h1 := Cond.overAtom_setVm (args := #[]) hW.alike _ rfl h.1
  have h2 := Cond.overAtom_setVm (args := #[]) hW.alike _ rfl h.2
  exact ⟨h1, h2⟩
theorem xAO.same {u U : State} (hv : U.vm = u.vm) (h : xAO u) : xAO U := by
  have h1 := Cond.overAtom_setVm (args := #[]) (s := u) (vm' := U.vm) (by rw [hv]; exact Vm.Alike.refl _) _ rfl h.1
  have h2 := Cond.overAtom_setVm (args := #[]) (s := u) (vm' := U.vm) (by rw [hv]; exact Vm.Alike.refl _) _ rfl h.2
  exact ⟨h1, h2⟩
def EOKk (p : Program) (s : State) (m : MethodId) (args : Array Value) (meth : Method) (c : Code) (cc : ByteArray) (nL : Nat) (own : String) (Y : Nat → ClassId) (D : va_G) (σ : Nat → Nat) (n0 b0 : Nat) : Prop :=
  p.tables.exec = Jvm.exec ∧ c.code = cc ∧ c.maxLocals = nL ∧ s.vm.findClass own = some m.cls ∧ (∀ w ∈ lw_g, w.before args s = true) ∧ xNw s ∧ va_K D cl0 (tysOf Y) s ∧ OkT b0 σ n0 ∧ b0 ≤ s.heap.size ∧ meth.locks = false ∧ (n0 = 0 → xAO s)
theorem ku_eq {κ : Nat → xK} {k : Nat} {t : xK} : ku κ k t k = t := if_pos rfl
theorem ku_ne {κ : Nat → xK} {k a : Nat} {t : xK} (h : a ≠ k) : ku κ k t a = κ a := if_neg h
/-- an outer row at n, and its m inner ones behind it -/
def kum (κ : Nat → xK) (np n m : Nat) : Nat → xK := fun a => if a = np then (104, n, []) else if np < a ∧ a ≤ np + n then (100, m, []) else κ a
theorem kum_old {κ : Nat → xK} {np n m a : Nat} (h : a < np) : kum κ np n m a = κ a := by
  unfold kum
  rw [if_neg (by omega), if_neg (by omega)]
theorem kum_eq {κ : Nat → xK} {np n m : Nat} : kum κ np n m np = (104, n, []) := if_pos rfl
def upz (c : Mc) (np n : Nat) : Mc := fun a => if np ≤ a ∧ a < np + n then (fun _ => 0) else c a
def upz8 (d : Md) (np n : Nat) : Md := fun a => if np ≤ a ∧ a < np + n then (fun _ => 0) else d a
/-- an array filled -/
def fil (c : Mc) (k n : Nat) (v : Int32) : Mc := up c k (fun j => if j < n then v else c k j)
section XKR
variable {p : Program} {l : Launch} {e : Env} {R : Room} {s : State} {m : MethodId} {args : Array Value} {below : List Frame} {meth : Method} {c : Code} {nL : Nat} {Y : Nat → ClassId} {D : va_G} {σ : Nat → Nat} {κ : Nat → xK} {np n0 b0 cells slots : Nat} {Q : State → Prop} {pc : Nat} {L : List (Nat × Value)} {rest : List Value} {cm : Mc} {dm : Md} {cc : ByteArray} {own : String}

theorem k_aload_n (hE : EOKk p s m args meth c cc nL own Y D σ n0 b0) (j : Nat) {kk : Fin 4} {i : Nat} {x : Nat} (hd : decode cc pc = .ok (.aload_n kk, 1)) (hi : (kk : Nat) = i) (hj : L[j]? = some (i, .ref x)) (k : Xk p l e R s m args below meth c nL Y D σ κ np b0 cells slots Q (pc + 1) L (.ref x :: rest) cm dm) : Xk p l e R s m args below meth c nL Y D σ κ np b0 cells slots Q pc L rest cm dm := fun H locs ls hP hz hS hl => lv_aload_n hE.1 hE.2.1 hd hi (lv_at hl j hj) (k H locs ls hP hz hS hl)
theorem k_aload (hE : EOKk p s m args meth c cc nL own Y D σ n0 b0) (j : Nat) {i : Nat} {x : Nat} (hd : decode cc pc = .ok (.aload i, 2)) (hj : L[j]? = some (i, .ref x)) (k : Xk p l e R s m args below meth c nL Y D σ κ np b0 cells slots Q (pc + 2) L (.ref x :: rest) cm dm) : Xk p l e R s m args below meth c nL Y D σ κ np b0 cells slots Q pc L rest cm dm := fun H locs ls hP hz hS hl => lv_aload hE.1 hE.2.1 hd (lv_at hl j hj) (k H locs ls hP hz hS hl)
theorem k_iload_n (hE : EOKk p s m args meth c cc nL own Y D σ n0 b0) (j : Nat) {kk : Fin 4} {i : Nat} {x : Int32} (hd : decode cc pc = .ok (.iload_n kk, 1)) (hi : (kk : Nat) = i) (hj : L[j]? = some (i, .int x)) (k : Xk p l e R s m args below meth c nL Y D σ κ np b0 cells slots Q (pc + 1) L (.int x :: rest) cm dm) : Xk p l e R s m args below meth c nL Y D σ κ np b0 cells slots Q pc L rest cm dm := fun H locs ls hP hz hS hl => lv_iload_n hE.1 hE.2.1 hd hi (lv_at hl j hj) (k H locs ls hP hz hS hl)
theorem k_iload (hE : EOKk p s m args meth c cc nL own Y D σ n0 b0) (j : Nat) {i : Nat} {x : Int32} (hd : decode cc pc = .ok (.iload i, 2)) (hj : L[j]? = some (i, .int x)) (k : Xk p l e R s m args below meth c nL Y D σ κ np b0 cells slots Q (pc + 2) L (.int x :: rest) cm dm) : Xk p l e R s m args below meth c nL Y D σ κ np b0 cells slots Q pc L rest cm dm := fun H locs ls hP hz hS hl => lv_iload hE.1 hE.2.1 hd (lv_at hl j hj) (k H locs ls hP hz hS hl)
theorem k_iconst (hE : EOKk p s m args meth c cc nL own Y D σ n0 b0) {n : Int} (v : Int32) (hd : decode cc pc = .ok (.iconst n, 1)) (hv : Int32.ofInt n = v) (k : Xk p l e R s m args below meth c nL Y D σ κ np b0 cells slots Q (pc + 1) L (.int v :: rest) cm dm) : Xk p l e R s m args below meth c nL Y D σ κ np b0 cells slots Q pc L rest cm dm := fun H locs ls hP hz hS hl => lv_iconst hE.1 hE.2.1 hd hv (k H locs ls hP hz hS hl)
theorem k_bipush (hE : EOKk p s m args meth c cc nL own Y D σ n0 b0) {n : Int} (v : Int32) (hd : decode cc pc = .ok (.bipush n, 2)) (hv : (Int8.ofInt n).toInt32 = v) (k : Xk p l e R s m args below meth c nL Y D σ κ np b0 cells slots Q (pc + 2) L (.int v :: rest) cm dm) : Xk p l e R s m args below meth c nL Y D σ κ np b0 cells slots Q pc L rest cm dm := fun H locs ls hP hz hS hl => lv_bipush hE.1 hE.2.1 hd hv (k H locs ls hP hz hS hl)
theorem k_sipush (hE : EOKk p s m args meth c cc nL own Y D σ n0 b0) {n : Int} (v : Int32) (hd : decode cc pc = .ok (.sipush n, 3)) (hv : (Int16.ofInt n).toInt32 = v) (k : Xk p l e R s m args below meth c nL Y D σ κ np b0 cells slots Q (pc + 3) L (.int v :: rest) cm dm) : Xk p l e R s m args below meth c nL Y D σ κ np b0 cells slots Q pc L rest cm dm := fun H locs ls hP hz hS hl => lv_sipush hE.1 hE.2.1 hd hv (k H locs ls hP hz hS hl)
theorem k_dup (hE : EOKk p s m args meth c cc nL own Y D σ n0 b0) {va : Value} (hd : decode cc pc = .ok (.dup, 1)) (h1 : va.category = 1) (k : Xk p l e R s m args below meth c nL Y D σ κ np b0 cells slots Q (pc + 1) L (va :: va :: rest) cm dm) : Xk p l e R s m args below meth c nL Y D σ κ np b0 cells slots Q pc L (va :: rest) cm dm := fun H locs ls hP hz hS hl => lv_dup hE.1 hE.2.1 hd h1 (k H locs ls hP hz hS hl)
theorem k_istore_n (hE : EOKk p s m args meth c cc nL own Y D σ n0 b0) {L' : List (Nat × Value)} {kk : Fin 4} {i : Nat} {x : Int32} (hd : decode cc pc = .ok (.istore_n kk, 1)) (hi : (kk : Nat) = i) (hn : i < nL) (hl : (i, Value.int x) :: L.filter (fun q => !(q.1 == i) && !(q.1 + 1 == i && q.2.category == 2)) = L') (k : Xk p l e R s m args below meth c nL Y D σ κ np b0 cells slots Q (pc + 1) L' rest cm dm) : Xk p l e R s m args below meth c nL Y D σ κ np b0 cells slots Q pc L (.int x :: rest) cm dm := fun H locs ls hP hz hS h => lv_istore_n hE.1 hE.2.1 hd hi h hn hl (fun ls' h' => k H locs ls' hP hz hS h')
theorem k_istore (hE : EOKk p s m args meth c cc nL own Y D σ n0 b0) {L' : List (Nat × Value)} {i : Nat} {x : Int32} (hd : decode cc pc = .ok (.istore i, 2)) (hn : i < nL) (hl : (i, Value.int x) :: L.filter (fun q => !(q.1 == i) && !(q.1 + 1 == i && q.2.category == 2)) = L') (k : Xk p l e R s m args below meth c nL Y D σ κ np b0 cells slots Q (pc + 2) L' rest cm dm) : Xk p l e R s m args below meth c nL Y D σ κ np b0 cells slots Q pc L (.int x :: rest) cm dm := fun H locs ls hP hz hS h => lv_istore hE.1 hE.2.1 hd h hn hl (fun ls' h' => k H locs ls' hP hz hS h')
theorem k_astore_n (hE : EOKk p s m args meth c cc nL own Y D σ n0 b0) {L' : List (Nat × Value)} {kk : Fin 4} {i : Nat} {x : Nat} (hd : decode cc pc = .ok (.astore_n kk, 1)) (hi : (kk : Nat) = i) (hn : i < nL) (hl : (i, Value.ref x) :: L.filter (fun q => !(q.1 == i) && !(q.1 + 1 == i && q.2.category == 2)) = L') (k : Xk p l e R s m args below meth c nL Y D σ κ np b0 cells slots Q (pc + 1) L' rest cm dm) : Xk p l e R s m args below meth c nL Y D σ κ np b0 cells slots Q pc L (.ref x :: rest) cm dm := fun H locs ls hP hz hS h => lv_astore_n hE.1 hE.2.1 hd hi h hn hl (fun ls' h' => k H locs ls' hP hz hS h')
theorem k_iinc (hE : EOKk p s m args meth c cc nL own Y D σ n0 b0) (j : Nat) {L' : List (Nat × Value)} {i : Nat} {n : Int} {x : Int32} (v : Int32) (hd : decode cc pc = .ok (.iinc i n, 3)) (hk : L[j]? = some (i, .int x)) (hv : x + Int32.ofInt n = v) (hn : i < nL) (hl : (i, Value.int v) :: L.filter (fun q => !(q.1 == i) && !(q.1 + 1 == i && q.2.category == 2)) = L') (k : Xk p l e R s m args below meth c nL Y D σ κ np b0 cells slots Q (pc + 3) L' rest cm dm) : Xk p l e R s m args below meth c nL Y D σ κ np b0 cells slots Q pc L rest cm dm := fun H locs ls hP hz hS h => lv_iinc hE.1 hE.2.1 hd h hk hv hn hl (fun ls' h' => k H locs ls' hP hz hS h')
theorem k_goto (hE : EOKk p s m args meth c cc nL own Y D σ n0 b0) {off : Int} (tgt : Nat) (hd : decode cc pc = .ok (.goto off, 3)) (ht : (pc : Int) + off = (tgt : Int)) (k : Xk p l e R s m args below meth c nL Y D σ κ np b0 cells slots Q tgt L rest cm dm) : Xk p l e R s m args below meth c nL Y D σ κ np b0 cells slots Q pc L rest cm dm := fun H locs ls hP hz hS hl => lv_goto hE.1 hE.2.1 hd ht (k H locs ls hP hz hS hl)
theorem k_icmp_ge (hE : EOKk p s m args meth c cc nL own Y D σ n0 b0) {β : Type} {r : β} {A B : Option β} {x y : Int32} {off : Int} (tgt : Nat) (hd : decode cc pc = .ok (.if_icmp .ge off, 3)) (ht : (pc : Int) + off = (tgt : Int)) (hf : (if y ≤ x then A else B) = some r) (kt : A = some r → Xk p l e R s m args below meth c nL Y D σ κ np b0 cells slots Q tgt L rest cm dm) (kf : B = some r → Xk p l e R s m args below meth c nL Y D σ κ np b0 cells slots Q (pc + 3) L rest cm dm) : Xk p l e R s m args below meth c nL Y D σ κ np b0 cells slots Q pc L (.int y :: .int x :: rest) cm dm := fun H locs ls hP hz hS hl => lv_icmp_ge hE.1 hE.2.1 hd ht (fun h => kt (by rw [if_pos h] at hf; exact hf) H locs ls hP hz hS hl) (fun h => kf (by rw [if_neg h] at hf; exact hf) H locs ls hP hz hS hl)
theorem k_icmp_ne (hE : EOKk p s m args meth c cc nL own Y D σ n0 b0) {β : Type} {r : β} {A B : Option β} {x y : Int32} {off : Int} (tgt : Nat) (hd : decode cc pc = .ok (.if_icmp .ne off, 3)) (ht : (pc : Int) + off = (tgt : Int)) (hf : (if x = y then B else A) = some r) (kt : A = some r → Xk p l e R s m args below meth c nL Y D σ κ np b0 cells slots Q tgt L rest cm dm) (kf : B = some r → Xk p l e R s m args below meth c nL Y D σ κ np b0 cells slots Q (pc + 3) L rest cm dm) : Xk p l e R s m args below meth c nL Y D σ κ np b0 cells slots Q pc L (.int y :: .int x :: rest) cm dm := fun H locs ls hP hz hS hl => lv_icmp_ne hE.1 hE.2.1 hd ht (fun h => kt (by rw [if_neg h] at hf; exact hf) H locs ls hP hz hS hl) (fun h => kf (by rw [if_pos h] at hf; exact hf) H locs ls hP hz hS hl)
theorem k_iadd (hE : EOKk p s m args meth c cc nL own Y D σ n0 b0) {x y : Int32} (hd : decode cc pc = .ok (.iadd, 1)) (k : Xk p l e R s m args below meth c nL Y D σ κ np b0 cells slots Q (pc + 1) L (.int (x + y) :: rest) cm dm) : Xk p l e R s m args below meth c nL Y D σ κ np b0 cells slots Q pc L (.int y :: .int x :: rest) cm dm := fun H locs ls hP hz hS hl => lv_iadd hE.1 hE.2.1 hd (k H locs ls hP hz hS hl)
theorem k_imul (hE : EOKk p s m args meth c cc nL own Y D σ n0 b0) {x y : Int32} (hd : decode cc pc = .ok (.imul, 1)) (k : Xk p l e R s m args below meth c nL Y D σ κ np b0 cells slots Q (pc + 1) L (.int (x * y) :: rest) cm dm) : Xk p l e R s m args below meth c nL Y D σ κ np b0 cells slots Q pc L (.int y :: .int x :: rest) cm dm := fun H locs ls hP hz hS hl => lv_imul hE.1 hE.2.1 hd (k H locs ls hP hz hS hl)
theorem k_pick (ks : List Nat) {L' : List (Nat × Value)} (hl : lv_pick L ks = L') (k : Xk p l e R s m args below meth c nL Y D σ κ np b0 cells slots Q pc L' rest cm dm) : Xk p l e R s m args below meth c nL Y D σ κ np b0 cells slots Q pc L rest cm dm := fun H locs ls hP hz hS h => k H locs ls hP hz hS (lv_sub h ks hl)
/-! the shapes of a printed answer -/
theorem kM_obj {Y : Nat → ClassId} {σ : Nat → Nat} {t : xK} {k : Nat} {f : Nat → Int32} {g : Nat → Int64} (h : t.1 < 100) : kM Y σ t k f g = .inr (t.1, kF σ f g 0 t.2.2) := by
  unfold kM
  rw [if_neg (by omega), kE_obj h]
theorem kM_new {Y : Nat → ClassId} {σ : Nat → Nat} {ci : Nat} {lk : List Nat} {k : Nat} {f : Nat → Int32} {g : Nat → Int64} : kM Y σ (200 + ci, 0, lk) k f g = .inr (ci, kG σ f g 0 lk) := by
  unfold kM
  rw [if_pos (Nat.le_add_right 200 ci), Nat.add_sub_cancel_left]
/-- a reference out of a field of an object in the making -/
theorem k_getR (hE : EOKk p s m args meth c cc nL own Y D σ n0 b0) {C : String} {T : u_T} {N ci k index : Nat} {ty0 : Nat → FieldType} {lk : List Nat} (hc : CLok ci C T N ty0) (hk : Kn k np ∧ κ k = (200 + ci, 0, lk)) (j k2 : Nat) (hj : lk[j]? = some (k2 + 3)) (hjN : j < N) (hw : Cond.fieldLink own index (T j).1 (T j).2.1 (T j).2.2.1 ∈ lw_g) (hd : decode cc pc = .ok (.getfield index, 3)) (kk : Xk p l e R s m args below meth c nL Y D σ κ np b0 cells slots Q (pc + 3) L (.ref (σ k2) :: rest) cm dm) : Xk p l e R s m args below meth c nL Y D σ κ np b0 cells slots Q pc L (.ref (σ k) :: rest) cm dm := by
  intro H locs ls hP hz hS hl
  have he := wk_at (Y := Y) (σ := σ) (κ := κ) (c := cm) (d := dm) hk.1
  rw [hk.2, kM_new] at he
  have hg := kG_get σ (cm k) (dm k) lk 0 j _ hj
  rw [Nat.zero_add] at hg
  exact va_get (ref := (T j).1) hE.1 hE.2.1 hE.2.2.2.2.1 hc.2.1 hE.2.2.2.1 hE.2.2.2.2.2.2.1 hP (ix k) he hc.1 j hjN (hE.2.2.2.2.1 _ hw) (fun _ h => h) (v := .ref (σ k2)) hg hd (kk H locs ls hP hz hS hl)
/-- .. of a whole one -/
theorem k_getRw (hE : EOKk p s m args meth c cc nL own Y D σ n0 b0) {C : String} {T : u_T} {N ci k index : Nat} {ty0 : Nat → FieldType} {lk : List Nat} (hc : CLok ci C T N ty0) (hk : Kn k np ∧ κ k = (ci, 0, lk)) (hci : ci < 100) (j k2 : Nat) (hj : lk[j]? = some (2 + k2)) (hjN : j < N) (hw : Cond.fieldLink own index (T j).1 (T j).2.1 (T j).2.2.1 ∈ lw_g) (hd : decode cc pc = .ok (.getfield index, 3)) (kk : Xk p l e R s m args below meth c nL Y D σ κ np b0 cells slots Q (pc + 3) L (.ref (σ k2) :: rest) cm dm) : Xk p l e R s m args below meth c nL Y D σ κ np b0 cells slots Q pc L (.ref (σ k) :: rest) cm dm := by
  intro H locs ls hP hz hS hl
  have he := wk_at (Y := Y) (σ := σ) (κ := κ) (c := cm) (d := dm) hk.1
  rw [hk.2, kM_obj hci] at he
  have hg := kF_get σ (cm k) (dm k) lk 0 j _ hj
  rw [Nat.zero_add, Nat.add_comm 2 k2] at hg
  exact va_get (ref := (T j).1) hE.1 hE.2.1 hE.2.2.2.2.1 hc.2.1 hE.2.2.2.1 hE.2.2.2.2.2.2.1 hP (ix k) he hc.1 j hjN (hE.2.2.2.2.1 _ hw) (fun _ h => h) (v := .ref (σ k2)) hg hd (kk H locs ls hP hz hS hl)
theorem k_getIw (hE : EOKk p s m args meth c cc nL own Y D σ n0 b0) {C : String} {T : u_T} {N ci k index : Nat} {ty0 : Nat → FieldType} {lk : List Nat} (hc : CLok ci C T N ty0) (hk : Kn k np ∧ κ k = (ci, 0, lk)) (hci : ci < 100) (j : Nat) (hj : lk[j]? = some 0) (hjN : j < N) (hw : Cond.fieldLink own index (T j).1 (T j).2.1 (T j).2.2.1 ∈ lw_g) (hd : decode cc pc = .ok (.getfield index, 3)) (kk : Xk p l e R s m args below meth c nL Y D σ κ np b0 cells slots Q (pc + 3) L (.int (cm k j) :: rest) cm dm) : Xk p l e R s m args below meth c nL Y D σ κ np b0 cells slots Q pc L (.ref (σ k) :: rest) cm dm := by
  intro H locs ls hP hz hS hl
  have he := wk_at (Y := Y) (σ := σ) (κ := κ) (c := cm) (d := dm) hk.1
  rw [hk.2, kM_obj hci] at he
  have hg := kF_get σ (cm k) (dm k) lk 0 j _ hj
  rw [Nat.zero_add] at hg
  exact va_get (ref := (T j).1) hE.1 hE.2.1 hE.2.2.2.2.1 hc.2.1 hE.2.2.2.1 hE.2.2.2.2.2.2.1 hP (ix k) he hc.1 j hjN (hE.2.2.2.2.1 _ hw) (fun _ h => h) (v := .int (cm k j)) hg hd (kk H locs ls hP hz hS hl)
/-- a field of an object in the making is written: final ones too -/
theorem k_put (hE : EOKk p s m args meth c cc nL own Y D σ n0 b0) {C : String} {T : u_T} {N ci k index : Nat} {ty0 : Nat → FieldType} {lk : List Nat} (lk' : List Nat) (hc : CLok ci C T N ty0) (hk : Kn k np ∧ κ k = (200 + ci, 0, lk)) (j t' : Nat) (v : Value) (c1 : Mc) (hlk' : lk.set j t' = lk') (hj : j < lk.length) (hjN : j < N) (hw : Cond.fieldLink own index (T j).1 (T j).2.1 (T j).2.2.1 ∈ lw_g) (hv : kGV σ (c1 k) (dm k) j t' = v) (hc1 : ∀ a i, (a ≠ k ∨ i ≠ j) → c1 a i = cm a i)
    (hfin : (T j).2.2.2 = false ∨ ((T j).2.2.2 = true ∧ meth.name = "<init>" ∧ (T j).1 = own)) {ty : FieldType} (hty : parseFieldDescriptor (T j).2.2.1 = some ty) (hn : narrow ty v = v) (hfit : fits ty v = true) (hd : decode cc pc = .ok (.putfield index, 3)) (kk : Xk p l e R s m args below meth c nL Y D σ (ku κ k (200 + ci, 0, lk')) np b0 cells slots Q (pc + 3) L rest c1 dm) : Xk p l e R s m args below meth c nL Y D σ κ np b0 cells slots Q pc L (v :: .ref (σ k) :: rest) cm dm := by
  subst hlk'
  intro H locs ls hP hz hS hl
  have he := wk_at (Y := Y) (σ := σ) (κ := κ) (c := cm) (d := dm) hk.1
  rw [hk.2, kM_new] at he
  have hD := wk_D (Y := Y) (κ := κ) (np := np) (c := cm) (d := dm) hE.2.2.2.2.2.2.2.1
  have fin : ∀ (H1 : Heap) (locs1 : List Loc), va_P D cl0 ((Wk Y σ κ np cm dm).set (ix k) (σ k, .inr (ci, (kG σ (cm k) (dm k) 0 lk).set j v))) H1 → H1.size = σ np → va_S (xA b0) s.heap H1 locs1 → W p l e R s m args below meth c H1 locs1 cells slots Q (F0 m (pc + 3) ls rest) := by
    intro H1 locs1 hP1 hz1 hS1
    rw [wk_set (κ' := ku κ k (200 + ci, 0, lk.set j t')) (c' := c1) (d' := dm) hk.1 (by rw [show ku κ k (200 + ci, 0, lk.set j t') k = (200 + ci, 0, lk.set j t') from if_pos rfl, kM_new, kG_set j t' v hj hv (fun i hi => hc1 k i (Or.inr hi))]) (fun i hi => ⟨if_neg hi, funext fun x => hc1 i x (Or.inl hi), rfl⟩)] at hP1
    exact kk H1 locs1 ls hP1 hz1 hS1 hl
  rcases hfin with hf | ⟨hf, hin, hdecl⟩
  · have hap := va_apart (own := own) hE.2.2.2.2.1 hc.2.1 ty0 hc.2.2.1 hc.2.2.2 hE.2.2.2.2.2.2.1 hc.1
    obtain ⟨r, h1, cell, q1, q2, q3, q4⟩ := hP (ix k) _ he
    have hr : r = (C, T, N) := Option.some.inj (h1.symm.trans hc.1)
    subst hr
    obtain ⟨hSl, hfc, kC, hkC, hkind⟩ := hE.2.2.2.2.2.2.1.1 ci _ hc.1
    obtain ⟨cf, kf, fi, f, hi, hsl⟩ := hSl j hjN
    have hlay := hE.2.2.2.2.1 _ (hc.2.1 _ (u_in_lay hjN))
    unfold u_lay at hlay
    rw [if_neg (by rw [hf]; decide)] at hlay
    have hst := (u_facts hfc hkC (u_lays hE.2.2.2.2.1 hc.2.1 hjN) hi).1
    have h6 := u_store hfc hkC hkind hlay hi hty hn hfit
    refine W.putK hE.1 hE.2.1 (f := f) ⟨hE.2.2.2.1, hE.2.2.2.2.1 _ hw, ⟨_, _, _, hi⟩, hst⟩ (by rw [q2]; exact h6) q1 q3 (by rw [hsl]; exact k2_hasslot (q4 j hjN)) rfl rfl hd fun H' e1 e2 e3 => ?_
    rw [hsl] at e1 ⊢
    exact fin H' _ (hP.set hD he ⟨_, hc.1, t_OB.to (V := updV (vp_V _) j v) ⟨_, e1, q2, q3, t_set q4 hap hjN v⟩ (fun i _ => vp_updV_set (by rw [kG_len]; exact hj) v i)⟩ e3) (e2.trans hz) (hS.put e2 e3 (hD.2 (ix k) _ he))
  · have hap := va_apart (own := own) hE.2.2.2.2.1 hc.2.1 ty0 hc.2.2.1 hc.2.2.2 hE.2.2.2.2.2.2.1 hc.1
    obtain ⟨r, h1, cell, q1, q2, q3, q4⟩ := hP (ix k) _ he
    have hr : r = (C, T, N) := Option.some.inj (h1.symm.trans hc.1)
    subst hr
    obtain ⟨hSl, hfc, kC, hkC, hkind⟩ := hE.2.2.2.2.2.2.1.1 ci _ hc.1
    obtain ⟨cf, kf, fi, f, hi, hsl⟩ := hSl j hjN
    have hlay := hE.2.2.2.2.1 _ (hc.2.1 _ (u_in_lay hjN))
    unfold u_lay at hlay
    rw [if_pos hf] at hlay
    have hst := (u_facts hfc hkC (u_lays hE.2.2.2.2.1 hc.2.1 hjN) hi).1
    have hcf : m.cls = cf := by
      obtain ⟨_, _, c', _, _, _, -, -, hf', -, -, -, hown2, -⟩ := Cond.laysFinal_spec hlay
      have e1 : c' = cf := by have := hi.symm.trans hf'; simp at this; exact this.1.symm
      rw [hdecl] at hown2
      rw [← e1]; exact Option.some.inj (hE.2.2.2.1.symm.trans hown2)
    have h6 := u_fits hfc hkC hkind (Or.inr hlay) hi hty hn hfit
    refine W.putFinK hE.1 hE.2.1 hE.2.2.2.1 (hE.2.2.2.2.1 _ hw) hi hst hcf hin (by rw [q2]; exact h6) q1 q3 (by rw [hsl]; exact k2_hasslot (q4 j hjN)) rfl rfl hd fun H' e1 e2 e3 => ?_
    rw [hsl] at e1 ⊢
    exact fin H' _ (hP.set hD he ⟨_, hc.1, t_OB.to (V := updV (vp_V _) j v) ⟨_, e1, q2, q3, t_set q4 hap hjN v⟩ (fun i _ => vp_updV_set (by rw [kG_len]; exact hj) v i)⟩ e3) (e2.trans hz) (hS.put e2 e3 (hD.2 (ix k) _ he))

/-- 'new' of one of the world's classes -/
theorem k_new (hE : EOKk p s m args meth c cc nL own Y D σ n0 b0) {C : String} {T : u_T} {N ci index : Nat} {ty0 : Nat → FieldType} (lk : List Nat) (hc : CLok ci C T N ty0) (hnp : n0 ≤ np ∧ ph np = false) (hcl : Cond.classLink own index C ∈ lw_g) (hins : Cond.instantiable C N ∈ lw_g) (hini : Cond.initialized C ∈ lw_g)
    (hlk : lk.length = N) (hdv : ∀ j t, lk[j]? = some t → defaultValue (ty0 j) = kGV σ (fun _ => 0) (fun _ => 0) j t) (hcells : cells + 1 ≤ R.cells) (hslots : slots + N ≤ R.slots) (hd : decode cc pc = .ok (.new index, 3))
    (kk : Xk p l e R s m args below meth c nL Y D σ (ku κ np (200 + ci, 0, lk)) (np + 1) b0 (cells + 1) (slots + N) Q (pc + 3) L (.ref (σ np) :: rest) (up cm np (fun _ => 0)) (upd8 dm np (fun _ => 0))) : Xk p l e R s m args below meth c nL Y D σ κ np b0 cells slots Q pc L rest cm dm := by
  intro H locs ls hP hz hS hl
  have hKn := hE.2.2.2.2.2.2.1.1 ci _ hc.1
  refine W.newcK hE.1 hE.2.1 hE.2.2.2.1 (hE.2.2.2.2.1 _ hcl) (hE.2.2.2.2.1 _ hins) (hE.2.2.2.2.1 _ hini) rfl hd hcells hslots hKn.2.1 hz fun H1 kC hkC e1 z1 o1 => ?_
  refine kk H1 locs ls ?_ (z1.trans ((hE.2.2.2.2.2.2.2.1.2.2 np hnp.1).1 hnp.2).symm) ⟨Nat.le_trans hS.1 (by omega), fun x h1 h2 => (o1 x (by rw [← hz]; exact Nat.lt_of_lt_of_le h1 hS.1)).trans (hS.2.1 x h1 h2), hS.2.2⟩ hl
  rw [wk_push (κ := κ) (κ' := ku κ np (200 + ci, 0, lk)) (c := cm) (c' := up cm np (fun _ => 0)) (d := dm) (d' := upd8 dm np (fun _ => 0)) hnp.2 (fun i hi => ⟨if_neg (by omega), if_neg (by omega), if_neg (by omega)⟩)]
  refine (hP.kept (fun k x hx => o1 x.1 (by rw [← hz]; exact (hP k x hx).lt))).app (fun k x hx => ?_)
  have hz0 : k < 1 := (List.getElem?_eq_some_iff.mp hx).1
  rw [show k = 0 by omega] at hx
  cases hx
  rw [show ku κ np (200 + ci, 0, lk) np = (200 + ci, 0, lk) from if_pos rfl, kM_new]
  refine ⟨_, hc.1, (u_born ty0 hE.2.2.2.2.1 hc.2.1 hKn hkC e1 hc.2.2.1).to (fun j hj => ?_)⟩
  have hjl : j < lk.length := by rw [hlk]; exact hj
  have hg := kG_get σ (up cm np (fun _ => 0) np) (upd8 dm np (fun _ => 0) np) lk 0 j _ (List.getElem?_eq_getElem hjl)
  rw [Nat.zero_add] at hg
  simp only [vp_V, List.getD_eq_getElem?_getD, hg, Option.getD_some]
  rw [hdv j _ (List.getElem?_eq_getElem hjl), show up cm np (fun _ => 0) np = fun _ => 0 from if_pos rfl, show upd8 dm np (fun _ => 0) np = fun _ => 0 from if_pos rfl]
/-- 'newarray' -/
theorem k_newa (hE : EOKk p s m args meth c cc nL own Y D σ n0 b0) {atype : ArrayType} {ty : FieldType} (tg yi N' : Nat) {a0 : vp_A} (hnp : n0 ≤ np ∧ ph np = false) (hw : Cond.arrayClass (newarray.typeOf atype) ∈ lw_g) (hty : newarray.typeOf atype = ty) (hplain : va_RA s (Y yi) ty = (s.vm.findClass ("[" ++ ty.toString) = some (Y yi))) (hyi : (tysOf Y)[yi]? = some (Y yi, ty))
    (ha : ∀ cA : ClassId, vp_cell cA a0 = arrV cA N' (fun _ => defaultValue ty)) (hk : kM Y σ (tg, N', []) np (fun _ => 0) (fun _ => 0) = .inl (Y yi, a0)) {n : Int32} (hn : ¬ n < 0) (hN : n.toNatClampNeg = N') (hbytes : N' * componentBytes ty ≤ 536870912) (hcells : cells + 1 ≤ R.cells) (hslots : slots + N' ≤ R.slots) (hd : decode cc pc = .ok (.newarray atype, 2))
    (kk : Xk p l e R s m args below meth c nL Y D σ (ku κ np (tg, N', [])) (np + 1) b0 (cells + 1) (slots + N') Q (pc + 2) L (.ref (σ np) :: rest) (up cm np (fun _ => 0)) (upd8 dm np (fun _ => 0))) : Xk p l e R s m args below meth c nL Y D σ κ np b0 cells slots Q pc L (.int n :: rest) cm dm := by
  intro H locs ls hP hz hS hl
  subst hty
  refine va_newaK hE.1 hE.2.1 (hE.2.2.2.2.1 _ hw) rfl hd rfl hn hN hbytes hcells hslots hz fun H1 cA e1 z1 o1 hAr hNm => ?_
  have hcy : cA = Y yi := by
    have h2 := (hE.2.2.2.2.2.2.1.2 yi _ hyi).2
    rw [hplain] at h2
    exact Option.some.inj (hNm.symm.trans h2)
  subst hcy
  refine kk H1 locs ls ?_ (z1.trans ((hE.2.2.2.2.2.2.2.1.2.2 np hnp.1).1 hnp.2).symm) ⟨Nat.le_trans hS.1 (by omega), fun x h1 h2 => (o1 x (by rw [← hz]; exact Nat.lt_of_lt_of_le h1 hS.1)).trans (hS.2.1 x h1 h2), hS.2.2⟩ hl
  rw [wk_push (κ := κ) (κ' := ku κ np (tg, N', [])) (c := cm) (c' := up cm np (fun _ => 0)) (d := dm) (d' := upd8 dm np (fun _ => 0)) hnp.2 (fun i hi => ⟨if_neg (by omega), if_neg (by omega), if_neg (by omega)⟩)]
  refine (hP.kept (fun k x hx => o1 x.1 (by rw [← hz]; exact (hP k x hx).lt))).app (fun k x hx => ?_)
  have hz0 : k < 1 := (List.getElem?_eq_some_iff.mp hx).1
  rw [show k = 0 by omega] at hx
  cases hx
  rw [show ku κ np (tg, N', []) np = (tg, N', []) from if_pos rfl, show up cm np (fun _ => 0) np = fun _ => 0 from if_pos rfl, show upd8 dm np (fun _ => 0) np = fun _ => 0 from if_pos rfl, hk]
  show H1[σ np]? = some (vp_cell _ _)
  rw [ha]
  exact e1
theorem k_obj (hE : EOKk p s m args meth c cc nL own Y D σ n0 b0) {a idx : Nat} (hw : Cond.methodLink own idx objectInit ∈ lw_g) (hi : Cond.instanceMethod objectInit ∈ lw_g) (hco : Cond.code objectInit ⟨#[0xb1]⟩ 1 none ∈ lw_g) (hd : decode cc pc = .ok (.invokespecial idx, 3)) (hRf : 1 ≤ R.frames) (hRl : (rest.map fun v => v.category).sum + 12 ≤ R.locals) (kk : Xk p l e R s m args below meth c nL Y D σ κ np b0 cells slots Q (pc + 3) L rest cm dm) : Xk p l e R s m args below meth c nL Y D σ κ np b0 cells slots Q pc L (.ref a :: rest) cm dm := by
  intro H locs ls hP hz hS hl
  exact W.objInit hE.1 hE.2.1 hE.2.2.2.1 (hE.2.2.2.2.1 _ hw) (hE.2.2.2.2.1 _ hi) (hE.2.2.2.2.1 _ hco) (g := F0 m pc ls (.ref a :: rest)) rfl (hl.1.trans hE.2.2.1.symm) rfl hd hRf (by show 2 * 0 + _ + 12 ≤ _; omega) (kk H locs ls hP hz hS hl)
def QK (Y : Nat → ClassId) (D : va_G) (σ : Nat → Nat) (κ : Nat → xK) (np b0 : Nat) (v : Option Value) (c1 : Mc) (d1 : Md) : Array Value → State → Outcome → State → Prop := fun _ st o t => o = .returned v ∧ va_P D cl0 (Wk Y σ κ np c1 d1) t.heap ∧ t.heap.size = σ np ∧ va_F (xA b0) st t
def PK (Y : Nat → ClassId) (D : va_G) (σ : Nat → Nat) (κ : Nat → xK) (np n0 b0 : Nat) (av : List Value) (c1 : Mc) (d1 : Md) : Array Value → State → Prop := va_Pc av (fun U => va_P D cl0 (Wk Y σ κ np c1 d1) U.heap ∧ U.heap.size = σ np ∧ va_K D cl0 (tysOf Y) U ∧ xNw U ∧ OkT b0 σ n0 ∧ b0 ≤ U.heap.size ∧ (n0 = 0 → xAO U))
theorem pk_blind {av : List Value} : FrameBlind (PK Y D σ κ np n0 b0 av cm dm) := by
  intro a U g mk h
  obtain ⟨h1, h2, h3, h4, h5, h6, h7, h8⟩ := h
  exact ⟨h1, h2, h3, va_K.moved (u := U) (U := U.calling g mk a) (Vm.Alike.refl U.vm) h4, xNw.same (u := U) (U := U.calling g mk a) rfl h5, h6, h7, fun q => xAO.same (u := U) (U := U.calling g mk a) rfl (h8 q)⟩
theorem pk_of (hE : EOKk p s m args meth c cc nL own Y D σ n0 b0) {H : Heap} {locs : List Loc} (hP : va_P D cl0 (Wk Y σ κ np cm dm) H) (hz : H.size = σ np) (hS : va_S (xA b0) s.heap H locs) {av : List Value} {U : State} (hU : U.heap = H) (hW : s.WarmedH U.vm) : PK Y D σ κ np n0 b0 av cm dm av.toArray U :=
  ⟨rfl, by rw [hU]; exact hP, by rw [hU]; exact hz, va_K.moved hW.alike hE.2.2.2.2.2.2.1, xNw.warm hW hE.2.2.2.2.2.1, hE.2.2.2.2.2.2.2.1, by rw [hU]; exact Nat.le_trans hE.2.2.2.2.2.2.2.2.1 hS.1, fun q => xAO.warm hW (hE.2.2.2.2.2.2.2.2.2.2 q)⟩
theorem k_ret {v : Option Value} {c1 : Mc} {d1 : Md} {κ1 : Nat → xK} {np1 : Nat} {av : Array Value} {st0 : List Value} {mc ms : Nat} {H : Heap} {locs : List Loc} {ls : Array Slot} (hE : EOKk p s m args meth c cc nL own Y D σ n0 b0)
    (hr : va_Run p l e R s m args below meth c H locs cells slots mc ms (F0 m pc ls st0) rest (QK Y D σ κ1 np1 b0 v c1 d1 av) (xA b0)) (hS : va_S (xA b0) s.heap H locs) (hl : lv_has ls nL L)
    (k : Xk p l e R s m args below meth c nL Y D σ κ1 np1 b0 (cells + mc) (slots + ms) Q (pc + 3) L (v.toList ++ rest) c1 d1) : W p l e R s m args below meth c H locs cells slots Q (F0 m pc ls st0) := by
  intro T hT X
  obtain ⟨v', st₀, t, T', L', h0, X', hL, e1, e2, ⟨hv, hp, hsz, hz, hk⟩, st⟩ := hr T hT X
  cases hv
  rw [h0] at hz hk
  have hS1 : va_S (xA b0) s.heap T'.heap (locs ++ L') := by
    refine ⟨Nat.le_trans hS.1 (by rw [e1]; exact hz), fun q h1 h2 => ?_, fun q hq => ?_⟩
    · rw [e1, hk q (Nat.lt_of_lt_of_le h1 hS.1) h2]
      exact hS.2.1 q h1 h2
    · rcases List.mem_append.mp hq with h | h
      · exact hS.2.2 q h
      · exact hL q h
  obtain ⟨t2, a1, b1⟩ := k T'.heap (locs ++ L') ls (by rw [e1]; exact hp) (by rw [e1]; exact hsz) hS1 hl T' rfl X'
  exact ⟨t2, st t2 a1, b1⟩
theorem kcb_of (hE : EOKk p s m args meth c cc nL own Y D σ n0 b0) {y : MethodName} {bytes : ByteArray} {maxL n : Nat} {ret : Option FieldType} {rm : Room} {mc ms index : Nat} (hY : YOK y bytes maxL n ret) (hw : Cond.methodLink own index y ∈ lw_g) (hrc : rm.cells = mc) (hrs : rm.slots = ms) (hR : rm.frames + 1 ≤ R.frames ∧ 8 + (maxL + 11) + rm.locals ≤ R.locals) : CallB R s args own index y bytes maxL ret (.code y bytes maxL ret :: lw_g) rm mc ms n :=
  callB_of n hE.2.2.2.2.1 (goodIn_g (fun w h => (List.mem_cons.mp h).elim (fun q => by rw [q]; exact hY.1) id)) rfl hrc hrs (hE.2.2.2.2.1 _ hY.2.1) (hE.2.2.2.2.1 _ hw) hY.2.2 hR
theorem kcn_of (hE : EOKk p s m args meth c cc nL own Y D σ n0 b0) {y : MethodName} {host : String} {bytes : ByteArray} {maxL n : Nat} {ret : Option FieldType} {rm : Room} {mc ms index : Nat} (hY : YOK y bytes maxL n ret) (hw : Cond.methodLinkNest own index y host ∈ lw_nw) (hrc : rm.cells = mc) (hrs : rm.slots = ms) (hR : rm.frames + 1 ≤ R.frames ∧ 8 + (maxL + 11) + rm.locals ≤ R.locals) : va_CN R s args own index y host bytes maxL ret (.code y bytes maxL ret :: lw_g) rm mc ms n :=
  va_cnB n hE.2.2.2.2.1 (goodIn_g (fun w h => (List.mem_cons.mp h).elim (fun q => by rw [q]; exact hY.1) id)) rfl hrc hrs (hE.2.2.2.2.2.1 _ hw) (hE.2.2.2.2.1 _ hY.2.1) hY.2.2 hR
def rmK (d k n : Nat) : Room := { frames := d, cells := k, slots := n, locals := 64 * d }
/-- a constructor's call -/
theorem k_callI (hE : EOKk p s m args meth c cc nL own Y D σ n0 b0) {y : MethodName} {bytes : ByteArray} {maxL n index a dq mc ms : Nat} {c1 : Mc} {d1 : Md} {κ1 : Nat → xK} {np1 : Nat} (As : List Value) {st0 : List Value} (h0 : As.reverse ++ .ref a :: rest = st0) (hY : YOK y bytes maxL n none) (hI : Cond.instanceMethod y ∈ lw_g) (hnm : y.name = "<init>") (hw : Cond.methodLink own index y ∈ lw_g)
    (hR : (rmK dq mc ms).frames + 1 ≤ R.frames ∧ 8 + (maxL + 11) + (rmK dq mc ms).locals ≤ R.locals) (hcs : cells + mc ≤ R.cells ∧ slots + ms ≤ R.slots) (hn : As.length = n) (hst : (rest.map fun v => v.category).sum ≤ 8) (hd : decode cc pc = .ok (.invokespecial index, 3))
    (hM : Met l y (.code y bytes maxL none :: lw_g) (rmK dq mc ms) (PK Y D σ κ np n0 b0 (.ref a :: As) cm dm) (QK Y D σ κ1 np1 b0 none c1 d1) mc ms (xA b0))
    (kk : Xk p l e R s m args below meth c nL Y D σ κ1 np1 b0 (cells + mc) (slots + ms) Q (pc + 3) L rest c1 d1) : Xk p l e R s m args below meth c nL Y D σ κ np b0 cells slots Q pc L st0 cm dm := by
  subst h0
  intro H locs ls hP hz hS hl
  refine k_ret hE (va_runI (As := As) (rest := rest) (Ts := lw_g) ⟨hE.1, hE.2.1, hE.2.2.1, hE.2.2.2.1, hE.2.2.2.2.1⟩ hM ⟨kcb_of hE hY hw rfl rfl hR, hnm, hE.2.2.2.2.1 _ hI⟩ ⟨pk_blind, fun U hU hW => pk_of hE hP hz hS hU hW⟩ rfl hn hl.1 rfl ?_ hd hcs) hS hl kk
  show 2 * 0 + _ ≤ 8
  rw [Nat.mul_zero, Nat.zero_add]
  exact hst
theorem k_callIN (hE : EOKk p s m args meth c cc nL own Y D σ n0 b0) {y : MethodName} {host : String} {bytes : ByteArray} {maxL n index a dq mc ms : Nat} {c1 : Mc} {d1 : Md} {κ1 : Nat → xK} {np1 : Nat} (As : List Value) {st0 : List Value} (h0 : As.reverse ++ .ref a :: rest = st0) (hY : YOK y bytes maxL n none) (hI : Cond.instanceMethod y ∈ lw_g) (hnm : y.name = "<init>") (hw : Cond.methodLinkNest own index y host ∈ lw_nw)
    (hR : (rmK dq mc ms).frames + 1 ≤ R.frames ∧ 8 + (maxL + 11) + (rmK dq mc ms).locals ≤ R.locals) (hcs : cells + mc ≤ R.cells ∧ slots + ms ≤ R.slots) (hn : As.length = n) (hst : (rest.map fun v => v.category).sum ≤ 8) (hd : decode cc pc = .ok (.invokespecial index, 3))
    (hM : Met l y (.code y bytes maxL none :: lw_g) (rmK dq mc ms) (PK Y D σ κ np n0 b0 (.ref a :: As) cm dm) (QK Y D σ κ1 np1 b0 none c1 d1) mc ms (xA b0))
    (kk : Xk p l e R s m args below meth c nL Y D σ κ1 np1 b0 (cells + mc) (slots + ms) Q (pc + 3) L rest c1 d1) : Xk p l e R s m args below meth c nL Y D σ κ np b0 cells slots Q pc L st0 cm dm := by
  subst h0
  intro H locs ls hP hz hS hl
  refine k_ret hE (va_runIN (As := As) (rest := rest) (Ts := lw_g) ⟨hE.1, hE.2.1, hE.2.2.1, hE.2.2.2.1, hE.2.2.2.2.1⟩ hM ⟨kcn_of hE hY hw rfl rfl hR, hnm, hE.2.2.2.2.1 _ hI⟩ ⟨pk_blind, fun U hU hW => pk_of hE hP hz hS hU hW⟩ rfl hn hl.1 rfl ?_ hd hcs) hS hl kk
  show 2 * 0 + _ ≤ 8
  rw [Nat.mul_zero, Nat.zero_add]
  exact hst
theorem k_callS0 (hE : EOKk p s m args meth c cc nL own Y D σ n0 b0) {y : MethodName} {bytes : ByteArray} {maxL n index dq : Nat} {c1 : Mc} {d1 : Md} (As : List Value) {st0 : List Value} (h0 : As.reverse ++ rest = st0) (hY : YOK y bytes maxL n none) (hV : Cond.static y ∈ lw_g) (hw : Cond.methodLink own index y ∈ lw_g)
    (hR : (rmK dq 0 0).frames + 1 ≤ R.frames ∧ 8 + (maxL + 11) + (rmK dq 0 0).locals ≤ R.locals) (hcs : cells ≤ R.cells ∧ slots ≤ R.slots) (hn : As.length = n) (hst : (rest.map fun v => v.category).sum ≤ 8) (hd : decode cc pc = .ok (.invokestatic index, 3))
    (hM : Met l y (.code y bytes maxL none :: lw_g) (rmK dq 0 0) (PK Y D σ κ np n0 b0 As cm dm) (QK Y D σ κ np b0 none c1 d1) 0 0 (xA b0))
    (kk : Xk p l e R s m args below meth c nL Y D σ κ np b0 cells slots Q (pc + 3) L rest c1 d1) : Xk p l e R s m args below meth c nL Y D σ κ np b0 cells slots Q pc L st0 cm dm := by
  subst h0
  intro H locs ls hP hz hS hl
  refine k_ret hE (va_runS (As := As) (rest := rest) (Ts := lw_g) ⟨hE.1, hE.2.1, hE.2.2.1, hE.2.2.2.1, hE.2.2.2.2.1⟩ hM ⟨kcb_of hE hY hw rfl rfl hR, hE.2.2.2.2.1 _ hV⟩ ⟨pk_blind, fun U hU hW => pk_of hE hP hz hS hU hW⟩ rfl hn hl.1 rfl ?_ hd hcs) hS hl kk
  show 2 * 0 + _ ≤ 8
  rw [Nat.mul_zero, Nat.zero_add]
  exact hst
theorem k_vreturn (hE : EOKk p s m args meth c cc nL own Y D σ n0 b0) (hr : meth.sig.returnType = none) (hd : decode cc pc = .ok (.return_, 1)) : Xk p l e R s m args below meth c nL Y D σ κ np b0 cells slots (MQ below (QK Y D σ κ np b0 none cm dm) args s cells slots (xA b0)) pc L [] cm dm := by
  intro H locs ls hP hz hS hl
  exact W.vret hE.1 hE.2.1 hr (fun t ht hW => ⟨rfl, by rw [ht]; exact hP, by rw [ht]; exact hz, hS.F ht⟩) hS.2.2 hd hE.2.2.2.2.2.2.2.2.2.1
theorem k_met {y : MethodName} {maxL dp mc ms : Nat} {av : List Value} {c1 : Mc} {d1 : Md} {κ1 : Nat → xK} {np1 : Nat} (hy : plainName y.cls = true) (hav : (lg_sl av).length ≤ maxL)
    (body : ∀ (p : Program) (e : Env) (s : State) (m : MethodId) (args : Array Value) (below : List Frame) (meth : Method) (c : Code), EOKk p s m args meth c cc maxL y.cls Y D σ n0 b0 → meth.sig.returnType = none → meth.name = y.name →
      Xk p l e (rmK dp mc ms) s m args below meth c maxL Y D σ κ np b0 0 0 (MQ below (QK Y D σ κ1 np1 b0 none c1 d1) args s mc ms (xA b0)) 0 (lv_args 0 av) [] cm dm) :
    Met l y (.code y cc maxL none :: lw_g) (rmK dp mc ms) (PK Y D σ κ np n0 b0 av cm dm) (QK Y D σ κ1 np1 b0 none c1 d1) mc ms (xA b0) := by
  refine Met.ofW (cc := cc) (maxL := maxL) (ret := none) hy rfl ?_
  intro p e s m args below meth c s₁ B hml hv
  obtain ⟨rfl, hP, hz, hK, hN, hσ, hb0, hao⟩ := hv
  have hts := atoms_spec (ws := .code y cc maxL none :: lw_g) B.pre
  have hE : EOKk p s m av.toArray meth c cc maxL y.cls Y D σ n0 b0 := ⟨B.exec, B.bytes, hml, findClass_of_methodNamed B.named, fun w hw => hts w (List.mem_cons_of_mem _ hw), hN, hK, hσ, hb0, B.notSynchronized, hao⟩
  rw [lg_entry_eq]
  exact body p e s m av.toArray below meth c hE B.returns (name_of_methodNamed B.named B.method).1 s.heap [] _ hP hz va_S.rf (lv_entry av hav)
theorem k_iast (hE : EOKk p s m args meth c cc nL own Y D σ n0 b0) {k n : Nat} {β : Type} {r : β} {f : Mc → Option β} {i x : Int32} (hk : Kn k np ∧ κ k = (100, n, [])) (hd : decode cc pc = .ok (.iastore, 1)) (hf : chk i n (lt (wr cm k i.toNatClampNeg x) f) = some r) (kk : ∀ c1 : Mc, f c1 = some r → Xk p l e R s m args below meth c nL Y D σ κ np b0 cells slots Q (pc + 1) L rest c1 dm) : Xk p l e R s m args below meth c nL Y D σ κ np b0 cells slots Q pc L (.int x :: .int i :: .ref (σ k) :: rest) cm dm := by
  intro H locs ls hP hz hS hl
  have he := wk_at (Y := Y) (σ := σ) (κ := κ) (c := cm) (d := dm) hk.1
  have e2 : ∀ f, kM Y σ (κ k) k f (dm k) = .inl (Y 0, n, .inl f) := by intro f; rw [hk.2]; rfl
  rw [e2] at he
  have hin := (chk_some hf).1
  refine W.iast hE.1 hE.2.1 (hP (ix k) _ he) ((hE.2.2.2.2.2.2.1.2 0 _ rfl).1 n (fun j => .int (cm k j))) (fun q => by cases q) (by show ¬ (i < 0 ∨ (arrV _ _ _).slots.size ≤ _); rw [arrV_size]; exact hin) rfl rfl hd fun H1 e z oq => ?_
  have hat : va_at D cl0 (σ k, .inl (Y 0, n, .inl (upd (cm k) i.toNatClampNeg x))) H1 := by
    show H1[σ k]? = some (vp_cell _ _)
    rw [e]
    rw [vp_cell_i, vp_cell_i, arrV_store]
    congr 2
    funext q
    by_cases hq : q = i.toNatClampNeg
    · subst hq
      simp [updV, upd]
    · simp [updV, upd, hq]
  have hP1 := hP.set (wk_D hE.2.2.2.2.2.2.2.1) he hat oq
  rw [wk_set (κ' := κ) (c' := wr cm k i.toNatClampNeg x) (d' := dm) hk.1 (by rw [e2, ← wr_up]; simp [up]) (fun a ha => ⟨rfl, funext fun b => by simp [wr, ha], rfl⟩)] at hP1
  exact kk _ (chk_some hf).2 H1 _ ls hP1 (z.trans hz) (hS.put z oq ((wk_D (Y := Y) (κ := κ) (np := np) (c := cm) (d := dm) hE.2.2.2.2.2.2.2.1).2 (ix k) _ he)) hl
theorem k_alen (hE : EOKk p s m args meth c cc nL own Y D σ n0 b0) {k n : Nat} (hk : Kn k np ∧ κ k = (100, n, [])) (hd : decode cc pc = .ok (.arraylength, 1)) (kk : Xk p l e R s m args below meth c nL Y D σ κ np b0 cells slots Q (pc + 1) L (.int (nI n) :: rest) cm dm) : Xk p l e R s m args below meth c nL Y D σ κ np b0 cells slots Q pc L (.ref (σ k) :: rest) cm dm := by
  intro H locs ls hP hz hS hl
  have he := wk_at (Y := Y) (σ := σ) (κ := κ) (c := cm) (d := dm) hk.1
  rw [hk.2] at he
  exact va_alen hE.1 hE.2.1 hE.2.2.2.2.2.2.1 hP (ix k) 0 he (ty := .int) rfl rfl hd (kk H locs ls hP hz hS hl)
theorem arrV_congr {cA : ClassId} {n : Nat} {f g : Nat → Value} (h : ∀ j, j < n → f j = g j) : arrV cA n f = arrV cA n g := by
  unfold arrV
  congr 1
  apply Array.ext_getElem?
  intro j
  simp only [Array.getElem?_ofFn]
  by_cases hj : j < n
  · simp only [hj, dite_true, h j hj]
  · simp only [hj, dite_false]
theorem outer_ix {cA : ClassId} {n h0 : Nat} : ∀ i : Nat, Jvm.Free.Multi.outerC cA n h0 i = arrV cA n (fun j => if j < i then .ref (h0 + 1 + j) else .null)
  | 0 => by
    show ({ cls := cA, slots := Array.replicate n .null, vm := .none } : Cell) = _
    rw [arrV_new]
    exact arrV_congr (fun j _ => (if_neg (Nat.not_lt_zero j)).symm)
  | i + 1 => by
    show (Jvm.Free.Multi.outerC cA n h0 i).setSlot i _ = _
    rw [outer_ix i, arrV_store]
    refine arrV_congr (fun j _ => ?_)
    unfold updV
    by_cases h : j = i
    · subst h
      rw [if_pos rfl, if_pos (Nat.lt_succ_self j)]
    · rw [if_neg h]
      show (if j < i then Value.ref (h0 + 1 + j) else Value.null) = _
      by_cases h2 : j < i
      · rw [if_pos h2, if_pos (by omega)]
      · rw [if_neg h2, if_neg (by omega)]
theorem outer_arr {cA : ClassId} {n h0 : Nat} : Jvm.Free.Multi.outerC cA n h0 n = arrV cA n (fun j => .ref (h0 + 1 + j)) := by
  rw [outer_ix]
  exact arrV_congr (fun j hj => if_pos hj)
theorem k_newm (hE : EOKk p s m args meth c cc nL own Y D σ n0 b0) (h00 : n0 = 0) {index : Nat} (N' K' : Nat) (hnp : n0 ≤ np ∧ np + (1 + N') ≤ 20) (hcl : Cond.classLink own index "[[I" ∈ lw_g) (har : Cond.arrayClass .int ∈ lw_g) {n k : Int32} (hn : ¬ n < 0) (hk : ¬ k < 0) (hN : n.toNatClampNeg = N') (hM : k.toNatClampNeg = K') (hb1 : N' * 4 ≤ 536870912) (hb2 : K' * 4 ≤ 536870912) (hcells : cells + (1 + N') ≤ R.cells) (hslots : slots + (N' + N' * K') ≤ R.slots) (hd : decode cc pc = .ok (.multianewarray index 2, 4))
    (kk : Xk p l e R s m args below meth c nL Y D σ (kum κ np N' K') (np + (1 + N')) b0 (cells + (1 + N')) (slots + (N' + N' * K')) Q (pc + 4) L (.ref (σ np) :: rest) (upz cm np (1 + N')) (upz8 dm np (1 + N'))) : Xk p l e R s m args below meth c nL Y D σ κ np b0 cells slots Q pc L (.int k :: .int n :: rest) cm dm := by
  intro H locs ls hP hz hS hl
  subst hN
  subst hM
  intro T hT Xs
  obtain ⟨vm₁, cA, comp, -, fA, fC, hO, -, X', step⟩ := Xs.multianewarray2F (ty := .int) hE.1 hE.2.2.2.1 (hE.2.2.2.2.1 _ hcl) (show (Cond.arrayOver (.array .int)).before args s = true from (hE.2.2.2.2.2.2.2.2.2.2 h00).1) (hE.2.2.2.2.1 _ har) (g := F0 m pc ls (.int k :: .int n :: rest)) rfl (by rw [hE.2.1]; exact hd) rfl hn hk hb1 hb2 (by omega) rfl rfl hcells hslots
  have hYA : cA = Y 4 := Option.some.inj (fA.symm.trans (hE.2.2.2.2.2.2.1.2 4 _ rfl).2)
  have hYC : comp = Y 0 := Option.some.inj (fC.symm.trans (hE.2.2.2.2.2.2.1.2 0 _ rfl).2)
  subst hYA
  subst hYC
  generalize hF : Jvm.Free.Multi.fill (T.setVm vm₁) (Y 4) (Y 0) n.toNatClampNeg k.toNatClampNeg (defaultValue .int) n.toNatClampNeg = F at X' step
  have hTh : (T.setVm vm₁).heap = H := hT
  obtain ⟨f1, f2, -, -⟩ := Jvm.Free.Multi.fill_facts (T.setVm vm₁) (Y 4) (Y 0) n.toNatClampNeg k.toNatClampNeg (defaultValue .int) n.toNatClampNeg
  rw [hF, hTh] at f1 f2
  have hold : ∀ x : Nat, x < H.size → F.heap[x]? = H[x]? := fun x hx => by
    have := Jvm.Free.Multi.fill_old (T.setVm vm₁) (Y 4) (Y 0) n.toNatClampNeg k.toNatClampNeg (defaultValue .int) (a := x) (by rw [hTh]; exact hx) n.toNatClampNeg
    rw [hF, hTh] at this
    exact this
  have hrow : ∀ j : Nat, j < n.toNatClampNeg → F.heap[H.size + 1 + j]? = some (arrV (Y 0) k.toNatClampNeg (fun _ => .int 0)) := fun j hj => by
    have := Jvm.Free.Multi.fill_inner (T.setVm vm₁) (Y 4) (Y 0) n.toNatClampNeg k.toNatClampNeg (defaultValue .int) n.toNatClampNeg j hj
    rw [hF, hTh] at this
    rw [this, ← arrV_new]
    rfl
  rw [outer_arr] at f2
  have h20 := hnp.2
  have hσ : ∀ i : Nat, np + i ≤ 20 → σ (np + i) = σ np + i := by
    intro i
    induction i with
    | zero => intro _; rfl
    | succ i ih => intro hi; rw [← Nat.add_assoc, (hE.2.2.2.2.2.2.2.1.2.2 (np + i) (by omega)).1 (ph_t (by omega) (by omega)), ih (by omega)]; omega
  have hP1 : va_P D cl0 (Wk Y σ (kum κ np n.toNatClampNeg k.toNatClampNeg) (np + (1 + n.toNatClampNeg)) (upz cm np (1 + n.toNatClampNeg)) (upz8 dm np (1 + n.toNatClampNeg))) F.heap := by
    intro i q hq
    have hi : i < np + (1 + n.toNatClampNeg) := by
      have := (List.getElem?_eq_some_iff.mp hq).1
      rwa [wk_len, ix_lo h20] at this
    rw [wk_lo hi h20] at hq
    cases hq
    by_cases h1 : i < np
    · have h2 := hP i _ (wk_lo h1 (by omega))
      rw [kum_old h1, show upz cm np (1 + n.toNatClampNeg) i = cm i from if_neg (by omega), show upz8 dm np (1 + n.toNatClampNeg) i = dm i from if_neg (by omega)]
      exact h2.kept (hold _ h2.lt)
    · rw [show upz cm np (1 + n.toNatClampNeg) i = fun _ => 0 from if_pos (by omega), show upz8 dm np (1 + n.toNatClampNeg) i = fun _ => 0 from if_pos (by omega)]
      by_cases h2 : i = np
      · subst h2
        rw [kum_eq]
        show F.heap[σ i]? = some (vp_cell (Y 4) (n.toNatClampNeg, .inr (.inr (.inr (.inr (fun j => some (σ (i + 1 + j))))))))
        rw [← hz, f2, vp_cell_q]
        refine congrArg some ?_
        unfold arrV
        congr 1
        apply Array.ext_getElem?
        intro j
        simp only [Array.getElem?_ofFn]
        by_cases hj : j < n.toNatClampNeg
        · simp only [hj, dite_true, if_true]
          rw [Nat.add_assoc i 1 j, hσ (1 + j) (by omega), ← hz, Nat.add_assoc]
          rfl
        · simp only [hj, dite_false]
      · have h3 : np < i ∧ i ≤ np + n.toNatClampNeg := by omega
        rw [show kum κ np n.toNatClampNeg k.toNatClampNeg i = (100, k.toNatClampNeg, []) by unfold kum; rw [if_neg h2, if_pos h3]]
        show F.heap[σ i]? = some (vp_cell (Y 0) (k.toNatClampNeg, .inl (fun _ => 0)))
        rw [vp_cell_i]
        have h4 := hrow (i - np - 1) (by omega)
        rw [hz] at h4
        rw [show σ i = σ np + 1 + (i - np - 1) by rw [show i = np + (i - np) by omega, hσ _ (by omega)]; omega]
        exact h4
  obtain ⟨t, a1, b1⟩ := kk F.heap locs ls hP1 (by rw [f1, hz, hσ _ h20]; omega) ⟨by rw [f1]; have := hS.1; omega, fun x h1 h2 => (hold x (Nat.lt_of_lt_of_le h1 hS.1)).trans (hS.2.1 x h1 h2), hS.2.2⟩ hl F rfl (by rw [← Nat.add_assoc, ← Nat.add_assoc]; exact X')
  refine ⟨t, step t ?_, b1⟩
  have e : T.heap.size = σ np := by rw [hT]; exact hz
  rw [e]
  exact a1
theorem k_anew (hE : EOKk p s m args meth c cc nL own Y D σ n0 b0) (h00 : n0 = 0) {index : Nat} (N' : Nat) (hnp : n0 ≤ np ∧ ph np = false) (hcl : Cond.classLink own index "SettlerColony$Statute" ∈ lw_g) {n : Int32} (hn : ¬ n < 0) (hN : n.toNatClampNeg = N') (hb1 : N' * 4 ≤ 536870912) (hcells : cells + 1 ≤ R.cells) (hslots : slots + N' ≤ R.slots) (hd : decode cc pc = .ok (.anewarray index, 3))
    (kk : Xk p l e R s m args below meth c nL Y D σ (ku κ np (105, N', [])) (np + 1) b0 (cells + 1) (slots + N') Q (pc + 3) L (.ref (σ np) :: rest) (up cm np (fun _ => 0)) (upd8 dm np (fun _ => 0))) : Xk p l e R s m args below meth c nL Y D σ κ np b0 cells slots Q pc L (.int n :: rest) cm dm := by
  intro H locs ls hP hz hS hl
  subst hN
  refine W.anew hE.1 hE.2.1 hE.2.2.2.1 (hE.2.2.2.2.1 _ hcl) (show (Cond.arrayOver (.object "SettlerColony$Statute")).before args s = true from (hE.2.2.2.2.2.2.2.2.2.2 h00).2) rfl hd rfl hn hb1 hcells hslots fun cA kA comp f1 f2 f3 f4 => ?_
  have hcy : cA = Y 5 := by
    obtain ⟨-, _, _, -, -, -, h2⟩ := hE.2.2.2.2.2.2.1.2 5 _ rfl
    exact Option.some.inj (f1.symm.trans h2)
  subst hcy
  generalize hH1 : H.push ({ cls := Y 5, slots := Array.replicate n.toNatClampNeg .null, vm := .none } : Cell) = H1
  have z1 : H1.size = H.size + 1 := by rw [← hH1, Array.size_push]
  have e1 : H1[H.size]? = some (arrV (Y 5) n.toNatClampNeg (fun _ => .null)) := by rw [← hH1, Array.getElem?_push_size, ← arrV_new]
  have o1 : ∀ q : Nat, q < H.size → H1[q]? = H[q]? := fun q hq => by rw [← hH1, Array.getElem?_push, if_neg (Nat.ne_of_lt hq)]
  rw [hz] at e1
  have hk0 : kM Y σ (105, n.toNatClampNeg, []) np (fun _ => 0) (fun _ => 0) = .inl (Y 5, n.toNatClampNeg, .inr (.inr (.inr (.inr (fun _ => none))))) := rfl
  show W p l e R s m args below meth c H1 locs (cells + 1) (slots + n.toNatClampNeg) Q (F0 m (pc + 3) ls (.ref H.size :: rest))
  rw [hz]
  refine kk H1 locs ls ?_ ((z1.trans (by rw [hz])).trans ((hE.2.2.2.2.2.2.2.1.2.2 np hnp.1).1 hnp.2).symm) ⟨Nat.le_trans hS.1 (by omega), fun x h1 h2 => (o1 x (Nat.lt_of_lt_of_le h1 hS.1)).trans (hS.2.1 x h1 h2), hS.2.2⟩ hl
  rw [wk_push (κ := κ) (κ' := ku κ np (105, n.toNatClampNeg, [])) (c := cm) (c' := up cm np (fun _ => 0)) (d := dm) (d' := upd8 dm np (fun _ => 0)) hnp.2 (fun i hi => ⟨if_neg (by omega), if_neg (by omega), if_neg (by omega)⟩)]
  refine (hP.kept (fun k x hx => o1 x.1 ((hP k x hx).lt))).app (fun k x hx => ?_)
  have hz0 : k < 1 := (List.getElem?_eq_some_iff.mp hx).1
  rw [show k = 0 by omega] at hx
  cases hx
  rw [show ku κ np (105, n.toNatClampNeg, []) np = (105, n.toNatClampNeg, []) from if_pos rfl, show up cm np (fun _ => 0) np = fun _ => 0 from if_pos rfl, show upd8 dm np (fun _ => 0) np = fun _ => 0 from if_pos rfl, hk0]
  show H1[σ np]? = some (vp_cell _ _)
  rw [vp_cell_q]
  exact e1
/-- a number that no cell bears is passed over -/
theorem k_skip (hE : EOKk p s m args meth c cc nL own Y D σ n0 b0) (np1 : Nat) (e1 : np + 1 = np1) (hnp : n0 ≤ np ∧ ph np = true) (kk : Xk p l e R s m args below meth c nL Y D σ κ np1 b0 cells slots Q pc L rest cm dm) : Xk p l e R s m args below meth c nL Y D σ κ np b0 cells slots Q pc L rest cm dm := by
  subst e1
  intro H locs ls hP hz hS hl
  exact kk H locs ls (by rw [wk_skip hnp.2]; exact hP) (hz.trans ((hE.2.2.2.2.2.2.2.1.2.2 np hnp.1).2 hnp.2).symm) hS hl
/-! rows of a making at fixed places: the table of stage n, blank memory behind -/
def Bl (np : Nat) (c : Mc) : Prop := ∀ k, np ≤ k → c k = fun _ => 0
theorem Bl.mono {a b : Nat} {c : Mc} (h : Bl a c) (hab : a ≤ b) : Bl b c := fun k hk => h k (Nat.le_trans hab hk)
theorem bl_wr {a : Nat} {c : Mc} (h : Bl a c) {k i : Nat} {v : Int32} (hk : k < a) : Bl a (wr c k i v) := by
  intro q hq
  funext j
  have h1 : ¬ (q = k ∧ j = i) := fun e => by omega
  show (if q = k ∧ j = i then v else c q j) = 0
  rw [if_neg h1, h q hq]
theorem bl_up {a : Nat} {c : Mc} (h : Bl a c) {k : Nat} {f : Nat → Int32} (hk : k < a) : Bl a (up c k f) := by
  intro q hq
  show (if q = k then f else c q) = _
  rw [if_neg (by omega), h q hq]
theorem bl_fil {a : Nat} {c : Mc} (h : Bl a c) {k n : Nat} {v : Int32} (hk : k < a) : Bl a (fil c k n v) := bl_up h hk
theorem bl_z {a : Nat} : Bl a (fun _ _ => 0) := fun _ _ => rfl
theorem bl_eq {a : Nat} {c : Mc} (h : Bl a c) : up c a (fun _ => 0) = c := by
  funext q
  show (if q = a then (fun _ => 0) else c q) = c q
  by_cases hq : q = a
  · rw [if_pos hq, h q (by omega)]
  · rw [if_neg hq]
def z8 : Md := fun _ _ => 0
theorem z8_eq {a : Nat} : upd8 z8 a (fun _ => 0) = z8 := by
  funext q
  show (if q = a then (fun _ => 0) else z8 q) = z8 q
  by_cases hq : q = a
  · rw [if_pos hq]; rfl
  · rw [if_neg hq]
theorem bl_eqz {a n : Nat} {c : Mc} (h : Bl a c) : upz c a n = c := by
  funext q
  show (if a ≤ q ∧ q < a + n then (fun _ => 0) else c q) = c q
  by_cases hq : a ≤ q ∧ q < a + n
  · rw [if_pos hq, h q hq.1]
  · rw [if_neg hq]
theorem z8_eqz {a n : Nat} : upz8 z8 a n = z8 := by
  funext q
  show (if a ≤ q ∧ q < a + n then (fun _ => 0) else z8 q) = z8 q
  by_cases hq : a ≤ q ∧ q < a + n
  · rw [if_pos hq]; rfl
  · rw [if_neg hq]
theorem ku_self {κ : Nat → xK} {k : Nat} {t : xK} (h : κ k = t) : ku κ k t = κ := by
  funext a
  unfold ku
  by_cases ha : a = k
  · rw [if_pos ha, ha, h]
  · rw [if_neg ha]
theorem kum_self {κ : Nat → xK} {np n m : Nat} (h : κ np = (104, n, [])) (h2 : ∀ a, a < np + n + 1 → np < a → κ a = (100, m, [])) : kum κ np n m = κ := by
  funext a
  unfold kum
  by_cases ha : a = np
  · rw [if_pos ha, ha, h]
  · rw [if_neg ha]
    by_cases hb : np < a ∧ a ≤ np + n
    · rw [if_pos hb, h2 a (by omega) hb.1]
    · rw [if_neg hb]
def kN (k : Nat) : xK := if (kd k).1 < 100 then (200 + (kd k).1, 0, (kd k).2.2.map (fun t => if t < 2 then t else 2)) else kd k
def kS (ev : List (Nat × Nat × Nat)) (n : Nat) : Nat → xK := fun k => ((kN k).1, (kN k).2.1, (ev.take n).foldl (fun l e => if e.1 = k then l.set e.2.1 e.2.2 else l) (kN k).2.2)
theorem kS_succ {ev : List (Nat × Nat × Nat)} {n k j t ci : Nat} {lk : List Nat} (he : ev[n]? = some (k, j, t)) (hk : kS ev n k = (200 + ci, 0, lk)) : ku (kS ev n) k (200 + ci, 0, lk.set j t) = kS ev (n + 1) := by
  funext a
  unfold ku
  by_cases h : a = k
  · subst h
    rw [if_pos rfl]
    unfold kS at hk ⊢
    rw [List.take_succ, he, Option.toList_some, List.foldl_append]
    simp only [Prod.mk.injEq] at hk
    rw [hk.2.2, hk.1, hk.2.1]
    simp
  · rw [if_neg h]
    unfold kS
    rw [List.take_succ, he, Option.toList_some, List.foldl_append]
    simp [Ne.symm h]
theorem k_putS {ev : List (Nat × Nat × Nat)} {st : Nat} (hE : EOKk p s m args meth c cc nL own Y D σ n0 b0) {C : String} {T : u_T} {N ci k index : Nat} {ty0 : Nat → FieldType} {lk : List Nat} (hc : CLok ci C T N ty0) (j t' : Nat) (v : Value) (hk : Kn k np ∧ kS ev st k = (200 + ci, 0, lk)) (he : ev[st]? = some (k, j, t')) (hj : j < lk.length) (hjN : j < N) (hw : Cond.fieldLink own index (T j).1 (T j).2.1 (T j).2.2.1 ∈ lw_g) (hv : kGV σ (cm k) (dm k) j t' = v)
    (hfin : (T j).2.2.2 = false ∨ ((T j).2.2.2 = true ∧ meth.name = "<init>" ∧ (T j).1 = own)) (hn : narrow (ty0 j) v = v) (hfit : fits (ty0 j) v = true) (hd : decode cc pc = .ok (.putfield index, 3)) (kk : Xk p l e R s m args below meth c nL Y D σ (kS ev (st + 1)) np b0 cells slots Q (pc + 3) L rest cm dm) : Xk p l e R s m args below meth c nL Y D σ (kS ev st) np b0 cells slots Q pc L (v :: .ref (σ k) :: rest) cm dm :=
  k_put hE _ hc hk j t' v cm rfl hj hjN hw hv (fun _ _ _ => rfl) hfin (hc.2.2.1 j hjN) hn hfit hd (by rw [kS_succ he hk.2]; exact kk)
theorem k_putI (hE : EOKk p s m args meth c cc nL own Y D σ n0 b0) {C : String} {T : u_T} {N ci k index : Nat} {ty0 : Nat → FieldType} {lk : List Nat} (hc : CLok ci C T N ty0) (j : Nat) (x : Int32) (hk : Kn k np ∧ κ k = (200 + ci, 0, lk)) (hj0 : lk[j]? = some 0) (hjN : j < N) (hw : Cond.fieldLink own index (T j).1 (T j).2.1 (T j).2.2.1 ∈ lw_g)
    (hfin : (T j).2.2.2 = false ∨ ((T j).2.2.2 = true ∧ meth.name = "<init>" ∧ (T j).1 = own)) (hn : narrow (ty0 j) (.int x) = .int x) (hfit : fits (ty0 j) (.int x) = true) (hd : decode cc pc = .ok (.putfield index, 3)) (kk : Xk p l e R s m args below meth c nL Y D σ κ np b0 cells slots Q (pc + 3) L rest (wr cm k j x) dm) : Xk p l e R s m args below meth c nL Y D σ κ np b0 cells slots Q pc L (.int x :: .ref (σ k) :: rest) cm dm := by
  have hlk : lk.set j 0 = lk := by
    obtain ⟨h1, h2⟩ := List.getElem?_eq_some_iff.mp hj0
    rw [← h2]
    exact List.set_getElem_self h1
  refine k_put hE lk hc hk j 0 (.int x) (wr cm k j x) hlk (List.getElem?_eq_some_iff.mp hj0).1 hjN hw ?_ ?_ hfin (hc.2.2.1 j hjN) hn hfit hd (by rw [ku_self hk.2]; exact kk)
  · show Value.int (if k = k ∧ j = j then x else cm k j) = _
    rw [if_pos ⟨rfl, rfl⟩]
  · intro a i h
    show (if a = k ∧ i = j then x else cm a i) = _
    rw [if_neg (fun q => h.elim (fun h => h q.1) (fun h => h q.2))]
theorem k_newS (hE : EOKk p s m args meth c cc nL own Y D σ n0 b0) {C : String} {T : u_T} {N ci index : Nat} {ty0 : Nat → FieldType} (lk : List Nat) (np1 c1 s1 : Nat) (e1 : np + 1 = np1) (e2 : cells + 1 = c1) (e3 : slots + N = s1) (hb : Bl np cm) (hκ : κ np = (200 + ci, 0, lk)) (hc : CLok ci C T N ty0) (hnp : n0 ≤ np ∧ ph np = false) (hcl : Cond.classLink own index C ∈ lw_g) (hins : Cond.instantiable C N ∈ lw_g) (hini : Cond.initialized C ∈ lw_g)
    (hlk : lk.length = N) (hdv : ∀ j t, lk[j]? = some t → defaultValue (ty0 j) = kGV σ (fun _ => 0) (fun _ => 0) j t) (hcells : c1 ≤ R.cells) (hslots : s1 ≤ R.slots) (hd : decode cc pc = .ok (.new index, 3))
    (kk : Xk p l e R s m args below meth c nL Y D σ κ np1 b0 c1 s1 Q (pc + 3) L (.ref (σ np) :: rest) cm z8) : Xk p l e R s m args below meth c nL Y D σ κ np b0 cells slots Q pc L rest cm z8 := by
  subst e1 e2 e3
  exact k_new hE lk hc hnp hcl hins hini hlk hdv hcells hslots hd (by rw [ku_self hκ, bl_eq hb, z8_eq]; exact kk)
theorem k_nI (hE : EOKk p s m args meth c cc nL own Y D σ n0 b0) (N' np1 c1 s1 : Nat) (e1 : np + 1 = np1) (e2 : cells + 1 = c1) (e3 : slots + N' = s1) (hb : Bl np cm) (hκ : κ np = (100, N', [])) (hnp : n0 ≤ np ∧ ph np = false) (hw : Cond.arrayClass .int ∈ lw_g) {n : Int32} (hn : ¬ n < 0) (hN : n.toNatClampNeg = N') (hbytes : N' * 4 ≤ 536870912) (hcells : c1 ≤ R.cells) (hslots : s1 ≤ R.slots) (hd : decode cc pc = .ok (.newarray .int, 2))
    (kk : Xk p l e R s m args below meth c nL Y D σ κ np1 b0 c1 s1 Q (pc + 2) L (.ref (σ np) :: rest) cm z8) : Xk p l e R s m args below meth c nL Y D σ κ np b0 cells slots Q pc L (.int n :: rest) cm z8 := by
  subst e1 e2 e3
  exact k_newa hE (atype := .int) (ty := .int) 100 0 N' (a0 := (N', .inl (fun _ => 0))) hnp hw rfl rfl rfl (fun _ => rfl) rfl hn hN hbytes hcells hslots hd (by rw [ku_self hκ, bl_eq hb, z8_eq]; exact kk)
theorem k_nZ (hE : EOKk p s m args meth c cc nL own Y D σ n0 b0) (N' np1 c1 s1 : Nat) (e1 : np + 1 = np1) (e2 : cells + 1 = c1) (e3 : slots + N' = s1) (hb : Bl np cm) (hκ : κ np = (101, N', [])) (hnp : n0 ≤ np ∧ ph np = false) (hw : Cond.arrayClass .boolean ∈ lw_g) {n : Int32} (hn : ¬ n < 0) (hN : n.toNatClampNeg = N') (hbytes : N' * 1 ≤ 536870912) (hcells : c1 ≤ R.cells) (hslots : s1 ≤ R.slots) (hd : decode cc pc = .ok (.newarray .boolean, 2))
    (kk : Xk p l e R s m args below meth c nL Y D σ κ np1 b0 c1 s1 Q (pc + 2) L (.ref (σ np) :: rest) cm z8) : Xk p l e R s m args below meth c nL Y D σ κ np b0 cells slots Q pc L (.int n :: rest) cm z8 := by
  subst e1 e2 e3
  exact k_newa hE (atype := .boolean) (ty := .boolean) 101 1 N' (a0 := (N', .inl (fun _ => 0))) hnp hw rfl rfl rfl (fun _ => rfl) rfl hn hN hbytes hcells hslots hd (by rw [ku_self hκ, bl_eq hb, z8_eq]; exact kk)
theorem k_nB (hE : EOKk p s m args meth c cc nL own Y D σ n0 b0) (N' np1 c1 s1 : Nat) (e1 : np + 1 = np1) (e2 : cells + 1 = c1) (e3 : slots + N' = s1) (hb : Bl np cm) (hκ : κ np = (102, N', [])) (hnp : n0 ≤ np ∧ ph np = false) (hw : Cond.arrayClass .byte ∈ lw_g) {n : Int32} (hn : ¬ n < 0) (hN : n.toNatClampNeg = N') (hbytes : N' * 1 ≤ 536870912) (hcells : c1 ≤ R.cells) (hslots : s1 ≤ R.slots) (hd : decode cc pc = .ok (.newarray .byte, 2))
    (kk : Xk p l e R s m args below meth c nL Y D σ κ np1 b0 c1 s1 Q (pc + 2) L (.ref (σ np) :: rest) cm z8) : Xk p l e R s m args below meth c nL Y D σ κ np b0 cells slots Q pc L (.int n :: rest) cm z8 := by
  subst e1 e2 e3
  exact k_newa hE (atype := .byte) (ty := .byte) 102 2 N' (a0 := (N', .inl (fun _ => 0))) hnp hw rfl rfl rfl (fun _ => rfl) rfl hn hN hbytes hcells hslots hd (by rw [ku_self hκ, bl_eq hb, z8_eq]; exact kk)
theorem k_nL (hE : EOKk p s m args meth c cc nL own Y D σ n0 b0) (N' np1 c1 s1 : Nat) (e1 : np + 1 = np1) (e2 : cells + 1 = c1) (e3 : slots + N' = s1) (hb : Bl np cm) (hκ : κ np = (103, N', [])) (hnp : n0 ≤ np ∧ ph np = false) (hw : Cond.arrayClass .long ∈ lw_g) {n : Int32} (hn : ¬ n < 0) (hN : n.toNatClampNeg = N') (hbytes : N' * 8 ≤ 536870912) (hcells : c1 ≤ R.cells) (hslots : s1 ≤ R.slots) (hd : decode cc pc = .ok (.newarray .long, 2))
    (kk : Xk p l e R s m args below meth c nL Y D σ κ np1 b0 c1 s1 Q (pc + 2) L (.ref (σ np) :: rest) cm z8) : Xk p l e R s m args below meth c nL Y D σ κ np b0 cells slots Q pc L (.int n :: rest) cm z8 := by
  subst e1 e2 e3
  exact k_newa hE (atype := .long) (ty := .long) 103 3 N' (a0 := (N', .inr (.inl (fun _ => 0)))) hnp hw rfl rfl rfl (fun _ => rfl) rfl hn hN hbytes hcells hslots hd (by rw [ku_self hκ, bl_eq hb, z8_eq]; exact kk)
theorem k_nA (hE : EOKk p s m args meth c cc nL own Y D σ n0 b0) (h00 : n0 = 0) {index : Nat} (N' np1 c1 s1 : Nat) (e1 : np + 1 = np1) (e2 : cells + 1 = c1) (e3 : slots + N' = s1) (hb : Bl np cm) (hκ : κ np = (105, N', [])) (hnp : n0 ≤ np ∧ ph np = false) (hcl : Cond.classLink own index "SettlerColony$Statute" ∈ lw_g) {n : Int32} (hn : ¬ n < 0) (hN : n.toNatClampNeg = N') (hbytes : N' * 4 ≤ 536870912) (hcells : c1 ≤ R.cells) (hslots : s1 ≤ R.slots) (hd : decode cc pc = .ok (.anewarray index, 3))
    (kk : Xk p l e R s m args below meth c nL Y D σ κ np1 b0 c1 s1 Q (pc + 3) L (.ref (σ np) :: rest) cm z8) : Xk p l e R s m args below meth c nL Y D σ κ np b0 cells slots Q pc L (.int n :: rest) cm z8 := by
  subst e1 e2 e3
  exact k_anew hE h00 N' hnp hcl hn hN hbytes hcells hslots hd (by rw [ku_self hκ, bl_eq hb, z8_eq]; exact kk)
theorem k_nM (hE : EOKk p s m args meth c cc nL own Y D σ n0 b0) (h00 : n0 = 0) {index : Nat} (N' K' np1 c1 s1 : Nat) (e1 : np + (1 + N') = np1) (e2 : cells + (1 + N') = c1) (e3 : slots + (N' + N' * K') = s1) (hb : Bl np cm) (hκ : κ np = (104, N', [])) (hκ2 : ∀ a, a < np + N' + 1 → np < a → κ a = (100, K', [])) (hnp : n0 ≤ np ∧ np + (1 + N') ≤ 20) (hcl : Cond.classLink own index "[[I" ∈ lw_g) (har : Cond.arrayClass .int ∈ lw_g) {n k : Int32} (hn : ¬ n < 0) (hk : ¬ k < 0) (hN : n.toNatClampNeg = N') (hM : k.toNatClampNeg = K') (hb1 : N' * 4 ≤ 536870912) (hb2 : K' * 4 ≤ 536870912) (hcells : c1 ≤ R.cells) (hslots : s1 ≤ R.slots) (hd : decode cc pc = .ok (.multianewarray index 2, 4))
    (kk : Xk p l e R s m args below meth c nL Y D σ κ np1 b0 c1 s1 Q (pc + 4) L (.ref (σ np) :: rest) cm z8) : Xk p l e R s m args below meth c nL Y D σ κ np b0 cells slots Q pc L (.int k :: .int n :: rest) cm z8 := by
  subst e1 e2 e3
  exact k_newm hE h00 N' K' hnp hcl har hn hk hN hM hb1 hb2 hcells hslots hd (by rw [kum_self hκ hκ2, bl_eqz hb, z8_eqz]; exact kk)
theorem k_iastD (hE : EOKk p s m args meth c cc nL own Y D σ n0 b0) {k n : Nat} (J : Nat) {i x : Int32} (hk : Kn k np ∧ κ k = (100, n, [])) (hi : ¬ i < 0 ∧ i.toNatClampNeg = J) (hJ : J < n) (hd : decode cc pc = .ok (.iastore, 1)) (kk : Xk p l e R s m args below meth c nL Y D σ κ np b0 cells slots Q (pc + 1) L rest (wr cm k J x) dm) : Xk p l e R s m args below meth c nL Y D σ κ np b0 cells slots Q pc L (.int x :: .int i :: .ref (σ k) :: rest) cm dm := by
  refine k_iast (β := Mc) (r := wr cm k J x) (f := some) hE hk hd ?_ (fun c1 h => ?_)
  · unfold chk lt
    rw [if_neg (fun q => q.elim hi.1 (fun q => by rw [hi.2] at q; omega)), hi.2]
  · cases h
    exact kk
theorem k_geT (hE : EOKk p s m args meth c cc nL own Y D σ n0 b0) {x y : Int32} {off : Int} (tgt : Nat) (hd : decode cc pc = .ok (.if_icmp .ge off, 3)) (ht : (pc : Int) + off = (tgt : Int)) (h : y ≤ x) (kk : Xk p l e R s m args below meth c nL Y D σ κ np b0 cells slots Q tgt L rest cm dm) : Xk p l e R s m args below meth c nL Y D σ κ np b0 cells slots Q pc L (.int y :: .int x :: rest) cm dm :=
  k_icmp_ge (β := Unit) (r := ()) (A := some ()) (B := none) hE tgt hd ht (if_pos h) (fun _ => kk) (fun h => nomatch h)
theorem k_geF (hE : EOKk p s m args meth c cc nL own Y D σ n0 b0) {x y : Int32} {off : Int} (tgt : Nat) (hd : decode cc pc = .ok (.if_icmp .ge off, 3)) (ht : (pc : Int) + off = (tgt : Int)) (h : ¬ y ≤ x) (kk : Xk p l e R s m args below meth c nL Y D σ κ np b0 cells slots Q (pc + 3) L rest cm dm) : Xk p l e R s m args below meth c nL Y D σ κ np b0 cells slots Q pc L (.int y :: .int x :: rest) cm dm :=
  k_icmp_ge (β := Unit) (r := ()) (A := none) (B := some ()) hE tgt hd ht (if_neg h) (fun h => nomatch h) (fun _ => kk)
theorem fil_z {c : Mc} {k : Nat} {v : Int32} : fil c k 0 v = c := by
  funext a
  show (if a = k then (fun j => if j < 0 then v else c k j) else c a) = c a
  by_cases h : a = k
  · rw [if_pos h, h]
    rfl
  · rw [if_neg h]
theorem fil_s {c : Mc} {k n : Nat} {v : Int32} : wr (fil c k n v) k n v = fil c k (n + 1) v := by
  funext a j
  show (if a = k ∧ j = n then v else (if a = k then (fun j => if j < n then v else c k j) else c a) j) = (if a = k then (fun j => if j < n + 1 then v else c k j) else c a) j
  by_cases h : a = k
  · subst h
    rw [if_pos rfl, if_pos rfl]
    by_cases h1 : j = n
    · rw [if_pos ⟨rfl, h1⟩]
      show v = if j < n + 1 then v else _
      rw [if_pos (by omega)]
    · rw [if_neg (fun q => h1 q.2)]
      show (if j < n then v else _) = if j < n + 1 then v else _
      by_cases h2 : j < n
      · rw [if_pos h2, if_pos (by omega)]
      · rw [if_neg h2, if_neg (by omega)]
  · rw [if_neg (fun q => h q.1), if_neg h, if_neg h]
theorem nI96 : ∀ I : Nat, I < 96 → ¬ nI 96 ≤ nI I ∧ nI I + nI 1 = nI (I + 1) ∧ ¬ nI I < 0 ∧ (nI I).toNatClampNeg = I := by decide +kernel
end XKR
