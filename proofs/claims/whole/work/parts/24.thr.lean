def xE (k : Nat) : String := if k = 1 then "java/lang/IndexOutOfBoundsException" else if k = 2 then "java/lang/IllegalArgumentException" else "java/lang/IllegalStateException"
/-- a result that is an answer or an exception: 1 an index, 2 an argument, 3 a state -/
def QX {α : Type} (q : α → Array Value → State → Outcome → State → Prop) (r : Nat ⊕ α) : Array Value → State → Outcome → State → Prop := fun a st o t => ∃ x, r = .inr x ∧ q x a st o t
def XX {α : Type} (Y : Nat → ClassId) (D : va_G) (σ : Nat → Nat) (np b0 : Nat) (M : Mc) (N : Md) (r : Nat ⊕ α) : String → State → State → Prop := fun E st t => ∃ k, r = .inl k ∧ E = xE k ∧ va_P D cl0 (Wl Y σ np M N) t.heap ∧ Bk np M ∧ va_F (xA b0) st t
theorem bnx_some {α β : Type} {x : Option (Nat ⊕ α)} {f : α → Option (Nat ⊕ β)} {r : Nat ⊕ β} (h : bnx x f = some r) : ∃ y : Nat ⊕ α, x = some y ∧ ((∃ k, y = .inl k ∧ r = .inl k) ∨ ∃ a, y = .inr a ∧ f a = some r) := by
  match x, h with
  | none, h => cases h
  | some (.inl k), h => exact ⟨_, rfl, Or.inl ⟨k, rfl, (Option.some.inj h).symm⟩⟩
  | some (.inr a), h => exact ⟨_, rfl, Or.inr ⟨a, rfl, h⟩⟩
def rmX (d k : Nat) : Room := { frames := d, cells := k, slots := 6 * k, locals := 64 * d }
theorem at_of {L : List Cond} (h : L.all (fun w => decide (w ∈ lw_tbl) && (goodWord w || isNw w)) = true) : ∀ w ∈ L, w ∈ lw_g ∨ w ∈ lw_nw := by
  intro w hw
  have h1 := List.all_eq_true.mp h w hw
  rw [Bool.and_eq_true, Bool.or_eq_true, decide_eq_true_eq] at h1
  rcases h1.2 with h2 | h2
  · exact Or.inl (List.mem_filter.mpr ⟨h1.1, h2⟩)
  · exact Or.inr (List.mem_filter.mpr ⟨h1.1, h2⟩)
section XT
variable {p : Program} {l : Launch} {e : Env} {R : Room} {s : State} {m : MethodId} {args : Array Value} {below : List Frame} {meth : Method} {c : Code} {nL : Nat} {Y : Nat → ClassId} {D : va_G} {σ : Nat → Nat} {np b0 cells slots : Nat} {Q : State → Prop} {pc : Nat} {L : List (Nat × Value)} {rest : List Value} {cm : Mc} {dm : Md} {cc : ByteArray} {own : String}
theorem x_vmet {α : Type} {y : MethodName} {maxL : Nat} {ret : Option FieldType} {av : List Value} {dp k : Nat} {q : α → Array Value → State → Outcome → State → Prop} {r : Nat ⊕ α} (hy : plainName y.cls = true) (hav : (lg_sl av).length ≤ maxL)
    (body : ∀ (p : Program) (e : Env) (s : State) (m : MethodId) (args : Array Value) (below : List Frame) (meth : Method) (c : Code), EOK p s m args meth c cc maxL y.cls Y D σ np b0 → meth.sig.returnType = ret → (∀ x ∈ c.exceptionTable.toList, False) →
      Xw p l e (rmX dp k) s m args below meth c maxL Y D σ np b0 0 0 (vx_MQ below (QX q r) (XX Y D σ np b0 cm dm r) args s k (6 * k) (xA b0)) 0 (lv_args 0 av) [] cm dm) :
    vx_Met l y (.code y cc maxL ret :: lw_g) (rmX dp k) (PR Y D σ np b0 av cm dm) (QX q r) (XX Y D σ np b0 cm dm r) k (6 * k) (xA b0) := by
  refine vx_ofW (cc := cc) (maxL := maxL) (ret := ret) hy rfl ?_
  intro p e s m args below meth c s₁ B hml hT hv
  obtain ⟨rfl, hP, hB, hK, hN, hσ, hb0, hnp, hxs⟩ := hv
  have hts := atoms_spec (ws := .code y cc maxL ret :: lw_g) B.pre
  have hE : EOK p s m av.toArray meth c cc maxL y.cls Y D σ np b0 := ⟨B.exec, B.bytes, hml, findClass_of_methodNamed B.named, fun w hw => hts w (List.mem_cons_of_mem _ hw), hN, hK, hσ, hb0, hnp, B.notSynchronized, hxs⟩
  rw [lg_entry_eq]
  exact body p e s m av.toArray below meth c hE B.returns hT s.heap [] _ hP va_S.rf hB (lv_entry av hav)
theorem x_wid {k n : Nat} (h1 : cells ≤ k) (h2 : slots ≤ n) (kk : Xw p l e R s m args below meth c nL Y D σ np b0 k n Q pc L rest cm dm) : Xw p l e R s m args below meth c nL Y D σ np b0 cells slots Q pc L rest cm dm := fun H locs ls hP hS hB hl => W.widen h1 h2 (kk H locs ls hP hS hB hl)
/-- an end with an answer -/
theorem x_xin {α : Type} {mc ms : Nat} (hc : cells ≤ mc) (hs : slots ≤ ms) {q : α → Array Value → State → Outcome → State → Prop} {x : α} {r : Nat ⊕ α} {XC : String → State → State → Prop} (hr : some (Sum.inr x) = some r)
    (kk : Xw p l e R s m args below meth c nL Y D σ np b0 mc ms (MQ below (q x) args s mc ms (xA b0)) pc L rest cm dm) : Xw p l e R s m args below meth c nL Y D σ np b0 cells slots (vx_MQ below (QX q r) XC args s mc ms (xA b0)) pc L rest cm dm := by
  intro H locs ls hP hS hB hl
  have hr := Option.some.inj hr
  subst hr
  refine W.widen hc hs (vx_ret (Qc := QX q (.inr x)) ?_)
  intro T hT X
  obtain ⟨t, a1, o, b1, b2, b3, b4⟩ := kk H locs ls hP hS hB hl T hT X
  exact ⟨t, a1, o, b1, b2, ⟨x, rfl, b3⟩, b4⟩
theorem x_throw (hE : EOK p s m args meth c cc nL own Y D σ np b0) (hT : ∀ x ∈ c.exceptionTable.toList, False) (hfl : l.stackTraces = false) {α : Type} {q : α → Array Value → State → Outcome → State → Prop} {r : Nat ⊕ α} {k ik ic mc ms : Nat} (names : List String)
    (hcls : Bundle.fit (xE k) = true) (hnames : ∀ n ∈ names, Bundle.fit n = true) (hk : Cond.classLink own ik (xE k) ∈ lw_g) (hini : Cond.initialized (xE k) ∈ lw_g) (hat : ∀ w ∈ vx_at0 own ic (xE k) names, w ∈ lw_g ∨ w ∈ lw_nw) (hgood : ∀ w ∈ Cond.classLink own ik (xE k) :: Cond.initialized (xE k) :: vx_at0 own ic (xE k) names, vx_ot w = true)
    (d0 : decode cc pc = .ok (.new ik, 3)) (d3 : decode cc (pc + 3) = .ok (.dup, 1)) (d4 : decode cc (pc + 4) = .ok (.invokespecial ic, 3)) (d7 : decode cc (pc + 7) = .ok (.athrow, 1))
    (hRf : names.length + 3 < R.frames) (hRl : 8 + (13 * (names.length + 1) + 42) ≤ R.locals) (hst : (rest.map fun v => v.category).sum ≤ 8) (hRc : cells + 1 ≤ R.cells) (hRs : slots + 6 ≤ R.slots) (hc : cells + 1 ≤ mc) (hs : slots + 6 ≤ ms) (hf : some (Sum.inl k) = some r) :
    Xw p l e R s m args below meth c nL Y D σ np b0 cells slots (vx_MQ below (QX q r) (XX Y D σ np b0 cm dm r) args s mc ms (xA b0)) pc L rest cm dm := by
  intro H locs ls hP hS hB hl
  have hf := Option.some.inj hf
  subst hf
  refine vx_throw0 (A := xA b0) (names := names) (ik := ik) (ic := ic) (cls := xE k) hE.1 hE.2.1 hfl hE.2.2.2.1 hcls hnames (hE.2.2.2.2.1 _ hk) (hE.2.2.2.2.1 _ hini) (fun w hw => (hat w hw).elim (fun h => hE.2.2.2.2.1 w h) (fun h => va_Nw.use (by have h1 := vx_otn h; exact h1) (hE.2.2.2.2.2.1 w h))) hgood hE.2.2.2.2.2.2.2.2.2.2.2.2.2.2.1 hE.2.2.2.2.2.2.2.2.2.2.2.2.2.2.2.1 hS (hl.1.trans hE.2.2.1.symm) d0 d3 d4 d7 (fun x hx => (hT x hx).elim) hRf (Nat.le_trans (Nat.add_le_add_right hst _) hRl) hRc hRs hE.2.2.2.2.2.2.2.2.2.2.1 (fun t hA hz ho => ?_) hS.2.2 hc hs
  refine ⟨k, rfl, rfl, ?_, hB, ?_⟩
  · exact hP.kept (fun j q hq => ho q.1 (hP j q hq).lt)
  · exact ⟨Nat.le_trans hS.1 hz, fun q h1 h2 => by rw [ho q (Nat.lt_of_lt_of_le h1 hS.1)]; exact hS.2.1 q h1 h2⟩
/-- behind a call that may throw: the answer goes on, the exception leaves -/
theorem x_retx {α β : Type} {qc : α → Array Value → State → Outcome → State → Prop} {q : β → Array Value → State → Outcome → State → Prop} {y : Nat ⊕ α} {r : Nat ⊕ β} {av : Array Value} {st0 : List Value} {kc mc ms : Nat} {H : Heap} {locs : List Loc} {ls : Array Slot} {M0 : Mc} {N0 : Md} (hE : EOK p s m args meth c cc nL own Y D σ np b0) (hT : ∀ x ∈ c.exceptionTable.toList, False)
    (hr : vx_Run p l e R s m args below meth c H locs cells slots kc (6 * kc) (F0 m pc ls st0) rest (QX qc y av) (XX Y D σ np b0 cm dm y) (xA b0)) (hS : va_S (xA b0) s.heap H locs) (hl : lv_has ls nL L)
    (hmem : cm = M0 ∧ dm = N0) (hc : cells + kc ≤ mc) (hs : slots + 6 * kc ≤ ms)
    (hy : (∃ k, y = .inl k ∧ r = .inl k) ∨ ∃ (a : α) (v : Option Value) (c1 : Mc) (d1 : Md), y = .inr a ∧ qc a = QR Y D σ np b0 v c1 d1 ∧ Xw p l e R s m args below meth c nL Y D σ np b0 (cells + kc) (slots + 6 * kc) (vx_MQ below (QX q r) (XX Y D σ np b0 M0 N0 r) args s mc ms (xA b0)) (pc + 3) L (v.toList ++ rest) c1 d1) :
    W p l e R s m args below meth c H locs cells slots (vx_MQ below (QX q r) (XX Y D σ np b0 M0 N0 r) args s mc ms (xA b0)) (F0 m pc ls st0) := by
  obtain ⟨rfl, rfl⟩ := hmem
  intro T hT2 X
  rcases hr T hT2 X with ⟨v', st₀, t, T', L', h0, X', hL, e1, e2, ⟨a', hy', hq⟩, st⟩ | ⟨qa, st₀, t, T', L', E, ce, h0, X', hL, e1, e2, ⟨k, hy', rfl, hp, hb, hz, hk⟩, hce, hcv, hcl, st⟩
  · rcases hy with ⟨k, rfl, -⟩ | ⟨a, v, c1, d1, rfl, hqc, kk⟩
    · cases hy'
    · cases hy'
      rw [hqc] at hq
      obtain ⟨hv, hp, hb, hz, hk⟩ := hq
      cases hv
      rw [h0] at hz hk
      have hS1 : va_S (xA b0) s.heap T'.heap (locs ++ L') := by
        refine ⟨Nat.le_trans hS.1 (by rw [e1]; exact hz), fun q h1 h2 => ?_, fun q hq => ?_⟩
        · rw [e1, hk q (Nat.lt_of_lt_of_le h1 hS.1) h2]
          exact hS.2.1 q h1 h2
        · rcases List.mem_append.mp hq with h | h
          · exact hS.2.2 q h
          · exact hL q h
      obtain ⟨t2, a1, b1⟩ := kk T'.heap (locs ++ L') ls (by rw [e1]; exact hp) hS1 hb hl T' rfl X'
      exact ⟨t2, st t2 a1, b1⟩
  · rcases hy with ⟨k', hk', rfl⟩ | ⟨a, v, c1, d1, hy2, -, -⟩
    · rw [hk'] at hy'
      cases hy'
      rw [h0] at hz hk
      have hS1 : va_S (xA b0) s.heap T'.heap (locs ++ L') := by
        refine ⟨Nat.le_trans hS.1 (by rw [e1]; exact hz), fun q h1 h2 => ?_, fun q hq => ?_⟩
        · rw [e1, hk q (Nat.lt_of_lt_of_le h1 hS.1) h2]
          exact hS.2.1 q h1 h2
        · rcases List.mem_append.mp hq with h | h
          · exact hS.2.2 q h
          · exact hL q h
      obtain ⟨t2, a1, b1⟩ := vx_out (Qc := QX q (.inl k)) (XC := XX Y D σ np b0 cm dm (.inl k : Nat ⊕ β)) (pc := pc) (ls := ls) (rest := rest) (mc := mc) (ms := ms) (free := xA b0) (H := T'.heap) (q := qa) (ce := ce) (E := xE k) (fun x hx => (hT x hx).elim) hE.2.2.2.2.2.2.2.2.2.2.1 (by rw [e1]; exact hce) hcv hcl (fun t2 ht2 hA => ⟨k, rfl, rfl, by rw [ht2, e1]; exact hp, hb, hS1.F ht2⟩) hS1.2.2 hc hs T' rfl X'
      exact ⟨t2, st.trans a1, b1⟩
    · rw [hy2] at hy'
      cases hy'

theorem x_callXV (hE : EOK p s m args meth c cc nL own Y D σ np b0) (hT : ∀ x ∈ c.exceptionTable.toList, False) {α β : Type} {qc : α → Array Value → State → Outcome → State → Prop} {q : β → Array Value → State → Outcome → State → Prop} {z : Nat ⊕ α} {r : Nat ⊕ β} {y : MethodName} {bytes : ByteArray} {maxL n index dq kc mc ms : Nat} {ret : Option FieldType} {M0 : Mc} {N0 : Md} {C : String} {T : u_T} {N ci k : Nat} {ty0 : Nat → FieldType} {lk : List Nat} (As : List Value) {st0 : List Value} (h0 : As.reverse ++ .ref (σ k) :: rest = st0)
    (hY : YOK y bytes maxL n ret) (hV : YV y) (hw : Cond.methodLink own index y ∈ lw_g) (hC : y.cls = C) (hc2 : CLok ci C T N ty0) (hk : k < np ∧ kd k = (ci, 0, lk)) (hci : ci < 100) (hR : (rmX dq kc).frames + 1 ≤ R.frames ∧ 8 + (maxL + 11) + (rmX dq kc).locals ≤ R.locals) (hcs : cells + kc ≤ R.cells ∧ slots + 6 * kc ≤ R.slots) (hn : As.length = n) (hst : (rest.map fun v => v.category).sum ≤ 8) (hd : decode cc pc = .ok (.invokevirtual index, 3))
    (hM : vx_Met l y (.code y bytes maxL ret :: lw_g) (rmX dq kc) (PR Y D σ np b0 (.ref (σ k) :: As) cm dm) (QX qc z) (XX Y D σ np b0 cm dm z) kc (6 * kc) (xA b0)) (hmem : cm = M0 ∧ dm = N0) (hc : cells + kc ≤ mc) (hs : slots + 6 * kc ≤ ms)
    (hy : (∃ k, z = .inl k ∧ r = .inl k) ∨ ∃ (a : α) (v : Option Value) (c1 : Mc) (d1 : Md), z = .inr a ∧ qc a = QR Y D σ np b0 v c1 d1 ∧ Xw p l e R s m args below meth c nL Y D σ np b0 (cells + kc) (slots + 6 * kc) (vx_MQ below (QX q r) (XX Y D σ np b0 M0 N0 r) args s mc ms (xA b0)) (pc + 3) L (v.toList ++ rest) c1 d1) :
    Xw p l e R s m args below meth c nL Y D σ np b0 cells slots (vx_MQ below (QX q r) (XX Y D σ np b0 M0 N0 r) args s mc ms (xA b0)) pc L st0 cm dm := by
  subst h0
  intro H locs ls hP hS hB hl
  subst hC
  refine x_retx hE hT (vx_runV (As := As) (rest := rest) (Ts := lw_g) ⟨hE.1, hE.2.1, hE.2.2.1, hE.2.2.2.1, hE.2.2.2.2.1⟩ hM ⟨cb_of hE hY hw rfl rfl hR, hE.2.2.2.2.1 _ hV.1, hE.2.2.2.2.1 _ hV.2⟩ ⟨pr_blind, x_recv hE hP hc2 hk hci, fun U hU hW => pr_of hE hP hS hB hU hW⟩ rfl hn hl.1 rfl ?_ hd hcs) hS hl hmem hc hs hy
  show 2 * 0 + _ ≤ 8
  rw [Nat.mul_zero, Nat.zero_add]
  exact hst
theorem x_callXS (hE : EOK p s m args meth c cc nL own Y D σ np b0) (hT : ∀ x ∈ c.exceptionTable.toList, False) {α β : Type} {qc : α → Array Value → State → Outcome → State → Prop} {q : β → Array Value → State → Outcome → State → Prop} {z : Nat ⊕ α} {r : Nat ⊕ β} {y : MethodName} {bytes : ByteArray} {maxL n index dq kc mc ms : Nat} {ret : Option FieldType} {M0 : Mc} {N0 : Md} (As : List Value) {st0 : List Value} (h0 : As.reverse ++ rest = st0)
    (hY : YOK y bytes maxL n ret) (hV : Cond.static y ∈ lw_g) (hw : Cond.methodLink own index y ∈ lw_g) (hR : (rmX dq kc).frames + 1 ≤ R.frames ∧ 8 + (maxL + 11) + (rmX dq kc).locals ≤ R.locals) (hcs : cells + kc ≤ R.cells ∧ slots + 6 * kc ≤ R.slots) (hn : As.length = n) (hst : (rest.map fun v => v.category).sum ≤ 8) (hd : decode cc pc = .ok (.invokestatic index, 3))
    (hM : vx_Met l y (.code y bytes maxL ret :: lw_g) (rmX dq kc) (PR Y D σ np b0 As cm dm) (QX qc z) (XX Y D σ np b0 cm dm z) kc (6 * kc) (xA b0)) (hmem : cm = M0 ∧ dm = N0) (hc : cells + kc ≤ mc) (hs : slots + 6 * kc ≤ ms)
    (hy : (∃ k, z = .inl k ∧ r = .inl k) ∨ ∃ (a : α) (v : Option Value) (c1 : Mc) (d1 : Md), z = .inr a ∧ qc a = QR Y D σ np b0 v c1 d1 ∧ Xw p l e R s m args below meth c nL Y D σ np b0 (cells + kc) (slots + 6 * kc) (vx_MQ below (QX q r) (XX Y D σ np b0 M0 N0 r) args s mc ms (xA b0)) (pc + 3) L (v.toList ++ rest) c1 d1) :
    Xw p l e R s m args below meth c nL Y D σ np b0 cells slots (vx_MQ below (QX q r) (XX Y D σ np b0 M0 N0 r) args s mc ms (xA b0)) pc L st0 cm dm := by
  subst h0
  intro H locs ls hP hS hB hl
  refine x_retx hE hT (vx_runS (As := As) (rest := rest) (Ts := lw_g) ⟨hE.1, hE.2.1, hE.2.2.1, hE.2.2.2.1, hE.2.2.2.2.1⟩ hM ⟨cb_of hE hY hw rfl rfl hR, hE.2.2.2.2.1 _ hV⟩ ⟨pr_blind, fun U hU hW => pr_of hE hP hS hB hU hW⟩ rfl hn hl.1 rfl ?_ hd hcs) hS hl hmem hc hs hy
  show 2 * 0 + _ ≤ 8
  rw [Nat.mul_zero, Nat.zero_add]
  exact hst
end XT
