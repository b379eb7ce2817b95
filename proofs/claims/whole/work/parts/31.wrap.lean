section XH
variable {p : Program} {l : Launch} {e : Env} {R : Room} {s : State} {m : MethodId} {args : Array Value} {below : List Frame} {meth : Method} {c : Code} {nL : Nat} {Y : Nat → ClassId} {D : va_G} {σ : Nat → Nat} {np b0 cells slots : Nat} {Q : State → Prop} {pc : Nat} {L : List (Nat × Value)} {rest : List Value} {cm : Mc} {dm : Md} {cc : ByteArray} {own : String}
/-- where an exception that is thrown at pc goes: the entry of the table that takes it, and the walk from its handler -/
def xCat (p : Program) (l : Launch) (e : Env) (R : Room) (s : State) (m : MethodId) (args : Array Value) (below : List Frame) (meth : Method) (c : Code) (nL : Nat) (Y : Nat → ClassId) (D : va_G) (σ : Nat → Nat) (np b0 cells slots : Nat) (Q : State → Prop) (own : String) (pc : Nat) (L : List (Nat × Value)) (cm : Mc) (dm : Md) (k : Nat) : Prop :=
  ∃ (pre : List ExceptionTableEntry) (x : ExceptionTableEntry) (suf : List ExceptionTableEntry) (name : String), c.exceptionTable.toList = pre ++ x :: suf ∧ (∀ z ∈ pre, covers z pc = false ∨ (z.catchType ≠ 0 ∧ ∃ nm : String, (Cond.classLink own z.catchType nm).before args s = true ∧ va_Nc (xE k) nm s)) ∧ covers x pc = true ∧ x.catchType ≠ 0 ∧ (Cond.classLink own x.catchType name).before args s = true ∧ (Cond.castable (xE k) name).before args s = true ∧ ∀ q : Nat, Xw p l e R s m args below meth c nL Y D σ np b0 cells slots Q x.handlerPc L [.ref q] cm dm
theorem x_retH {α : Type} {qc : α → Array Value → State → Outcome → State → Prop} {y : Nat ⊕ α} {av : Array Value} {st0 : List Value} {kc : Nat} {H : Heap} {locs : List Loc} {ls : Array Slot} (hE : EOK p s m args meth c cc nL own Y D σ np b0)
    (hr : vx_Run p l e R s m args below meth c H locs cells slots kc (6 * kc) (F0 m pc ls st0) rest (QX qc y av) (XX Y D σ np b0 cm dm y) (xA b0)) (hS : va_S (xA b0) s.heap H locs) (hl : lv_has ls nL L)
    (hcat : ∀ k, y = .inl k → xCat p l e R s m args below meth c nL Y D σ np b0 (cells + kc) (slots + 6 * kc) Q own pc L cm dm k)
    (hy : ∀ a, y = .inr a → ∃ (v : Option Value) (c1 : Mc) (d1 : Md), qc a = QR Y D σ np b0 v c1 d1 ∧ Xw p l e R s m args below meth c nL Y D σ np b0 (cells + kc) (slots + 6 * kc) Q (pc + 3) L (v.toList ++ rest) c1 d1) :
    W p l e R s m args below meth c H locs cells slots Q (F0 m pc ls st0) := by
  intro T hT2 X
  rcases hr T hT2 X with ⟨v', st₀, t, T', L', h0, X', hL, e1, e2, ⟨a', hy', hq⟩, st⟩ | ⟨qa, st₀, t, T', L', E, ce, h0, X', hL, e1, e2, ⟨k, hy', rfl, hp, hb, hz, hk⟩, hce, hcv, hcl, st⟩
  · obtain ⟨v, c1, d1, hqc, kk⟩ := hy a' hy'
    rw [hqc] at hq
    obtain ⟨hv, hp, hb, hz, hk⟩ := hq
    cases hv
    rw [h0] at hz hk
    have hS1 : va_S (xA b0) s.heap T'.heap (locs ++ L') := by
      refine ⟨Nat.le_trans hS.1 (by rw [e1]; exact hz), fun q h1 h2 => ?_, fun q hq => ?_⟩
      · rw [e1, hk q (Nat.lt_of_lt_of_le h1 hS.1) h2]
        exact hS.2.1 q h1 h2
      · rcases List.mem_append.mp hq with h | h
        · exact hS.2.2 q h
        · exact hL q h
    obtain ⟨t2, a1, b1⟩ := kk T'.heap (locs ++ L') ls (by rw [e1]; exact hp) hS1 hb hl T' rfl X'
    exact ⟨t2, st t2 a1, b1⟩
  · rw [h0] at hz hk
    have hS1 : va_S (xA b0) s.heap T'.heap (locs ++ L') := by
      refine ⟨Nat.le_trans hS.1 (by rw [e1]; exact hz), fun q h1 h2 => ?_, fun q hq => ?_⟩
      · rw [e1, hk q (Nat.lt_of_lt_of_le h1 hS.1) h2]
        exact hS.2.1 q h1 h2
      · rcases List.mem_append.mp hq with h | h
        · exact hS.2.2 q h
        · exact hL q h
    obtain ⟨pre, x, suf, name, c1, c2, c3, c4, c5, c6, kk⟩ := hcat k hy'
    obtain ⟨t2, a1, b1⟩ := vx_catch (E := xE k) (ce := ce) (q := qa) (rest := rest) hE.2.2.2.1 pre x suf c1 c2 c3 c4 c5 c6 (by rw [e1]; exact hce) hcv hcl (kk qa T'.heap (locs ++ L') ls (by rw [e1]; exact hp) hS1 hb hl) T' rfl X'
    exact ⟨t2, st.trans a1, b1⟩
theorem x_callXHV (hE : EOK p s m args meth c cc nL own Y D σ np b0) {α : Type} {qc : α → Array Value → State → Outcome → State → Prop} {z : Nat ⊕ α} {y : MethodName} {bytes : ByteArray} {maxL n index dq kc : Nat} {ret : Option FieldType} {C : String} {T : u_T} {N ci k : Nat} {ty0 : Nat → FieldType} {lk : List Nat} (As : List Value) {st0 : List Value} (h0 : As.reverse ++ .ref (σ k) :: rest = st0)
    (hY : YOK y bytes maxL n ret) (hV : YV y) (hw : Cond.methodLink own index y ∈ lw_g) (hC : y.cls = C) (hc2 : CLok ci C T N ty0) (hk : k < np ∧ kd k = (ci, 0, lk)) (hci : ci < 100) (hR : (rmX dq kc).frames + 1 ≤ R.frames ∧ 8 + (maxL + 11) + (rmX dq kc).locals ≤ R.locals) (hcs : cells + kc ≤ R.cells ∧ slots + 6 * kc ≤ R.slots) (hn : As.length = n) (hst : (rest.map fun v => v.category).sum ≤ 8) (hd : decode cc pc = .ok (.invokevirtual index, 3))
    (hM : vx_Met l y (.code y bytes maxL ret :: lw_g) (rmX dq kc) (PR Y D σ np b0 (.ref (σ k) :: As) cm dm) (QX qc z) (XX Y D σ np b0 cm dm z) kc (6 * kc) (xA b0))
    (hcat : ∀ k, z = .inl k → xCat p l e R s m args below meth c nL Y D σ np b0 (cells + kc) (slots + 6 * kc) Q own pc L cm dm k)
    (hy : ∀ a, z = .inr a → ∃ (v : Option Value) (c1 : Mc) (d1 : Md), qc a = QR Y D σ np b0 v c1 d1 ∧ Xw p l e R s m args below meth c nL Y D σ np b0 (cells + kc) (slots + 6 * kc) Q (pc + 3) L (v.toList ++ rest) c1 d1) :
    Xw p l e R s m args below meth c nL Y D σ np b0 cells slots Q pc L st0 cm dm := by
  subst h0
  subst hC
  intro H locs ls hP hS hB hl
  refine x_retH hE (vx_runV (As := As) (rest := rest) (Ts := lw_g) ⟨hE.1, hE.2.1, hE.2.2.1, hE.2.2.2.1, hE.2.2.2.2.1⟩ hM ⟨cb_of hE hY hw rfl rfl hR, hE.2.2.2.2.1 _ hV.1, hE.2.2.2.2.1 _ hV.2⟩ ⟨pr_blind, x_recv hE hP hc2 hk hci, fun U hU hW => pr_of hE hP hS hB hU hW⟩ rfl hn hl.1 rfl ?_ hd hcs) hS hl hcat hy
  show 2 * 0 + _ ≤ 8
  rw [Nat.mul_zero, Nat.zero_add]
  exact hst
end XH
/-- a method with a table, that throws nothing -/
theorem Met_ofWH {l : Launch} {y : MethodName} {ws ws' : List Cond} {rm : Room} {Pc : Array Value → State → Prop} {Qc : Array Value → State → Outcome → State → Prop} {mc ms : Nat} {free : Addr → Prop} {cc : ByteArray} {maxL : Nat} {ret : Option FieldType} {hh : List (Nat × Nat × Nat × Nat)}
    (hy : plainName y.cls = true) (hw : ws = Cond.codeWith y cc maxL ret hh :: ws')
    (body : ∀ p e s m args below meth c s₁, BodyLoose p l y (headSpec ws rm) cc maxL ret e s m args below meth c s₁ → c.maxLocals = maxL → Pc args s →
      W p l e (headSpec ws rm).room s m args below meth c s.heap [] 0 0 (MQ below Qc args s mc ms free) (entryFrame m args maxL)) : Met l y ws rm Pc Qc mc ms free := by
  refine MetFree.of_bodyS (code := cc) (maxLocals := maxL) (ret := ret) hy ?_ ?_
  · intro args s m h hn
    obtain ⟨m9, meth, c, hn9, h1, h2, h3, h4, -, h5, h6, -⟩ := Cond.codeWith_spec (atoms_spec (ws := ws) h _ (by rw [hw]; exact List.mem_cons_self))
    cases hn.symm.trans hn9
    exact ⟨meth, c, h1, h2, h3, h4, h5, h6⟩
  · intro p e s m args below meth c s₁ B hml hP _
    have hh0 : s₁.heap = s.heap := by rw [B.state]; rfl
    obtain ⟨t, a1, o, b1, b2, b3⟩ := body p e s m args below meth c s₁ B hml hP s₁ hh0 (Stand.of_body B)
    exact ⟨t, o, a1, b1, b2, b3⟩
theorem x_metH {l : Launch} {Y : Nat → ClassId} {D : va_G} {σ : Nat → Nat} {np b0 : Nat} {cm : Mc} {dm : Md} {cc : ByteArray} {y : MethodName} {maxL dp k : Nat} {ret : Option FieldType} {av : List Value} {hh : List (Nat × Nat × Nat × Nat)} {Qc : Array Value → State → Outcome → State → Prop} (hy : plainName y.cls = true) (hav : (lg_sl av).length ≤ maxL)
    (body : ∀ (p : Program) (e : Env) (s : State) (m : MethodId) (args : Array Value) (below : List Frame) (meth : Method) (c : Code), EOK p s m args meth c cc maxL y.cls Y D σ np b0 → meth.sig.returnType = ret → c.exceptionTable.toList = tableOf hh →
      Xw p l e (rmX dp k) s m args below meth c maxL Y D σ np b0 0 0 (MQ below Qc args s k (6 * k) (xA b0)) 0 (lv_args 0 av) [] cm dm) :
    Met l y (.codeWith y cc maxL ret hh :: lw_g) (rmX dp k) (PR Y D σ np b0 av cm dm) Qc k (6 * k) (xA b0) := by
  refine Met_ofWH (cc := cc) (maxL := maxL) (ret := ret) (hh := hh) hy rfl ?_
  intro p e s m args below meth c s₁ B hml hv
  obtain ⟨rfl, hP, hB, hK, hN, hσ, hb0, hnp, hxs⟩ := hv
  have hts := atoms_spec (ws := .codeWith y cc maxL ret hh :: lw_g) B.pre
  have hT := vx_table (x := y) B (hts _ List.mem_cons_self)
  have hE : EOK p s m av.toArray meth c cc maxL y.cls Y D σ np b0 := ⟨B.exec, B.bytes, hml, findClass_of_methodNamed B.named, fun w hw => hts w (List.mem_cons_of_mem _ hw), hN, hK, hσ, hb0, hnp, B.notSynchronized, hxs⟩
  rw [lg_entry_eq]
  exact body p e s m av.toArray below meth c hE B.returns hT s.heap [] _ hP va_S.rf hB (lv_entry av hav)
