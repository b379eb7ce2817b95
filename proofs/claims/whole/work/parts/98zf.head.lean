def Lb (σ : Nat → Nat) (b j : Nat) : List (Nat × Value) := [(0, .ref b), (1, .ref (σ 0)), (2, .ref (σ 127)), (3, .ref (σ 145)), (4, .int (nI j))]
theorem gi_w {np : Nat} {M : Mc} {N : Md} {v : Int64} (h : GI np M N) : GI np M (wrd N 145 0 v) := gi_N h (funext fun j => if_neg (fun q => by omega)) (funext fun j => if_neg (fun q => by omega))
theorem out_145 {N : Md} {v : Int64} : wrd N 145 0 v 145 (0 : Int32).toNatClampNeg = v := if_pos ⟨rfl, by decide⟩
theorem cmp_out {N : Md} {v : Int64} : lg_cmp (wrd N 145 0 v 145 (0 : Int32).toNatClampNeg) v = 0 := by
  rw [out_145]
  unfold lg_cmp
  simp
section XLP
variable {p : Program} {l : Launch} {e : Env} {R : Room} {s : State} {m : MethodId} {args : Array Value} {below : List Frame} {meth : Method} {c : Code} {nL : Nat} {Y : Nat → ClassId} {D : va_G} {σ : Nat → Nat} {np b0 cells slots : Nat} {Q : State → Prop} {pc : Nat} {L : List (Nat × Value)} {rest : List Value} {cm : Mc} {dm : Md} {cc : ByteArray} {own : String} {b nX j : Nat} {xs : Nat → Int32}
theorem x_sld (hE : EOK p s m args meth c cc nL own Y D σ np b0) (hX : va_X b nX xs s s.heap) (hb : b < b0) {i : Int32} (a : Nat) (hi : i = nI a) (ha : a < nX) (hn : nX ≤ 3072) (hd : decode cc pc = .ok (.iaload, 1)) (kk : Xw p l e R s m args below meth c nL Y D σ np b0 cells slots Q (pc + 1) L (.int (xs a) :: rest) cm dm) : Xw p l e R s m args below meth c nL Y D σ np b0 cells slots Q pc L (.int i :: .ref b :: rest) cm dm := by
  subst hi
  intro H locs ls hP hS hB hl
  refine va_sld hE.1 hE.2.1 hX (Nat.lt_of_lt_of_le hb hE.2.2.2.2.2.2.2.2.1) (Nat.not_le.mpr hb) hS (fun q => ?_) hd ?_
  · rw [nI_clamp (by omega)] at q
    rcases q with q | q
    · rw [Int32.lt_iff_toInt_lt, nI_toInt (by omega)] at q
      have h0 : (0 : Int32).toInt = 0 := by decide
      omega
    · omega
  · rw [nI_clamp (by omega)]
    exact kk H locs ls hP hS hB hl
theorem x_slen (hE : EOK p s m args meth c cc nL own Y D σ np b0) (hX : va_X b nX xs s s.heap) (hb : b < b0) (hd : decode cc pc = .ok (.arraylength, 1)) (kk : Xw p l e R s m args below meth c nL Y D σ np b0 cells slots Q (pc + 1) L (.int (nI nX) :: rest) cm dm) : Xw p l e R s m args below meth c nL Y D σ np b0 cells slots Q pc L (.ref b :: rest) cm dm := by
  intro H locs ls hP hS hB hl
  exact va_slen hE.1 hE.2.1 hX (Nat.lt_of_lt_of_le hb hE.2.2.2.2.2.2.2.2.1) (Nat.not_le.mpr hb) hS hd (kk H locs ls hP hS hB hl)
theorem x_arg (hE : EOK p s m args meth c cc nL own Y D σ np b0) (hX : va_X b nX xs s s.heap) (hb : b < b0) (hj : j + 6 ≤ nX) (hn : nX ≤ 3072) (k : Nat) {kI : Int} (hk : k < 6) (hkI : Int32.ofInt kI = nI k) (j0 j4 : Nat) (d0 : decode cc pc = .ok (.aload_n 0, 1)) (d1 : decode cc (pc + 1) = .ok (.iload 4, 2)) (d2 : decode cc (pc + 3) = .ok (.iconst kI, 1)) (d3 : decode cc (pc + 4) = .ok (.iadd, 1)) (d4 : decode cc (pc + 5) = .ok (.iaload, 1)) (h0 : L[j0]? = some (0, .ref b)) (h4 : L[j4]? = some (4, .int (nI j))) (kk : Xw p l e R s m args below meth c nL Y D σ np b0 cells slots Q (pc + 6) L (.int (xs (j + k)) :: rest) cm dm) : Xw p l e R s m args below meth c nL Y D σ np b0 cells slots Q pc L rest cm dm := by
  refine x_aload_n hE j0 d0 rfl h0 ?_
  refine x_iload hE j4 d1 h4 ?_
  refine x_iconst hE (nI k) d2 hkI ?_
  refine x_iadd hE d3 ?_
  exact x_sld hE hX hb (j + k) (nI_add j k) (by omega) hn d4 kk
end XLP
theorem st_I {np : Nat} {M : Mc} {N : Md} (h : GI np M N) : ∃ b C' N' R' L', fX11_image M N = some (b, C', N') ∧ fX12_image C' N' = some (b, R', L') ∧ R' 127 0 = 0 ∧ GI np R' L' := by
  have h0 := h
  obtain ⟨n, t, m, hI, hu, hz, hnp, h12⟩ := h0
  obtain ⟨b, C', R', N', L', n', t', m', x1, y1, i1, g1, g2, z0, a1, a2⟩ := c_image hI
  obtain ⟨b2, C2, R2, N2, L2, n2, t2, m2, x2, y2, i2, g3, g4, z2, a3, a4⟩ := c_image (iv_cg hI (C' := M) (R' := C') (N' := N) (L' := N') (fun _ _ => rfl) (fun b q1 q2 => g1 b q1 q2) rfl (a1 127 (by omega)))
  rw [x1] at x2
  have x2 := Option.some.inj x2
  have eb : b = b2 := congrArg Prod.fst x2
  have eC : C' = C2 := congrArg (fun q => q.2.1) x2
  have eN : N' = N2 := congrArg (fun q => q.2.2) x2
  subst eb
  subst eC
  subst eN
  have hk : KA (M 17 6) (M 32 2) (M 0 9) (M 16) C' := hA_fX11_image ka_rf _ C' x1 rfl
  have hIV : GI np R2 L2 := by
    have i3 := iv_one (N' := L2) i2 g4 (a4 121 (by omega)) rfl
    obtain ⟨k, hk1, hk2⟩ := hu
    have e1 : t2 = t := za_inj (by have := iv_t i2; omega) (by have := iv_t hI; omega) ((iv_tc i2).symm.trans (hk.1.trans (iv_tc hI)))
    have e2 : m2 = m := bk_m hI.1.2.2.2.1 i2.1.2.2.2.1 hk.2.2.2 hI.1.2.2.1 i2.1.2.2.1
    subst e1
    subst e2
    exact ⟨n2, t2, m2, i3, ⟨k, hk1, by rw [g4 _ (by omega)]; exact hk.2.1.trans hk2⟩, fun l hl => by rw [g4 16 (by omega), hk.2.2.2]; exact hz l hl, hnp, fun q => by rw [g4 0 (by omega), hk.2.2.1]; exact h12 q⟩
  exact ⟨b, C', N', R2, L2, x1, y2, z2, hIV⟩
/-- behind a case -/
def LK (p : Program) (l : Launch) (e : Env) (s : State) (m : MethodId) (args : Array Value) (below : List Frame) (meth : Method) (c : Code) (Y : Nat → ClassId) (D : va_G) (b0 cells slots : Nat) (Q : State → Prop) (b j : Nat) : Prop :=
  ∀ (σ' : Nat → Nat) (np' cells' slots' : Nat) (M' : Mc) (N' : Md), EOK p s m args meth c cL_law_ 7 "SettlerColonyLaw" Y D σ' np' b0 → GI np' M' N' → cells' ≤ cells + 55 → slots' ≤ slots + 330 → Xw p l e room_1 s m args below meth c 7 Y D σ' np' b0 cells' slots' Q 3277 (Lb σ' b j) [] M' N'

theorem dL_law__0 : decode cL_law_ 0 = .ok (.new 8, 3) := by decide +kernel
theorem dL_law__3 : decode cL_law_ 3 = .ok (.dup, 1) := by decide +kernel
theorem dL_law__4 : decode cL_law_ 4 = .ok (.invokespecial 147, 3) := by decide +kernel
theorem dL_law__7 : decode cL_law_ 7 = .ok (.astore_n 1, 1) := by decide +kernel
theorem dL_law__8 : decode cL_law_ 8 = .ok (.new 148, 3) := by decide +kernel
theorem dL_law__11 : decode cL_law_ 11 = .ok (.dup, 1) := by decide +kernel
theorem dL_law__12 : decode cL_law_ 12 = .ok (.invokespecial 150, 3) := by decide +kernel
theorem dL_law__15 : decode cL_law_ 15 = .ok (.astore_n 2, 1) := by decide +kernel
theorem dL_law__16 : decode cL_law_ 16 = .ok (.iconst 1, 1) := by decide +kernel
theorem dL_law__17 : decode cL_law_ 17 = .ok (.newarray .long, 2) := by decide +kernel
theorem dL_law__19 : decode cL_law_ 19 = .ok (.astore_n 3, 1) := by decide +kernel
theorem dL_law__20 : decode cL_law_ 20 = .ok (.iconst 0, 1) := by decide +kernel
theorem dL_law__21 : decode cL_law_ 21 = .ok (.istore 4, 2) := by decide +kernel
theorem dL_law__23 : decode cL_law_ 23 = .ok (.iload 4, 2) := by decide +kernel
theorem dL_law__25 : decode cL_law_ 25 = .ok (.aload_n 0, 1) := by decide +kernel
theorem dL_law__26 : decode cL_law_ 26 = .ok (.arraylength, 1) := by decide +kernel
theorem dL_law__27 : decode cL_law_ 27 = .ok (.bipush 6, 2) := by decide +kernel
theorem dL_law__29 : decode cL_law_ 29 = .ok (.isub, 1) := by decide +kernel
theorem dL_law__30 : decode cL_law_ 30 = .ok (.if_icmp .gt 3253, 3) := by decide +kernel
theorem dL_law__33 : decode cL_law_ 33 = .ok (.aload_n 0, 1) := by decide +kernel
theorem dL_law__34 : decode cL_law_ 34 = .ok (.iload 4, 2) := by decide +kernel
theorem dL_law__36 : decode cL_law_ 36 = .ok (.iaload, 1) := by decide +kernel
theorem dL_law__37 : decode cL_law_ 37 = .ok (.bipush 63, 2) := by decide +kernel
theorem dL_law__39 : decode cL_law_ 39 = .ok (.iand, 1) := by decide +kernel
theorem dL_law__40 : decode cL_law_ 40 = .ok (.tableswitch 3237 0 50 #[220, 316, 384, 464, 532, 588, 644, 712, 787, 867, 935, 991, 1059, 1127, 1183, 1239, 1295, 1351, 1419, 1475, 1543, 1611, 1679, 1759, 1827, 1900, 1956, 1969, 2065, 2121, 2205, 2261, 2329, 2385, 2398, 2459, 2472, 2528, 2584, 2640, 2696, 2752, 2832, 2924, 2984, 3056, 3124, 3137, 3162, 3199, 3212], 220) := by decide +kernel
theorem dL_law__260 : decode cL_law_ 260 = .ok (.aload_n 1, 1) := by decide +kernel
theorem dL_law__261 : decode cL_law_ 261 = .ok (.aload_n 0, 1) := by decide +kernel
theorem dL_law__262 : decode cL_law_ 262 = .ok (.iload 4, 2) := by decide +kernel
theorem dL_law__264 : decode cL_law_ 264 = .ok (.iconst 1, 1) := by decide +kernel
theorem dL_law__265 : decode cL_law_ 265 = .ok (.iadd, 1) := by decide +kernel
theorem dL_law__266 : decode cL_law_ 266 = .ok (.iaload, 1) := by decide +kernel
theorem dL_law__267 : decode cL_law_ 267 = .ok (.aload_n 0, 1) := by decide +kernel
theorem dL_law__268 : decode cL_law_ 268 = .ok (.iload 4, 2) := by decide +kernel
theorem dL_law__270 : decode cL_law_ 270 = .ok (.iconst 2, 1) := by decide +kernel
theorem dL_law__271 : decode cL_law_ 271 = .ok (.iadd, 1) := by decide +kernel
theorem dL_law__272 : decode cL_law_ 272 = .ok (.iaload, 1) := by decide +kernel
theorem dL_law__273 : decode cL_law_ 273 = .ok (.aload_n 0, 1) := by decide +kernel
theorem dL_law__274 : decode cL_law_ 274 = .ok (.iload 4, 2) := by decide +kernel
theorem dL_law__276 : decode cL_law_ 276 = .ok (.iconst 3, 1) := by decide +kernel
theorem dL_law__277 : decode cL_law_ 277 = .ok (.iadd, 1) := by decide +kernel
theorem dL_law__278 : decode cL_law_ 278 = .ok (.iaload, 1) := by decide +kernel
theorem dL_law__279 : decode cL_law_ 279 = .ok (.ifCond .eq 7, 3) := by decide +kernel
theorem dL_law__282 : decode cL_law_ 282 = .ok (.iconst 1, 1) := by decide +kernel
theorem dL_law__283 : decode cL_law_ 283 = .ok (.goto 4, 3) := by decide +kernel
theorem dL_law__286 : decode cL_law_ 286 = .ok (.iconst 0, 1) := by decide +kernel
theorem dL_law__287 : decode cL_law_ 287 = .ok (.aload_n 3, 1) := by decide +kernel
theorem dL_law__288 : decode cL_law_ 288 = .ok (.invokestatic 151, 3) := by decide +kernel
theorem dL_law__291 : decode cL_law_ 291 = .ok (.istore 5, 2) := by decide +kernel
theorem dL_law__293 : decode cL_law_ 293 = .ok (.aload_n 2, 1) := by decide +kernel
theorem dL_law__294 : decode cL_law_ 294 = .ok (.aload_n 0, 1) := by decide +kernel
theorem dL_law__295 : decode cL_law_ 295 = .ok (.iload 4, 2) := by decide +kernel
theorem dL_law__297 : decode cL_law_ 297 = .ok (.iconst 1, 1) := by decide +kernel
theorem dL_law__298 : decode cL_law_ 298 = .ok (.iadd, 1) := by decide +kernel
theorem dL_law__299 : decode cL_law_ 299 = .ok (.iaload, 1) := by decide +kernel
theorem dL_law__300 : decode cL_law_ 300 = .ok (.aload_n 0, 1) := by decide +kernel
theorem dL_law__301 : decode cL_law_ 301 = .ok (.iload 4, 2) := by decide +kernel
theorem dL_law__303 : decode cL_law_ 303 = .ok (.iconst 2, 1) := by decide +kernel
theorem dL_law__304 : decode cL_law_ 304 = .ok (.iadd, 1) := by decide +kernel
theorem dL_law__305 : decode cL_law_ 305 = .ok (.iaload, 1) := by decide +kernel
theorem dL_law__306 : decode cL_law_ 306 = .ok (.aload_n 0, 1) := by decide +kernel
theorem dL_law__307 : decode cL_law_ 307 = .ok (.iload 4, 2) := by decide +kernel
theorem dL_law__309 : decode cL_law_ 309 = .ok (.iconst 3, 1) := by decide +kernel
theorem dL_law__310 : decode cL_law_ 310 = .ok (.iadd, 1) := by decide +kernel
theorem dL_law__311 : decode cL_law_ 311 = .ok (.iaload, 1) := by decide +kernel
theorem dL_law__312 : decode cL_law_ 312 = .ok (.ifCond .eq 7, 3) := by decide +kernel
theorem dL_law__315 : decode cL_law_ 315 = .ok (.iconst 1, 1) := by decide +kernel
theorem dL_law__316 : decode cL_law_ 316 = .ok (.goto 4, 3) := by decide +kernel
theorem dL_law__319 : decode cL_law_ 319 = .ok (.iconst 0, 1) := by decide +kernel
theorem dL_law__320 : decode cL_law_ 320 = .ok (.invokevirtual 156, 3) := by decide +kernel
theorem dL_law__323 : decode cL_law_ 323 = .ok (.istore 6, 2) := by decide +kernel
theorem dL_law__325 : decode cL_law_ 325 = .ok (.aload_n 2, 1) := by decide +kernel
theorem dL_law__326 : decode cL_law_ 326 = .ok (.invokevirtual 157, 3) := by decide +kernel
theorem dL_law__329 : decode cL_law_ 329 = .ok (.iload 5, 2) := by decide +kernel
theorem dL_law__331 : decode cL_law_ 331 = .ok (.if_icmp .eq 5, 3) := by decide +kernel
theorem dL_law__334 : decode cL_law_ 334 = .ok (.iconst 0, 1) := by decide +kernel
theorem dL_law__335 : decode cL_law_ 335 = .ok (.ireturn, 1) := by decide +kernel
theorem dL_law__336 : decode cL_law_ 336 = .ok (.iload 5, 2) := by decide +kernel
theorem dL_law__338 : decode cL_law_ 338 = .ok (.ifCond .ne 15, 3) := by decide +kernel
theorem dL_law__341 : decode cL_law_ 341 = .ok (.aload_n 3, 1) := by decide +kernel
theorem dL_law__342 : decode cL_law_ 342 = .ok (.iconst 0, 1) := by decide +kernel
theorem dL_law__343 : decode cL_law_ 343 = .ok (.laload, 1) := by decide +kernel
theorem dL_law__344 : decode cL_law_ 344 = .ok (.iload 6, 2) := by decide +kernel
theorem dL_law__346 : decode cL_law_ 346 = .ok (.i2l, 1) := by decide +kernel
theorem dL_law__347 : decode cL_law_ 347 = .ok (.lcmp, 1) := by decide +kernel
theorem dL_law__348 : decode cL_law_ 348 = .ok (.ifCond .eq 5, 3) := by decide +kernel
theorem dL_law__351 : decode cL_law_ 351 = .ok (.iconst 0, 1) := by decide +kernel
theorem dL_law__352 : decode cL_law_ 352 = .ok (.ireturn, 1) := by decide +kernel
theorem dL_law__353 : decode cL_law_ 353 = .ok (.goto 2924, 3) := by decide +kernel
theorem dL_law__356 : decode cL_law_ 356 = .ok (.aload_n 1, 1) := by decide +kernel
theorem dL_law__357 : decode cL_law_ 357 = .ok (.aload_n 0, 1) := by decide +kernel
theorem dL_law__358 : decode cL_law_ 358 = .ok (.iload 4, 2) := by decide +kernel
theorem dL_law__360 : decode cL_law_ 360 = .ok (.iconst 1, 1) := by decide +kernel
theorem dL_law__361 : decode cL_law_ 361 = .ok (.iadd, 1) := by decide +kernel
theorem dL_law__362 : decode cL_law_ 362 = .ok (.iaload, 1) := by decide +kernel
theorem dL_law__363 : decode cL_law_ 363 = .ok (.aload_n 0, 1) := by decide +kernel
theorem dL_law__364 : decode cL_law_ 364 = .ok (.iload 4, 2) := by decide +kernel
theorem dL_law__366 : decode cL_law_ 366 = .ok (.iconst 2, 1) := by decide +kernel
theorem dL_law__367 : decode cL_law_ 367 = .ok (.iadd, 1) := by decide +kernel
theorem dL_law__368 : decode cL_law_ 368 = .ok (.iaload, 1) := by decide +kernel
theorem dL_law__369 : decode cL_law_ 369 = .ok (.aload_n 3, 1) := by decide +kernel
theorem dL_law__370 : decode cL_law_ 370 = .ok (.invokestatic 161, 3) := by decide +kernel
theorem dL_law__373 : decode cL_law_ 373 = .ok (.istore 5, 2) := by decide +kernel
theorem dL_law__375 : decode cL_law_ 375 = .ok (.aload_n 2, 1) := by decide +kernel
theorem dL_law__376 : decode cL_law_ 376 = .ok (.aload_n 0, 1) := by decide +kernel
theorem dL_law__377 : decode cL_law_ 377 = .ok (.iload 4, 2) := by decide +kernel
theorem dL_law__379 : decode cL_law_ 379 = .ok (.iconst 1, 1) := by decide +kernel
theorem dL_law__380 : decode cL_law_ 380 = .ok (.iadd, 1) := by decide +kernel
theorem dL_law__381 : decode cL_law_ 381 = .ok (.iaload, 1) := by decide +kernel
theorem dL_law__382 : decode cL_law_ 382 = .ok (.aload_n 0, 1) := by decide +kernel
theorem dL_law__383 : decode cL_law_ 383 = .ok (.iload 4, 2) := by decide +kernel
theorem dL_law__385 : decode cL_law_ 385 = .ok (.iconst 2, 1) := by decide +kernel
theorem dL_law__386 : decode cL_law_ 386 = .ok (.iadd, 1) := by decide +kernel
theorem dL_law__387 : decode cL_law_ 387 = .ok (.iaload, 1) := by decide +kernel
theorem dL_law__388 : decode cL_law_ 388 = .ok (.invokevirtual 164, 3) := by decide +kernel
theorem dL_law__391 : decode cL_law_ 391 = .ok (.istore 6, 2) := by decide +kernel
theorem dL_law__393 : decode cL_law_ 393 = .ok (.aload_n 2, 1) := by decide +kernel
theorem dL_law__394 : decode cL_law_ 394 = .ok (.invokevirtual 157, 3) := by decide +kernel
theorem dL_law__397 : decode cL_law_ 397 = .ok (.iload 5, 2) := by decide +kernel
theorem dL_law__399 : decode cL_law_ 399 = .ok (.if_icmp .eq 5, 3) := by decide +kernel
theorem dL_law__402 : decode cL_law_ 402 = .ok (.iconst 0, 1) := by decide +kernel
theorem dL_law__403 : decode cL_law_ 403 = .ok (.ireturn, 1) := by decide +kernel
theorem dL_law__404 : decode cL_law_ 404 = .ok (.iload 5, 2) := by decide +kernel
theorem dL_law__406 : decode cL_law_ 406 = .ok (.ifCond .ne 15, 3) := by decide +kernel
theorem dL_law__409 : decode cL_law_ 409 = .ok (.aload_n 3, 1) := by decide +kernel
theorem dL_law__410 : decode cL_law_ 410 = .ok (.iconst 0, 1) := by decide +kernel
theorem dL_law__411 : decode cL_law_ 411 = .ok (.laload, 1) := by decide +kernel
theorem dL_law__412 : decode cL_law_ 412 = .ok (.iload 6, 2) := by decide +kernel
theorem dL_law__414 : decode cL_law_ 414 = .ok (.i2l, 1) := by decide +kernel
theorem dL_law__415 : decode cL_law_ 415 = .ok (.lcmp, 1) := by decide +kernel
theorem dL_law__416 : decode cL_law_ 416 = .ok (.ifCond .eq 5, 3) := by decide +kernel
theorem dL_law__419 : decode cL_law_ 419 = .ok (.iconst 0, 1) := by decide +kernel
theorem dL_law__420 : decode cL_law_ 420 = .ok (.ireturn, 1) := by decide +kernel
theorem dL_law__421 : decode cL_law_ 421 = .ok (.goto 2856, 3) := by decide +kernel
theorem dL_law__424 : decode cL_law_ 424 = .ok (.aload_n 1, 1) := by decide +kernel
theorem dL_law__425 : decode cL_law_ 425 = .ok (.aload_n 0, 1) := by decide +kernel
theorem dL_law__426 : decode cL_law_ 426 = .ok (.iload 4, 2) := by decide +kernel
theorem dL_law__428 : decode cL_law_ 428 = .ok (.iconst 1, 1) := by decide +kernel
theorem dL_law__429 : decode cL_law_ 429 = .ok (.iadd, 1) := by decide +kernel
theorem dL_law__430 : decode cL_law_ 430 = .ok (.iaload, 1) := by decide +kernel
theorem dL_law__431 : decode cL_law_ 431 = .ok (.aload_n 0, 1) := by decide +kernel
theorem dL_law__432 : decode cL_law_ 432 = .ok (.iload 4, 2) := by decide +kernel
theorem dL_law__434 : decode cL_law_ 434 = .ok (.iconst 2, 1) := by decide +kernel
theorem dL_law__435 : decode cL_law_ 435 = .ok (.iadd, 1) := by decide +kernel
theorem dL_law__436 : decode cL_law_ 436 = .ok (.iaload, 1) := by decide +kernel
theorem dL_law__437 : decode cL_law_ 437 = .ok (.aload_n 0, 1) := by decide +kernel
theorem dL_law__438 : decode cL_law_ 438 = .ok (.iload 4, 2) := by decide +kernel
theorem dL_law__440 : decode cL_law_ 440 = .ok (.iconst 3, 1) := by decide +kernel
theorem dL_law__441 : decode cL_law_ 441 = .ok (.iadd, 1) := by decide +kernel
theorem dL_law__442 : decode cL_law_ 442 = .ok (.iaload, 1) := by decide +kernel
theorem dL_law__443 : decode cL_law_ 443 = .ok (.aload_n 3, 1) := by decide +kernel
theorem dL_law__444 : decode cL_law_ 444 = .ok (.invokestatic 165, 3) := by decide +kernel
theorem dL_law__447 : decode cL_law_ 447 = .ok (.istore 5, 2) := by decide +kernel
theorem dL_law__449 : decode cL_law_ 449 = .ok (.aload_n 2, 1) := by decide +kernel
theorem dL_law__450 : decode cL_law_ 450 = .ok (.aload_n 0, 1) := by decide +kernel
theorem dL_law__451 : decode cL_law_ 451 = .ok (.iload 4, 2) := by decide +kernel
theorem dL_law__453 : decode cL_law_ 453 = .ok (.iconst 1, 1) := by decide +kernel
theorem dL_law__454 : decode cL_law_ 454 = .ok (.iadd, 1) := by decide +kernel
theorem dL_law__455 : decode cL_law_ 455 = .ok (.iaload, 1) := by decide +kernel
theorem dL_law__456 : decode cL_law_ 456 = .ok (.aload_n 0, 1) := by decide +kernel
theorem dL_law__457 : decode cL_law_ 457 = .ok (.iload 4, 2) := by decide +kernel
theorem dL_law__459 : decode cL_law_ 459 = .ok (.iconst 2, 1) := by decide +kernel
theorem dL_law__460 : decode cL_law_ 460 = .ok (.iadd, 1) := by decide +kernel
theorem dL_law__461 : decode cL_law_ 461 = .ok (.iaload, 1) := by decide +kernel
theorem dL_law__462 : decode cL_law_ 462 = .ok (.aload_n 0, 1) := by decide +kernel
theorem dL_law__463 : decode cL_law_ 463 = .ok (.iload 4, 2) := by decide +kernel
theorem dL_law__465 : decode cL_law_ 465 = .ok (.iconst 3, 1) := by decide +kernel
theorem dL_law__466 : decode cL_law_ 466 = .ok (.iadd, 1) := by decide +kernel
theorem dL_law__467 : decode cL_law_ 467 = .ok (.iaload, 1) := by decide +kernel
theorem dL_law__468 : decode cL_law_ 468 = .ok (.invokevirtual 168, 3) := by decide +kernel
theorem dL_law__471 : decode cL_law_ 471 = .ok (.istore 6, 2) := by decide +kernel
theorem dL_law__473 : decode cL_law_ 473 = .ok (.aload_n 2, 1) := by decide +kernel
theorem dL_law__474 : decode cL_law_ 474 = .ok (.invokevirtual 157, 3) := by decide +kernel
theorem dL_law__477 : decode cL_law_ 477 = .ok (.iload 5, 2) := by decide +kernel
theorem dL_law__479 : decode cL_law_ 479 = .ok (.if_icmp .eq 5, 3) := by decide +kernel
theorem dL_law__482 : decode cL_law_ 482 = .ok (.iconst 0, 1) := by decide +kernel
theorem dL_law__483 : decode cL_law_ 483 = .ok (.ireturn, 1) := by decide +kernel
theorem dL_law__484 : decode cL_law_ 484 = .ok (.iload 5, 2) := by decide +kernel
theorem dL_law__486 : decode cL_law_ 486 = .ok (.ifCond .ne 15, 3) := by decide +kernel
theorem dL_law__489 : decode cL_law_ 489 = .ok (.aload_n 3, 1) := by decide +kernel
theorem dL_law__490 : decode cL_law_ 490 = .ok (.iconst 0, 1) := by decide +kernel
theorem dL_law__491 : decode cL_law_ 491 = .ok (.laload, 1) := by decide +kernel
theorem dL_law__492 : decode cL_law_ 492 = .ok (.iload 6, 2) := by decide +kernel
theorem dL_law__494 : decode cL_law_ 494 = .ok (.i2l, 1) := by decide +kernel
theorem dL_law__495 : decode cL_law_ 495 = .ok (.lcmp, 1) := by decide +kernel
theorem dL_law__496 : decode cL_law_ 496 = .ok (.ifCond .eq 5, 3) := by decide +kernel
theorem dL_law__499 : decode cL_law_ 499 = .ok (.iconst 0, 1) := by decide +kernel
theorem dL_law__500 : decode cL_law_ 500 = .ok (.ireturn, 1) := by decide +kernel
theorem dL_law__501 : decode cL_law_ 501 = .ok (.goto 2776, 3) := by decide +kernel
theorem dL_law__504 : decode cL_law_ 504 = .ok (.aload_n 1, 1) := by decide +kernel
theorem dL_law__505 : decode cL_law_ 505 = .ok (.aload_n 0, 1) := by decide +kernel
theorem dL_law__506 : decode cL_law_ 506 = .ok (.iload 4, 2) := by decide +kernel
theorem dL_law__508 : decode cL_law_ 508 = .ok (.iconst 1, 1) := by decide +kernel
theorem dL_law__509 : decode cL_law_ 509 = .ok (.iadd, 1) := by decide +kernel
theorem dL_law__510 : decode cL_law_ 510 = .ok (.iaload, 1) := by decide +kernel
theorem dL_law__511 : decode cL_law_ 511 = .ok (.aload_n 0, 1) := by decide +kernel
theorem dL_law__512 : decode cL_law_ 512 = .ok (.iload 4, 2) := by decide +kernel
theorem dL_law__514 : decode cL_law_ 514 = .ok (.iconst 2, 1) := by decide +kernel
theorem dL_law__515 : decode cL_law_ 515 = .ok (.iadd, 1) := by decide +kernel
theorem dL_law__516 : decode cL_law_ 516 = .ok (.iaload, 1) := by decide +kernel
theorem dL_law__517 : decode cL_law_ 517 = .ok (.aload_n 3, 1) := by decide +kernel
theorem dL_law__518 : decode cL_law_ 518 = .ok (.invokestatic 169, 3) := by decide +kernel
theorem dL_law__521 : decode cL_law_ 521 = .ok (.istore 5, 2) := by decide +kernel
theorem dL_law__523 : decode cL_law_ 523 = .ok (.aload_n 2, 1) := by decide +kernel
theorem dL_law__524 : decode cL_law_ 524 = .ok (.aload_n 0, 1) := by decide +kernel
theorem dL_law__525 : decode cL_law_ 525 = .ok (.iload 4, 2) := by decide +kernel
theorem dL_law__527 : decode cL_law_ 527 = .ok (.iconst 1, 1) := by decide +kernel
theorem dL_law__528 : decode cL_law_ 528 = .ok (.iadd, 1) := by decide +kernel
theorem dL_law__529 : decode cL_law_ 529 = .ok (.iaload, 1) := by decide +kernel
theorem dL_law__530 : decode cL_law_ 530 = .ok (.aload_n 0, 1) := by decide +kernel
theorem dL_law__531 : decode cL_law_ 531 = .ok (.iload 4, 2) := by decide +kernel
theorem dL_law__533 : decode cL_law_ 533 = .ok (.iconst 2, 1) := by decide +kernel
theorem dL_law__534 : decode cL_law_ 534 = .ok (.iadd, 1) := by decide +kernel
theorem dL_law__535 : decode cL_law_ 535 = .ok (.iaload, 1) := by decide +kernel
theorem dL_law__536 : decode cL_law_ 536 = .ok (.invokevirtual 171, 3) := by decide +kernel
theorem dL_law__539 : decode cL_law_ 539 = .ok (.istore 6, 2) := by decide +kernel
theorem dL_law__541 : decode cL_law_ 541 = .ok (.aload_n 2, 1) := by decide +kernel
theorem dL_law__542 : decode cL_law_ 542 = .ok (.invokevirtual 157, 3) := by decide +kernel
theorem dL_law__545 : decode cL_law_ 545 = .ok (.iload 5, 2) := by decide +kernel
theorem dL_law__547 : decode cL_law_ 547 = .ok (.if_icmp .eq 5, 3) := by decide +kernel
theorem dL_law__550 : decode cL_law_ 550 = .ok (.iconst 0, 1) := by decide +kernel
theorem dL_law__551 : decode cL_law_ 551 = .ok (.ireturn, 1) := by decide +kernel
theorem dL_law__552 : decode cL_law_ 552 = .ok (.iload 5, 2) := by decide +kernel
theorem dL_law__554 : decode cL_law_ 554 = .ok (.ifCond .ne 15, 3) := by decide +kernel
theorem dL_law__557 : decode cL_law_ 557 = .ok (.aload_n 3, 1) := by decide +kernel
theorem dL_law__558 : decode cL_law_ 558 = .ok (.iconst 0, 1) := by decide +kernel
theorem dL_law__559 : decode cL_law_ 559 = .ok (.laload, 1) := by decide +kernel
theorem dL_law__560 : decode cL_law_ 560 = .ok (.iload 6, 2) := by decide +kernel
theorem dL_law__562 : decode cL_law_ 562 = .ok (.i2l, 1) := by decide +kernel
theorem dL_law__563 : decode cL_law_ 563 = .ok (.lcmp, 1) := by decide +kernel
theorem dL_law__564 : decode cL_law_ 564 = .ok (.ifCond .eq 5, 3) := by decide +kernel
theorem dL_law__567 : decode cL_law_ 567 = .ok (.iconst 0, 1) := by decide +kernel
theorem dL_law__568 : decode cL_law_ 568 = .ok (.ireturn, 1) := by decide +kernel
theorem dL_law__569 : decode cL_law_ 569 = .ok (.goto 2708, 3) := by decide +kernel
theorem dL_law__572 : decode cL_law_ 572 = .ok (.aload_n 1, 1) := by decide +kernel
theorem dL_law__573 : decode cL_law_ 573 = .ok (.aload_n 0, 1) := by decide +kernel
theorem dL_law__574 : decode cL_law_ 574 = .ok (.iload 4, 2) := by decide +kernel
theorem dL_law__576 : decode cL_law_ 576 = .ok (.iconst 1, 1) := by decide +kernel
theorem dL_law__577 : decode cL_law_ 577 = .ok (.iadd, 1) := by decide +kernel
theorem dL_law__578 : decode cL_law_ 578 = .ok (.iaload, 1) := by decide +kernel
theorem dL_law__579 : decode cL_law_ 579 = .ok (.aload_n 3, 1) := by decide +kernel
theorem dL_law__580 : decode cL_law_ 580 = .ok (.invokestatic 172, 3) := by decide +kernel
theorem dL_law__583 : decode cL_law_ 583 = .ok (.istore 5, 2) := by decide +kernel
theorem dL_law__585 : decode cL_law_ 585 = .ok (.aload_n 2, 1) := by decide +kernel
theorem dL_law__586 : decode cL_law_ 586 = .ok (.aload_n 0, 1) := by decide +kernel
theorem dL_law__587 : decode cL_law_ 587 = .ok (.iload 4, 2) := by decide +kernel
theorem dL_law__589 : decode cL_law_ 589 = .ok (.iconst 1, 1) := by decide +kernel
theorem dL_law__590 : decode cL_law_ 590 = .ok (.iadd, 1) := by decide +kernel
theorem dL_law__591 : decode cL_law_ 591 = .ok (.iaload, 1) := by decide +kernel
theorem dL_law__592 : decode cL_law_ 592 = .ok (.invokevirtual 175, 3) := by decide +kernel
theorem dL_law__595 : decode cL_law_ 595 = .ok (.istore 6, 2) := by decide +kernel
theorem dL_law__597 : decode cL_law_ 597 = .ok (.aload_n 2, 1) := by decide +kernel
theorem dL_law__598 : decode cL_law_ 598 = .ok (.invokevirtual 157, 3) := by decide +kernel
theorem dL_law__601 : decode cL_law_ 601 = .ok (.iload 5, 2) := by decide +kernel
theorem dL_law__603 : decode cL_law_ 603 = .ok (.if_icmp .eq 5, 3) := by decide +kernel
theorem dL_law__606 : decode cL_law_ 606 = .ok (.iconst 0, 1) := by decide +kernel
theorem dL_law__607 : decode cL_law_ 607 = .ok (.ireturn, 1) := by decide +kernel
theorem dL_law__608 : decode cL_law_ 608 = .ok (.iload 5, 2) := by decide +kernel
theorem dL_law__610 : decode cL_law_ 610 = .ok (.ifCond .ne 15, 3) := by decide +kernel
theorem dL_law__613 : decode cL_law_ 613 = .ok (.aload_n 3, 1) := by decide +kernel
theorem dL_law__614 : decode cL_law_ 614 = .ok (.iconst 0, 1) := by decide +kernel
theorem dL_law__615 : decode cL_law_ 615 = .ok (.laload, 1) := by decide +kernel
theorem dL_law__616 : decode cL_law_ 616 = .ok (.iload 6, 2) := by decide +kernel
theorem dL_law__618 : decode cL_law_ 618 = .ok (.i2l, 1) := by decide +kernel
theorem dL_law__619 : decode cL_law_ 619 = .ok (.lcmp, 1) := by decide +kernel
theorem dL_law__620 : decode cL_law_ 620 = .ok (.ifCond .eq 5, 3) := by decide +kernel
theorem dL_law__623 : decode cL_law_ 623 = .ok (.iconst 0, 1) := by decide +kernel
theorem dL_law__624 : decode cL_law_ 624 = .ok (.ireturn, 1) := by decide +kernel
theorem dL_law__625 : decode cL_law_ 625 = .ok (.goto 2652, 3) := by decide +kernel
theorem dL_law__628 : decode cL_law_ 628 = .ok (.aload_n 1, 1) := by decide +kernel
theorem dL_law__629 : decode cL_law_ 629 = .ok (.aload_n 0, 1) := by decide +kernel
theorem dL_law__630 : decode cL_law_ 630 = .ok (.iload 4, 2) := by decide +kernel
theorem dL_law__632 : decode cL_law_ 632 = .ok (.iconst 1, 1) := by decide +kernel
theorem dL_law__633 : decode cL_law_ 633 = .ok (.iadd, 1) := by decide +kernel
theorem dL_law__634 : decode cL_law_ 634 = .ok (.iaload, 1) := by decide +kernel
theorem dL_law__635 : decode cL_law_ 635 = .ok (.aload_n 3, 1) := by decide +kernel
theorem dL_law__636 : decode cL_law_ 636 = .ok (.invokestatic 176, 3) := by decide +kernel
theorem dL_law__639 : decode cL_law_ 639 = .ok (.istore 5, 2) := by decide +kernel
theorem dL_law__641 : decode cL_law_ 641 = .ok (.aload_n 2, 1) := by decide +kernel
theorem dL_law__642 : decode cL_law_ 642 = .ok (.aload_n 0, 1) := by decide +kernel
theorem dL_law__643 : decode cL_law_ 643 = .ok (.iload 4, 2) := by decide +kernel
theorem dL_law__645 : decode cL_law_ 645 = .ok (.iconst 1, 1) := by decide +kernel
theorem dL_law__646 : decode cL_law_ 646 = .ok (.iadd, 1) := by decide +kernel
theorem dL_law__647 : decode cL_law_ 647 = .ok (.iaload, 1) := by decide +kernel
theorem dL_law__648 : decode cL_law_ 648 = .ok (.invokevirtual 178, 3) := by decide +kernel
theorem dL_law__651 : decode cL_law_ 651 = .ok (.istore 6, 2) := by decide +kernel
theorem dL_law__653 : decode cL_law_ 653 = .ok (.aload_n 2, 1) := by decide +kernel
theorem dL_law__654 : decode cL_law_ 654 = .ok (.invokevirtual 157, 3) := by decide +kernel
theorem dL_law__657 : decode cL_law_ 657 = .ok (.iload 5, 2) := by decide +kernel
theorem dL_law__659 : decode cL_law_ 659 = .ok (.if_icmp .eq 5, 3) := by decide +kernel
theorem dL_law__662 : decode cL_law_ 662 = .ok (.iconst 0, 1) := by decide +kernel
theorem dL_law__663 : decode cL_law_ 663 = .ok (.ireturn, 1) := by decide +kernel
theorem dL_law__664 : decode cL_law_ 664 = .ok (.iload 5, 2) := by decide +kernel
theorem dL_law__666 : decode cL_law_ 666 = .ok (.ifCond .ne 15, 3) := by decide +kernel
theorem dL_law__669 : decode cL_law_ 669 = .ok (.aload_n 3, 1) := by decide +kernel
theorem dL_law__670 : decode cL_law_ 670 = .ok (.iconst 0, 1) := by decide +kernel
theorem dL_law__671 : decode cL_law_ 671 = .ok (.laload, 1) := by decide +kernel
theorem dL_law__672 : decode cL_law_ 672 = .ok (.iload 6, 2) := by decide +kernel
theorem dL_law__674 : decode cL_law_ 674 = .ok (.i2l, 1) := by decide +kernel
theorem dL_law__675 : decode cL_law_ 675 = .ok (.lcmp, 1) := by decide +kernel
theorem dL_law__676 : decode cL_law_ 676 = .ok (.ifCond .eq 5, 3) := by decide +kernel
theorem dL_law__679 : decode cL_law_ 679 = .ok (.iconst 0, 1) := by decide +kernel
theorem dL_law__680 : decode cL_law_ 680 = .ok (.ireturn, 1) := by decide +kernel
theorem dL_law__681 : decode cL_law_ 681 = .ok (.goto 2596, 3) := by decide +kernel
theorem dL_law__684 : decode cL_law_ 684 = .ok (.aload_n 1, 1) := by decide +kernel
theorem dL_law__685 : decode cL_law_ 685 = .ok (.aload_n 0, 1) := by decide +kernel
theorem dL_law__686 : decode cL_law_ 686 = .ok (.iload 4, 2) := by decide +kernel
theorem dL_law__688 : decode cL_law_ 688 = .ok (.iconst 1, 1) := by decide +kernel
theorem dL_law__689 : decode cL_law_ 689 = .ok (.iadd, 1) := by decide +kernel
theorem dL_law__690 : decode cL_law_ 690 = .ok (.iaload, 1) := by decide +kernel
theorem dL_law__691 : decode cL_law_ 691 = .ok (.aload_n 0, 1) := by decide +kernel
theorem dL_law__692 : decode cL_law_ 692 = .ok (.iload 4, 2) := by decide +kernel
theorem dL_law__694 : decode cL_law_ 694 = .ok (.iconst 2, 1) := by decide +kernel
theorem dL_law__695 : decode cL_law_ 695 = .ok (.iadd, 1) := by decide +kernel
theorem dL_law__696 : decode cL_law_ 696 = .ok (.iaload, 1) := by decide +kernel
theorem dL_law__697 : decode cL_law_ 697 = .ok (.aload_n 3, 1) := by decide +kernel
theorem dL_law__698 : decode cL_law_ 698 = .ok (.invokestatic 179, 3) := by decide +kernel
theorem dL_law__701 : decode cL_law_ 701 = .ok (.istore 5, 2) := by decide +kernel
theorem dL_law__703 : decode cL_law_ 703 = .ok (.aload_n 2, 1) := by decide +kernel
theorem dL_law__704 : decode cL_law_ 704 = .ok (.aload_n 0, 1) := by decide +kernel
theorem dL_law__705 : decode cL_law_ 705 = .ok (.iload 4, 2) := by decide +kernel
theorem dL_law__707 : decode cL_law_ 707 = .ok (.iconst 1, 1) := by decide +kernel
theorem dL_law__708 : decode cL_law_ 708 = .ok (.iadd, 1) := by decide +kernel
theorem dL_law__709 : decode cL_law_ 709 = .ok (.iaload, 1) := by decide +kernel
theorem dL_law__710 : decode cL_law_ 710 = .ok (.aload_n 0, 1) := by decide +kernel
theorem dL_law__711 : decode cL_law_ 711 = .ok (.iload 4, 2) := by decide +kernel
theorem dL_law__713 : decode cL_law_ 713 = .ok (.iconst 2, 1) := by decide +kernel
theorem dL_law__714 : decode cL_law_ 714 = .ok (.iadd, 1) := by decide +kernel
theorem dL_law__715 : decode cL_law_ 715 = .ok (.iaload, 1) := by decide +kernel
theorem dL_law__716 : decode cL_law_ 716 = .ok (.invokevirtual 181, 3) := by decide +kernel
theorem dL_law__719 : decode cL_law_ 719 = .ok (.istore 6, 2) := by decide +kernel
theorem dL_law__721 : decode cL_law_ 721 = .ok (.aload_n 2, 1) := by decide +kernel
theorem dL_law__722 : decode cL_law_ 722 = .ok (.invokevirtual 157, 3) := by decide +kernel
theorem dL_law__725 : decode cL_law_ 725 = .ok (.iload 5, 2) := by decide +kernel
theorem dL_law__727 : decode cL_law_ 727 = .ok (.if_icmp .eq 5, 3) := by decide +kernel
theorem dL_law__730 : decode cL_law_ 730 = .ok (.iconst 0, 1) := by decide +kernel
theorem dL_law__731 : decode cL_law_ 731 = .ok (.ireturn, 1) := by decide +kernel
theorem dL_law__732 : decode cL_law_ 732 = .ok (.iload 5, 2) := by decide +kernel
theorem dL_law__734 : decode cL_law_ 734 = .ok (.ifCond .ne 15, 3) := by decide +kernel
theorem dL_law__737 : decode cL_law_ 737 = .ok (.aload_n 3, 1) := by decide +kernel
theorem dL_law__738 : decode cL_law_ 738 = .ok (.iconst 0, 1) := by decide +kernel
theorem dL_law__739 : decode cL_law_ 739 = .ok (.laload, 1) := by decide +kernel
theorem dL_law__740 : decode cL_law_ 740 = .ok (.iload 6, 2) := by decide +kernel
theorem dL_law__742 : decode cL_law_ 742 = .ok (.i2l, 1) := by decide +kernel
theorem dL_law__743 : decode cL_law_ 743 = .ok (.lcmp, 1) := by decide +kernel
theorem dL_law__744 : decode cL_law_ 744 = .ok (.ifCond .eq 5, 3) := by decide +kernel
theorem dL_law__747 : decode cL_law_ 747 = .ok (.iconst 0, 1) := by decide +kernel
theorem dL_law__748 : decode cL_law_ 748 = .ok (.ireturn, 1) := by decide +kernel
theorem dL_law__749 : decode cL_law_ 749 = .ok (.goto 2528, 3) := by decide +kernel
theorem dL_law__752 : decode cL_law_ 752 = .ok (.aload_n 1, 1) := by decide +kernel
theorem dL_law__753 : decode cL_law_ 753 = .ok (.aload_n 0, 1) := by decide +kernel
theorem dL_law__754 : decode cL_law_ 754 = .ok (.iload 4, 2) := by decide +kernel
theorem dL_law__756 : decode cL_law_ 756 = .ok (.iconst 1, 1) := by decide +kernel
theorem dL_law__757 : decode cL_law_ 757 = .ok (.iadd, 1) := by decide +kernel
theorem dL_law__758 : decode cL_law_ 758 = .ok (.iaload, 1) := by decide +kernel
theorem dL_law__759 : decode cL_law_ 759 = .ok (.aload_n 0, 1) := by decide +kernel
theorem dL_law__760 : decode cL_law_ 760 = .ok (.iload 4, 2) := by decide +kernel
theorem dL_law__762 : decode cL_law_ 762 = .ok (.iconst 2, 1) := by decide +kernel
theorem dL_law__763 : decode cL_law_ 763 = .ok (.iadd, 1) := by decide +kernel
theorem dL_law__764 : decode cL_law_ 764 = .ok (.iaload, 1) := by decide +kernel
theorem dL_law__765 : decode cL_law_ 765 = .ok (.aload_n 3, 1) := by decide +kernel
theorem dL_law__766 : decode cL_law_ 766 = .ok (.invokestatic 182, 3) := by decide +kernel
theorem dL_law__769 : decode cL_law_ 769 = .ok (.istore 5, 2) := by decide +kernel
theorem dL_law__771 : decode cL_law_ 771 = .ok (.aload_n 2, 1) := by decide +kernel
theorem dL_law__772 : decode cL_law_ 772 = .ok (.aload_n 0, 1) := by decide +kernel
theorem dL_law__773 : decode cL_law_ 773 = .ok (.iload 4, 2) := by decide +kernel
theorem dL_law__775 : decode cL_law_ 775 = .ok (.iconst 1, 1) := by decide +kernel
theorem dL_law__776 : decode cL_law_ 776 = .ok (.iadd, 1) := by decide +kernel
theorem dL_law__777 : decode cL_law_ 777 = .ok (.iaload, 1) := by decide +kernel
theorem dL_law__778 : decode cL_law_ 778 = .ok (.aload_n 0, 1) := by decide +kernel
theorem dL_law__779 : decode cL_law_ 779 = .ok (.iload 4, 2) := by decide +kernel
theorem dL_law__781 : decode cL_law_ 781 = .ok (.iconst 2, 1) := by decide +kernel
theorem dL_law__782 : decode cL_law_ 782 = .ok (.iadd, 1) := by decide +kernel
theorem dL_law__783 : decode cL_law_ 783 = .ok (.iaload, 1) := by decide +kernel
theorem dL_law__784 : decode cL_law_ 784 = .ok (.invokevirtual 184, 3) := by decide +kernel
theorem dL_law__787 : decode cL_law_ 787 = .ok (.istore 6, 2) := by decide +kernel
theorem dL_law__789 : decode cL_law_ 789 = .ok (.aload_n 2, 1) := by decide +kernel
theorem dL_law__790 : decode cL_law_ 790 = .ok (.invokevirtual 157, 3) := by decide +kernel
theorem dL_law__793 : decode cL_law_ 793 = .ok (.iload 5, 2) := by decide +kernel
theorem dL_law__795 : decode cL_law_ 795 = .ok (.if_icmp .eq 5, 3) := by decide +kernel
theorem dL_law__798 : decode cL_law_ 798 = .ok (.iconst 0, 1) := by decide +kernel
theorem dL_law__799 : decode cL_law_ 799 = .ok (.ireturn, 1) := by decide +kernel
theorem dL_law__800 : decode cL_law_ 800 = .ok (.iload 5, 2) := by decide +kernel
theorem dL_law__802 : decode cL_law_ 802 = .ok (.ifCond .ne 22, 3) := by decide +kernel
theorem dL_law__805 : decode cL_law_ 805 = .ok (.aload_n 3, 1) := by decide +kernel
theorem dL_law__806 : decode cL_law_ 806 = .ok (.iconst 0, 1) := by decide +kernel
theorem dL_law__807 : decode cL_law_ 807 = .ok (.laload, 1) := by decide +kernel
theorem dL_law__808 : decode cL_law_ 808 = .ok (.iload 6, 2) := by decide +kernel
theorem dL_law__810 : decode cL_law_ 810 = .ok (.ifCond .eq 7, 3) := by decide +kernel
theorem dL_law__813 : decode cL_law_ 813 = .ok (.lconst 1, 1) := by decide +kernel
theorem dL_law__814 : decode cL_law_ 814 = .ok (.goto 4, 3) := by decide +kernel
theorem dL_law__817 : decode cL_law_ 817 = .ok (.lconst 0, 1) := by decide +kernel
theorem dL_law__818 : decode cL_law_ 818 = .ok (.lcmp, 1) := by decide +kernel
theorem dL_law__819 : decode cL_law_ 819 = .ok (.ifCond .eq 5, 3) := by decide +kernel
theorem dL_law__822 : decode cL_law_ 822 = .ok (.iconst 0, 1) := by decide +kernel
theorem dL_law__823 : decode cL_law_ 823 = .ok (.ireturn, 1) := by decide +kernel
theorem dL_law__824 : decode cL_law_ 824 = .ok (.goto 2453, 3) := by decide +kernel
theorem dL_law__827 : decode cL_law_ 827 = .ok (.aload_n 1, 1) := by decide +kernel
theorem dL_law__828 : decode cL_law_ 828 = .ok (.aload_n 0, 1) := by decide +kernel
theorem dL_law__829 : decode cL_law_ 829 = .ok (.iload 4, 2) := by decide +kernel
theorem dL_law__831 : decode cL_law_ 831 = .ok (.iconst 1, 1) := by decide +kernel
theorem dL_law__832 : decode cL_law_ 832 = .ok (.iadd, 1) := by decide +kernel
theorem dL_law__833 : decode cL_law_ 833 = .ok (.iaload, 1) := by decide +kernel
theorem dL_law__834 : decode cL_law_ 834 = .ok (.aload_n 0, 1) := by decide +kernel
theorem dL_law__835 : decode cL_law_ 835 = .ok (.iload 4, 2) := by decide +kernel
theorem dL_law__837 : decode cL_law_ 837 = .ok (.iconst 2, 1) := by decide +kernel
theorem dL_law__838 : decode cL_law_ 838 = .ok (.iadd, 1) := by decide +kernel
theorem dL_law__839 : decode cL_law_ 839 = .ok (.iaload, 1) := by decide +kernel
theorem dL_law__840 : decode cL_law_ 840 = .ok (.aload_n 0, 1) := by decide +kernel
theorem dL_law__841 : decode cL_law_ 841 = .ok (.iload 4, 2) := by decide +kernel
theorem dL_law__843 : decode cL_law_ 843 = .ok (.iconst 3, 1) := by decide +kernel
theorem dL_law__844 : decode cL_law_ 844 = .ok (.iadd, 1) := by decide +kernel
theorem dL_law__845 : decode cL_law_ 845 = .ok (.iaload, 1) := by decide +kernel
theorem dL_law__846 : decode cL_law_ 846 = .ok (.aload_n 3, 1) := by decide +kernel
theorem dL_law__847 : decode cL_law_ 847 = .ok (.invokestatic 185, 3) := by decide +kernel
theorem dL_law__850 : decode cL_law_ 850 = .ok (.istore 5, 2) := by decide +kernel
theorem dL_law__852 : decode cL_law_ 852 = .ok (.aload_n 2, 1) := by decide +kernel
theorem dL_law__853 : decode cL_law_ 853 = .ok (.aload_n 0, 1) := by decide +kernel
theorem dL_law__854 : decode cL_law_ 854 = .ok (.iload 4, 2) := by decide +kernel
theorem dL_law__856 : decode cL_law_ 856 = .ok (.iconst 1, 1) := by decide +kernel
theorem dL_law__857 : decode cL_law_ 857 = .ok (.iadd, 1) := by decide +kernel
theorem dL_law__858 : decode cL_law_ 858 = .ok (.iaload, 1) := by decide +kernel
theorem dL_law__859 : decode cL_law_ 859 = .ok (.aload_n 0, 1) := by decide +kernel
theorem dL_law__860 : decode cL_law_ 860 = .ok (.iload 4, 2) := by decide +kernel
theorem dL_law__862 : decode cL_law_ 862 = .ok (.iconst 2, 1) := by decide +kernel
theorem dL_law__863 : decode cL_law_ 863 = .ok (.iadd, 1) := by decide +kernel
theorem dL_law__864 : decode cL_law_ 864 = .ok (.iaload, 1) := by decide +kernel
theorem dL_law__865 : decode cL_law_ 865 = .ok (.aload_n 0, 1) := by decide +kernel
theorem dL_law__866 : decode cL_law_ 866 = .ok (.iload 4, 2) := by decide +kernel
theorem dL_law__868 : decode cL_law_ 868 = .ok (.iconst 3, 1) := by decide +kernel
theorem dL_law__869 : decode cL_law_ 869 = .ok (.iadd, 1) := by decide +kernel
theorem dL_law__870 : decode cL_law_ 870 = .ok (.iaload, 1) := by decide +kernel
theorem dL_law__871 : decode cL_law_ 871 = .ok (.invokevirtual 187, 3) := by decide +kernel
theorem dL_law__874 : decode cL_law_ 874 = .ok (.istore 6, 2) := by decide +kernel
theorem dL_law__876 : decode cL_law_ 876 = .ok (.aload_n 2, 1) := by decide +kernel
theorem dL_law__877 : decode cL_law_ 877 = .ok (.invokevirtual 157, 3) := by decide +kernel
theorem dL_law__880 : decode cL_law_ 880 = .ok (.iload 5, 2) := by decide +kernel
theorem dL_law__882 : decode cL_law_ 882 = .ok (.if_icmp .eq 5, 3) := by decide +kernel
theorem dL_law__885 : decode cL_law_ 885 = .ok (.iconst 0, 1) := by decide +kernel
theorem dL_law__886 : decode cL_law_ 886 = .ok (.ireturn, 1) := by decide +kernel
theorem dL_law__887 : decode cL_law_ 887 = .ok (.iload 5, 2) := by decide +kernel
theorem dL_law__889 : decode cL_law_ 889 = .ok (.ifCond .ne 15, 3) := by decide +kernel
theorem dL_law__892 : decode cL_law_ 892 = .ok (.aload_n 3, 1) := by decide +kernel
theorem dL_law__893 : decode cL_law_ 893 = .ok (.iconst 0, 1) := by decide +kernel
theorem dL_law__894 : decode cL_law_ 894 = .ok (.laload, 1) := by decide +kernel
theorem dL_law__895 : decode cL_law_ 895 = .ok (.iload 6, 2) := by decide +kernel
theorem dL_law__897 : decode cL_law_ 897 = .ok (.i2l, 1) := by decide +kernel
theorem dL_law__898 : decode cL_law_ 898 = .ok (.lcmp, 1) := by decide +kernel
theorem dL_law__899 : decode cL_law_ 899 = .ok (.ifCond .eq 5, 3) := by decide +kernel
theorem dL_law__902 : decode cL_law_ 902 = .ok (.iconst 0, 1) := by decide +kernel
theorem dL_law__903 : decode cL_law_ 903 = .ok (.ireturn, 1) := by decide +kernel
theorem dL_law__904 : decode cL_law_ 904 = .ok (.goto 2373, 3) := by decide +kernel
theorem dL_law__907 : decode cL_law_ 907 = .ok (.aload_n 1, 1) := by decide +kernel
theorem dL_law__908 : decode cL_law_ 908 = .ok (.aload_n 0, 1) := by decide +kernel
theorem dL_law__909 : decode cL_law_ 909 = .ok (.iload 4, 2) := by decide +kernel
theorem dL_law__911 : decode cL_law_ 911 = .ok (.iconst 1, 1) := by decide +kernel
theorem dL_law__912 : decode cL_law_ 912 = .ok (.iadd, 1) := by decide +kernel
theorem dL_law__913 : decode cL_law_ 913 = .ok (.iaload, 1) := by decide +kernel
theorem dL_law__914 : decode cL_law_ 914 = .ok (.aload_n 0, 1) := by decide +kernel
theorem dL_law__915 : decode cL_law_ 915 = .ok (.iload 4, 2) := by decide +kernel
theorem dL_law__917 : decode cL_law_ 917 = .ok (.iconst 2, 1) := by decide +kernel
theorem dL_law__918 : decode cL_law_ 918 = .ok (.iadd, 1) := by decide +kernel
theorem dL_law__919 : decode cL_law_ 919 = .ok (.iaload, 1) := by decide +kernel
theorem dL_law__920 : decode cL_law_ 920 = .ok (.aload_n 3, 1) := by decide +kernel
theorem dL_law__921 : decode cL_law_ 921 = .ok (.invokestatic 188, 3) := by decide +kernel
theorem dL_law__924 : decode cL_law_ 924 = .ok (.istore 5, 2) := by decide +kernel
theorem dL_law__926 : decode cL_law_ 926 = .ok (.aload_n 2, 1) := by decide +kernel
theorem dL_law__927 : decode cL_law_ 927 = .ok (.aload_n 0, 1) := by decide +kernel
theorem dL_law__928 : decode cL_law_ 928 = .ok (.iload 4, 2) := by decide +kernel
theorem dL_law__930 : decode cL_law_ 930 = .ok (.iconst 1, 1) := by decide +kernel
theorem dL_law__931 : decode cL_law_ 931 = .ok (.iadd, 1) := by decide +kernel
theorem dL_law__932 : decode cL_law_ 932 = .ok (.iaload, 1) := by decide +kernel
theorem dL_law__933 : decode cL_law_ 933 = .ok (.aload_n 0, 1) := by decide +kernel
theorem dL_law__934 : decode cL_law_ 934 = .ok (.iload 4, 2) := by decide +kernel
theorem dL_law__936 : decode cL_law_ 936 = .ok (.iconst 2, 1) := by decide +kernel
theorem dL_law__937 : decode cL_law_ 937 = .ok (.iadd, 1) := by decide +kernel
theorem dL_law__938 : decode cL_law_ 938 = .ok (.iaload, 1) := by decide +kernel
theorem dL_law__939 : decode cL_law_ 939 = .ok (.invokevirtual 190, 3) := by decide +kernel
theorem dL_law__942 : decode cL_law_ 942 = .ok (.istore 6, 2) := by decide +kernel
theorem dL_law__944 : decode cL_law_ 944 = .ok (.aload_n 2, 1) := by decide +kernel
theorem dL_law__945 : decode cL_law_ 945 = .ok (.invokevirtual 157, 3) := by decide +kernel
theorem dL_law__948 : decode cL_law_ 948 = .ok (.iload 5, 2) := by decide +kernel
theorem dL_law__950 : decode cL_law_ 950 = .ok (.if_icmp .eq 5, 3) := by decide +kernel
theorem dL_law__953 : decode cL_law_ 953 = .ok (.iconst 0, 1) := by decide +kernel
theorem dL_law__954 : decode cL_law_ 954 = .ok (.ireturn, 1) := by decide +kernel
theorem dL_law__955 : decode cL_law_ 955 = .ok (.iload 5, 2) := by decide +kernel
theorem dL_law__957 : decode cL_law_ 957 = .ok (.ifCond .ne 15, 3) := by decide +kernel
theorem dL_law__960 : decode cL_law_ 960 = .ok (.aload_n 3, 1) := by decide +kernel
theorem dL_law__961 : decode cL_law_ 961 = .ok (.iconst 0, 1) := by decide +kernel
theorem dL_law__962 : decode cL_law_ 962 = .ok (.laload, 1) := by decide +kernel
theorem dL_law__963 : decode cL_law_ 963 = .ok (.iload 6, 2) := by decide +kernel
theorem dL_law__965 : decode cL_law_ 965 = .ok (.i2l, 1) := by decide +kernel
theorem dL_law__966 : decode cL_law_ 966 = .ok (.lcmp, 1) := by decide +kernel
theorem dL_law__967 : decode cL_law_ 967 = .ok (.ifCond .eq 5, 3) := by decide +kernel
theorem dL_law__970 : decode cL_law_ 970 = .ok (.iconst 0, 1) := by decide +kernel
theorem dL_law__971 : decode cL_law_ 971 = .ok (.ireturn, 1) := by decide +kernel
theorem dL_law__972 : decode cL_law_ 972 = .ok (.goto 2305, 3) := by decide +kernel
theorem dL_law__975 : decode cL_law_ 975 = .ok (.aload_n 1, 1) := by decide +kernel
theorem dL_law__976 : decode cL_law_ 976 = .ok (.aload_n 0, 1) := by decide +kernel
theorem dL_law__977 : decode cL_law_ 977 = .ok (.iload 4, 2) := by decide +kernel
theorem dL_law__979 : decode cL_law_ 979 = .ok (.iconst 1, 1) := by decide +kernel
theorem dL_law__980 : decode cL_law_ 980 = .ok (.iadd, 1) := by decide +kernel
theorem dL_law__981 : decode cL_law_ 981 = .ok (.iaload, 1) := by decide +kernel
theorem dL_law__982 : decode cL_law_ 982 = .ok (.aload_n 3, 1) := by decide +kernel
theorem dL_law__983 : decode cL_law_ 983 = .ok (.invokestatic 191, 3) := by decide +kernel
theorem dL_law__986 : decode cL_law_ 986 = .ok (.istore 5, 2) := by decide +kernel
theorem dL_law__988 : decode cL_law_ 988 = .ok (.aload_n 2, 1) := by decide +kernel
theorem dL_law__989 : decode cL_law_ 989 = .ok (.aload_n 0, 1) := by decide +kernel
theorem dL_law__990 : decode cL_law_ 990 = .ok (.iload 4, 2) := by decide +kernel
theorem dL_law__992 : decode cL_law_ 992 = .ok (.iconst 1, 1) := by decide +kernel
theorem dL_law__993 : decode cL_law_ 993 = .ok (.iadd, 1) := by decide +kernel
theorem dL_law__994 : decode cL_law_ 994 = .ok (.iaload, 1) := by decide +kernel
theorem dL_law__995 : decode cL_law_ 995 = .ok (.invokevirtual 193, 3) := by decide +kernel
theorem dL_law__998 : decode cL_law_ 998 = .ok (.istore 6, 2) := by decide +kernel
theorem dL_law__1000 : decode cL_law_ 1000 = .ok (.aload_n 2, 1) := by decide +kernel
theorem dL_law__1001 : decode cL_law_ 1001 = .ok (.invokevirtual 157, 3) := by decide +kernel
theorem dL_law__1004 : decode cL_law_ 1004 = .ok (.iload 5, 2) := by decide +kernel
theorem dL_law__1006 : decode cL_law_ 1006 = .ok (.if_icmp .eq 5, 3) := by decide +kernel
theorem dL_law__1009 : decode cL_law_ 1009 = .ok (.iconst 0, 1) := by decide +kernel
theorem dL_law__1010 : decode cL_law_ 1010 = .ok (.ireturn, 1) := by decide +kernel
theorem dL_law__1011 : decode cL_law_ 1011 = .ok (.iload 5, 2) := by decide +kernel
theorem dL_law__1013 : decode cL_law_ 1013 = .ok (.ifCond .ne 15, 3) := by decide +kernel
theorem dL_law__1016 : decode cL_law_ 1016 = .ok (.aload_n 3, 1) := by decide +kernel
theorem dL_law__1017 : decode cL_law_ 1017 = .ok (.iconst 0, 1) := by decide +kernel
theorem dL_law__1018 : decode cL_law_ 1018 = .ok (.laload, 1) := by decide +kernel
theorem dL_law__1019 : decode cL_law_ 1019 = .ok (.iload 6, 2) := by decide +kernel
theorem dL_law__1021 : decode cL_law_ 1021 = .ok (.i2l, 1) := by decide +kernel
theorem dL_law__1022 : decode cL_law_ 1022 = .ok (.lcmp, 1) := by decide +kernel
theorem dL_law__1023 : decode cL_law_ 1023 = .ok (.ifCond .eq 5, 3) := by decide +kernel
theorem dL_law__1026 : decode cL_law_ 1026 = .ok (.iconst 0, 1) := by decide +kernel
theorem dL_law__1027 : decode cL_law_ 1027 = .ok (.ireturn, 1) := by decide +kernel
theorem dL_law__1028 : decode cL_law_ 1028 = .ok (.goto 2249, 3) := by decide +kernel
theorem dL_law__1031 : decode cL_law_ 1031 = .ok (.aload_n 1, 1) := by decide +kernel
theorem dL_law__1032 : decode cL_law_ 1032 = .ok (.aload_n 0, 1) := by decide +kernel
theorem dL_law__1033 : decode cL_law_ 1033 = .ok (.iload 4, 2) := by decide +kernel
theorem dL_law__1035 : decode cL_law_ 1035 = .ok (.iconst 1, 1) := by decide +kernel
theorem dL_law__1036 : decode cL_law_ 1036 = .ok (.iadd, 1) := by decide +kernel
theorem dL_law__1037 : decode cL_law_ 1037 = .ok (.iaload, 1) := by decide +kernel
theorem dL_law__1038 : decode cL_law_ 1038 = .ok (.aload_n 0, 1) := by decide +kernel
theorem dL_law__1039 : decode cL_law_ 1039 = .ok (.iload 4, 2) := by decide +kernel
theorem dL_law__1041 : decode cL_law_ 1041 = .ok (.iconst 2, 1) := by decide +kernel
theorem dL_law__1042 : decode cL_law_ 1042 = .ok (.iadd, 1) := by decide +kernel
theorem dL_law__1043 : decode cL_law_ 1043 = .ok (.iaload, 1) := by decide +kernel
theorem dL_law__1044 : decode cL_law_ 1044 = .ok (.aload_n 3, 1) := by decide +kernel
theorem dL_law__1045 : decode cL_law_ 1045 = .ok (.invokestatic 194, 3) := by decide +kernel
theorem dL_law__1048 : decode cL_law_ 1048 = .ok (.istore 5, 2) := by decide +kernel
theorem dL_law__1050 : decode cL_law_ 1050 = .ok (.aload_n 2, 1) := by decide +kernel
theorem dL_law__1051 : decode cL_law_ 1051 = .ok (.aload_n 0, 1) := by decide +kernel
theorem dL_law__1052 : decode cL_law_ 1052 = .ok (.iload 4, 2) := by decide +kernel
theorem dL_law__1054 : decode cL_law_ 1054 = .ok (.iconst 1, 1) := by decide +kernel
theorem dL_law__1055 : decode cL_law_ 1055 = .ok (.iadd, 1) := by decide +kernel
theorem dL_law__1056 : decode cL_law_ 1056 = .ok (.iaload, 1) := by decide +kernel
theorem dL_law__1057 : decode cL_law_ 1057 = .ok (.aload_n 0, 1) := by decide +kernel
theorem dL_law__1058 : decode cL_law_ 1058 = .ok (.iload 4, 2) := by decide +kernel
theorem dL_law__1060 : decode cL_law_ 1060 = .ok (.iconst 2, 1) := by decide +kernel
theorem dL_law__1061 : decode cL_law_ 1061 = .ok (.iadd, 1) := by decide +kernel
theorem dL_law__1062 : decode cL_law_ 1062 = .ok (.iaload, 1) := by decide +kernel
theorem dL_law__1063 : decode cL_law_ 1063 = .ok (.invokevirtual 196, 3) := by decide +kernel
theorem dL_law__1066 : decode cL_law_ 1066 = .ok (.istore 6, 2) := by decide +kernel
theorem dL_law__1068 : decode cL_law_ 1068 = .ok (.aload_n 2, 1) := by decide +kernel
theorem dL_law__1069 : decode cL_law_ 1069 = .ok (.invokevirtual 157, 3) := by decide +kernel
theorem dL_law__1072 : decode cL_law_ 1072 = .ok (.iload 5, 2) := by decide +kernel
theorem dL_law__1074 : decode cL_law_ 1074 = .ok (.if_icmp .eq 5, 3) := by decide +kernel
theorem dL_law__1077 : decode cL_law_ 1077 = .ok (.iconst 0, 1) := by decide +kernel
theorem dL_law__1078 : decode cL_law_ 1078 = .ok (.ireturn, 1) := by decide +kernel
theorem dL_law__1079 : decode cL_law_ 1079 = .ok (.iload 5, 2) := by decide +kernel
theorem dL_law__1081 : decode cL_law_ 1081 = .ok (.ifCond .ne 15, 3) := by decide +kernel
theorem dL_law__1084 : decode cL_law_ 1084 = .ok (.aload_n 3, 1) := by decide +kernel
theorem dL_law__1085 : decode cL_law_ 1085 = .ok (.iconst 0, 1) := by decide +kernel
theorem dL_law__1086 : decode cL_law_ 1086 = .ok (.laload, 1) := by decide +kernel
theorem dL_law__1087 : decode cL_law_ 1087 = .ok (.iload 6, 2) := by decide +kernel
theorem dL_law__1089 : decode cL_law_ 1089 = .ok (.i2l, 1) := by decide +kernel
theorem dL_law__1090 : decode cL_law_ 1090 = .ok (.lcmp, 1) := by decide +kernel
theorem dL_law__1091 : decode cL_law_ 1091 = .ok (.ifCond .eq 5, 3) := by decide +kernel
theorem dL_law__1094 : decode cL_law_ 1094 = .ok (.iconst 0, 1) := by decide +kernel
theorem dL_law__1095 : decode cL_law_ 1095 = .ok (.ireturn, 1) := by decide +kernel
theorem dL_law__1096 : decode cL_law_ 1096 = .ok (.goto 2181, 3) := by decide +kernel
theorem dL_law__1099 : decode cL_law_ 1099 = .ok (.aload_n 1, 1) := by decide +kernel
theorem dL_law__1100 : decode cL_law_ 1100 = .ok (.aload_n 0, 1) := by decide +kernel
theorem dL_law__1101 : decode cL_law_ 1101 = .ok (.iload 4, 2) := by decide +kernel
theorem dL_law__1103 : decode cL_law_ 1103 = .ok (.iconst 1, 1) := by decide +kernel
theorem dL_law__1104 : decode cL_law_ 1104 = .ok (.iadd, 1) := by decide +kernel
theorem dL_law__1105 : decode cL_law_ 1105 = .ok (.iaload, 1) := by decide +kernel
theorem dL_law__1106 : decode cL_law_ 1106 = .ok (.aload_n 0, 1) := by decide +kernel
theorem dL_law__1107 : decode cL_law_ 1107 = .ok (.iload 4, 2) := by decide +kernel
theorem dL_law__1109 : decode cL_law_ 1109 = .ok (.iconst 2, 1) := by decide +kernel
theorem dL_law__1110 : decode cL_law_ 1110 = .ok (.iadd, 1) := by decide +kernel
theorem dL_law__1111 : decode cL_law_ 1111 = .ok (.iaload, 1) := by decide +kernel
theorem dL_law__1112 : decode cL_law_ 1112 = .ok (.aload_n 3, 1) := by decide +kernel
theorem dL_law__1113 : decode cL_law_ 1113 = .ok (.invokestatic 197, 3) := by decide +kernel
theorem dL_law__1116 : decode cL_law_ 1116 = .ok (.istore 5, 2) := by decide +kernel
theorem dL_law__1118 : decode cL_law_ 1118 = .ok (.aload_n 2, 1) := by decide +kernel
theorem dL_law__1119 : decode cL_law_ 1119 = .ok (.aload_n 0, 1) := by decide +kernel
theorem dL_law__1120 : decode cL_law_ 1120 = .ok (.iload 4, 2) := by decide +kernel
theorem dL_law__1122 : decode cL_law_ 1122 = .ok (.iconst 1, 1) := by decide +kernel
theorem dL_law__1123 : decode cL_law_ 1123 = .ok (.iadd, 1) := by decide +kernel
theorem dL_law__1124 : decode cL_law_ 1124 = .ok (.iaload, 1) := by decide +kernel
theorem dL_law__1125 : decode cL_law_ 1125 = .ok (.aload_n 0, 1) := by decide +kernel
theorem dL_law__1126 : decode cL_law_ 1126 = .ok (.iload 4, 2) := by decide +kernel
theorem dL_law__1128 : decode cL_law_ 1128 = .ok (.iconst 2, 1) := by decide +kernel
theorem dL_law__1129 : decode cL_law_ 1129 = .ok (.iadd, 1) := by decide +kernel
theorem dL_law__1130 : decode cL_law_ 1130 = .ok (.iaload, 1) := by decide +kernel
theorem dL_law__1131 : decode cL_law_ 1131 = .ok (.invokevirtual 199, 3) := by decide +kernel
theorem dL_law__1134 : decode cL_law_ 1134 = .ok (.istore 6, 2) := by decide +kernel
theorem dL_law__1136 : decode cL_law_ 1136 = .ok (.aload_n 2, 1) := by decide +kernel
theorem dL_law__1137 : decode cL_law_ 1137 = .ok (.invokevirtual 157, 3) := by decide +kernel
theorem dL_law__1140 : decode cL_law_ 1140 = .ok (.iload 5, 2) := by decide +kernel
theorem dL_law__1142 : decode cL_law_ 1142 = .ok (.if_icmp .eq 5, 3) := by decide +kernel
theorem dL_law__1145 : decode cL_law_ 1145 = .ok (.iconst 0, 1) := by decide +kernel
theorem dL_law__1146 : decode cL_law_ 1146 = .ok (.ireturn, 1) := by decide +kernel
theorem dL_law__1147 : decode cL_law_ 1147 = .ok (.iload 5, 2) := by decide +kernel
theorem dL_law__1149 : decode cL_law_ 1149 = .ok (.ifCond .ne 15, 3) := by decide +kernel
theorem dL_law__1152 : decode cL_law_ 1152 = .ok (.aload_n 3, 1) := by decide +kernel
theorem dL_law__1153 : decode cL_law_ 1153 = .ok (.iconst 0, 1) := by decide +kernel
theorem dL_law__1154 : decode cL_law_ 1154 = .ok (.laload, 1) := by decide +kernel
theorem dL_law__1155 : decode cL_law_ 1155 = .ok (.iload 6, 2) := by decide +kernel
theorem dL_law__1157 : decode cL_law_ 1157 = .ok (.i2l, 1) := by decide +kernel
theorem dL_law__1158 : decode cL_law_ 1158 = .ok (.lcmp, 1) := by decide +kernel
theorem dL_law__1159 : decode cL_law_ 1159 = .ok (.ifCond .eq 5, 3) := by decide +kernel
theorem dL_law__1162 : decode cL_law_ 1162 = .ok (.iconst 0, 1) := by decide +kernel
theorem dL_law__1163 : decode cL_law_ 1163 = .ok (.ireturn, 1) := by decide +kernel
theorem dL_law__1164 : decode cL_law_ 1164 = .ok (.goto 2113, 3) := by decide +kernel
theorem dL_law__1167 : decode cL_law_ 1167 = .ok (.aload_n 1, 1) := by decide +kernel
theorem dL_law__1168 : decode cL_law_ 1168 = .ok (.aload_n 0, 1) := by decide +kernel
theorem dL_law__1169 : decode cL_law_ 1169 = .ok (.iload 4, 2) := by decide +kernel
theorem dL_law__1171 : decode cL_law_ 1171 = .ok (.iconst 1, 1) := by decide +kernel
theorem dL_law__1172 : decode cL_law_ 1172 = .ok (.iadd, 1) := by decide +kernel
theorem dL_law__1173 : decode cL_law_ 1173 = .ok (.iaload, 1) := by decide +kernel
theorem dL_law__1174 : decode cL_law_ 1174 = .ok (.aload_n 3, 1) := by decide +kernel
theorem dL_law__1175 : decode cL_law_ 1175 = .ok (.invokestatic 200, 3) := by decide +kernel
theorem dL_law__1178 : decode cL_law_ 1178 = .ok (.istore 5, 2) := by decide +kernel
theorem dL_law__1180 : decode cL_law_ 1180 = .ok (.aload_n 2, 1) := by decide +kernel
theorem dL_law__1181 : decode cL_law_ 1181 = .ok (.aload_n 0, 1) := by decide +kernel
theorem dL_law__1182 : decode cL_law_ 1182 = .ok (.iload 4, 2) := by decide +kernel
theorem dL_law__1184 : decode cL_law_ 1184 = .ok (.iconst 1, 1) := by decide +kernel
theorem dL_law__1185 : decode cL_law_ 1185 = .ok (.iadd, 1) := by decide +kernel
theorem dL_law__1186 : decode cL_law_ 1186 = .ok (.iaload, 1) := by decide +kernel
theorem dL_law__1187 : decode cL_law_ 1187 = .ok (.invokevirtual 202, 3) := by decide +kernel
theorem dL_law__1190 : decode cL_law_ 1190 = .ok (.istore 6, 2) := by decide +kernel
theorem dL_law__1192 : decode cL_law_ 1192 = .ok (.aload_n 2, 1) := by decide +kernel
theorem dL_law__1193 : decode cL_law_ 1193 = .ok (.invokevirtual 157, 3) := by decide +kernel
theorem dL_law__1196 : decode cL_law_ 1196 = .ok (.iload 5, 2) := by decide +kernel
theorem dL_law__1198 : decode cL_law_ 1198 = .ok (.if_icmp .eq 5, 3) := by decide +kernel
theorem dL_law__1201 : decode cL_law_ 1201 = .ok (.iconst 0, 1) := by decide +kernel
theorem dL_law__1202 : decode cL_law_ 1202 = .ok (.ireturn, 1) := by decide +kernel
theorem dL_law__1203 : decode cL_law_ 1203 = .ok (.iload 5, 2) := by decide +kernel
theorem dL_law__1205 : decode cL_law_ 1205 = .ok (.ifCond .ne 15, 3) := by decide +kernel
theorem dL_law__1208 : decode cL_law_ 1208 = .ok (.aload_n 3, 1) := by decide +kernel
theorem dL_law__1209 : decode cL_law_ 1209 = .ok (.iconst 0, 1) := by decide +kernel
theorem dL_law__1210 : decode cL_law_ 1210 = .ok (.laload, 1) := by decide +kernel
theorem dL_law__1211 : decode cL_law_ 1211 = .ok (.iload 6, 2) := by decide +kernel
theorem dL_law__1213 : decode cL_law_ 1213 = .ok (.i2l, 1) := by decide +kernel
theorem dL_law__1214 : decode cL_law_ 1214 = .ok (.lcmp, 1) := by decide +kernel
theorem dL_law__1215 : decode cL_law_ 1215 = .ok (.ifCond .eq 5, 3) := by decide +kernel
theorem dL_law__1218 : decode cL_law_ 1218 = .ok (.iconst 0, 1) := by decide +kernel
theorem dL_law__1219 : decode cL_law_ 1219 = .ok (.ireturn, 1) := by decide +kernel
theorem dL_law__1220 : decode cL_law_ 1220 = .ok (.goto 2057, 3) := by decide +kernel
theorem dL_law__1223 : decode cL_law_ 1223 = .ok (.aload_n 1, 1) := by decide +kernel
theorem dL_law__1224 : decode cL_law_ 1224 = .ok (.aload_n 0, 1) := by decide +kernel
theorem dL_law__1225 : decode cL_law_ 1225 = .ok (.iload 4, 2) := by decide +kernel
theorem dL_law__1227 : decode cL_law_ 1227 = .ok (.iconst 1, 1) := by decide +kernel
theorem dL_law__1228 : decode cL_law_ 1228 = .ok (.iadd, 1) := by decide +kernel
theorem dL_law__1229 : decode cL_law_ 1229 = .ok (.iaload, 1) := by decide +kernel
theorem dL_law__1230 : decode cL_law_ 1230 = .ok (.aload_n 3, 1) := by decide +kernel
theorem dL_law__1231 : decode cL_law_ 1231 = .ok (.invokestatic 203, 3) := by decide +kernel
theorem dL_law__1234 : decode cL_law_ 1234 = .ok (.istore 5, 2) := by decide +kernel
theorem dL_law__1236 : decode cL_law_ 1236 = .ok (.aload_n 2, 1) := by decide +kernel
theorem dL_law__1237 : decode cL_law_ 1237 = .ok (.aload_n 0, 1) := by decide +kernel
theorem dL_law__1238 : decode cL_law_ 1238 = .ok (.iload 4, 2) := by decide +kernel
theorem dL_law__1240 : decode cL_law_ 1240 = .ok (.iconst 1, 1) := by decide +kernel
theorem dL_law__1241 : decode cL_law_ 1241 = .ok (.iadd, 1) := by decide +kernel
theorem dL_law__1242 : decode cL_law_ 1242 = .ok (.iaload, 1) := by decide +kernel
theorem dL_law__1243 : decode cL_law_ 1243 = .ok (.invokevirtual 205, 3) := by decide +kernel
theorem dL_law__1246 : decode cL_law_ 1246 = .ok (.istore 6, 2) := by decide +kernel
theorem dL_law__1248 : decode cL_law_ 1248 = .ok (.aload_n 2, 1) := by decide +kernel
theorem dL_law__1249 : decode cL_law_ 1249 = .ok (.invokevirtual 157, 3) := by decide +kernel
theorem dL_law__1252 : decode cL_law_ 1252 = .ok (.iload 5, 2) := by decide +kernel
theorem dL_law__1254 : decode cL_law_ 1254 = .ok (.if_icmp .eq 5, 3) := by decide +kernel
theorem dL_law__1257 : decode cL_law_ 1257 = .ok (.iconst 0, 1) := by decide +kernel
theorem dL_law__1258 : decode cL_law_ 1258 = .ok (.ireturn, 1) := by decide +kernel
theorem dL_law__1259 : decode cL_law_ 1259 = .ok (.iload 5, 2) := by decide +kernel
theorem dL_law__1261 : decode cL_law_ 1261 = .ok (.ifCond .ne 15, 3) := by decide +kernel
theorem dL_law__1264 : decode cL_law_ 1264 = .ok (.aload_n 3, 1) := by decide +kernel
theorem dL_law__1265 : decode cL_law_ 1265 = .ok (.iconst 0, 1) := by decide +kernel
theorem dL_law__1266 : decode cL_law_ 1266 = .ok (.laload, 1) := by decide +kernel
theorem dL_law__1267 : decode cL_law_ 1267 = .ok (.iload 6, 2) := by decide +kernel
theorem dL_law__1269 : decode cL_law_ 1269 = .ok (.i2l, 1) := by decide +kernel
theorem dL_law__1270 : decode cL_law_ 1270 = .ok (.lcmp, 1) := by decide +kernel
theorem dL_law__1271 : decode cL_law_ 1271 = .ok (.ifCond .eq 5, 3) := by decide +kernel
theorem dL_law__1274 : decode cL_law_ 1274 = .ok (.iconst 0, 1) := by decide +kernel
theorem dL_law__1275 : decode cL_law_ 1275 = .ok (.ireturn, 1) := by decide +kernel
theorem dL_law__1276 : decode cL_law_ 1276 = .ok (.goto 2001, 3) := by decide +kernel
theorem dL_law__1279 : decode cL_law_ 1279 = .ok (.aload_n 1, 1) := by decide +kernel
theorem dL_law__1280 : decode cL_law_ 1280 = .ok (.aload_n 0, 1) := by decide +kernel
theorem dL_law__1281 : decode cL_law_ 1281 = .ok (.iload 4, 2) := by decide +kernel
theorem dL_law__1283 : decode cL_law_ 1283 = .ok (.iconst 1, 1) := by decide +kernel
theorem dL_law__1284 : decode cL_law_ 1284 = .ok (.iadd, 1) := by decide +kernel
theorem dL_law__1285 : decode cL_law_ 1285 = .ok (.iaload, 1) := by decide +kernel
theorem dL_law__1286 : decode cL_law_ 1286 = .ok (.aload_n 3, 1) := by decide +kernel
theorem dL_law__1287 : decode cL_law_ 1287 = .ok (.invokestatic 206, 3) := by decide +kernel
theorem dL_law__1290 : decode cL_law_ 1290 = .ok (.istore 5, 2) := by decide +kernel
theorem dL_law__1292 : decode cL_law_ 1292 = .ok (.aload_n 2, 1) := by decide +kernel
theorem dL_law__1293 : decode cL_law_ 1293 = .ok (.aload_n 0, 1) := by decide +kernel
theorem dL_law__1294 : decode cL_law_ 1294 = .ok (.iload 4, 2) := by decide +kernel
theorem dL_law__1296 : decode cL_law_ 1296 = .ok (.iconst 1, 1) := by decide +kernel
theorem dL_law__1297 : decode cL_law_ 1297 = .ok (.iadd, 1) := by decide +kernel
theorem dL_law__1298 : decode cL_law_ 1298 = .ok (.iaload, 1) := by decide +kernel
theorem dL_law__1299 : decode cL_law_ 1299 = .ok (.invokevirtual 208, 3) := by decide +kernel
theorem dL_law__1302 : decode cL_law_ 1302 = .ok (.istore 6, 2) := by decide +kernel
theorem dL_law__1304 : decode cL_law_ 1304 = .ok (.aload_n 2, 1) := by decide +kernel
theorem dL_law__1305 : decode cL_law_ 1305 = .ok (.invokevirtual 157, 3) := by decide +kernel
theorem dL_law__1308 : decode cL_law_ 1308 = .ok (.iload 5, 2) := by decide +kernel
theorem dL_law__1310 : decode cL_law_ 1310 = .ok (.if_icmp .eq 5, 3) := by decide +kernel
theorem dL_law__1313 : decode cL_law_ 1313 = .ok (.iconst 0, 1) := by decide +kernel
theorem dL_law__1314 : decode cL_law_ 1314 = .ok (.ireturn, 1) := by decide +kernel
theorem dL_law__1315 : decode cL_law_ 1315 = .ok (.iload 5, 2) := by decide +kernel
theorem dL_law__1317 : decode cL_law_ 1317 = .ok (.ifCond .ne 15, 3) := by decide +kernel
theorem dL_law__1320 : decode cL_law_ 1320 = .ok (.aload_n 3, 1) := by decide +kernel
theorem dL_law__1321 : decode cL_law_ 1321 = .ok (.iconst 0, 1) := by decide +kernel
theorem dL_law__1322 : decode cL_law_ 1322 = .ok (.laload, 1) := by decide +kernel
theorem dL_law__1323 : decode cL_law_ 1323 = .ok (.iload 6, 2) := by decide +kernel
theorem dL_law__1325 : decode cL_law_ 1325 = .ok (.i2l, 1) := by decide +kernel
theorem dL_law__1326 : decode cL_law_ 1326 = .ok (.lcmp, 1) := by decide +kernel
theorem dL_law__1327 : decode cL_law_ 1327 = .ok (.ifCond .eq 5, 3) := by decide +kernel
theorem dL_law__1330 : decode cL_law_ 1330 = .ok (.iconst 0, 1) := by decide +kernel
theorem dL_law__1331 : decode cL_law_ 1331 = .ok (.ireturn, 1) := by decide +kernel
theorem dL_law__1332 : decode cL_law_ 1332 = .ok (.goto 1945, 3) := by decide +kernel
theorem dL_law__1335 : decode cL_law_ 1335 = .ok (.aload_n 1, 1) := by decide +kernel
theorem dL_law__1336 : decode cL_law_ 1336 = .ok (.aload_n 0, 1) := by decide +kernel
theorem dL_law__1337 : decode cL_law_ 1337 = .ok (.iload 4, 2) := by decide +kernel
theorem dL_law__1339 : decode cL_law_ 1339 = .ok (.iconst 1, 1) := by decide +kernel
theorem dL_law__1340 : decode cL_law_ 1340 = .ok (.iadd, 1) := by decide +kernel
theorem dL_law__1341 : decode cL_law_ 1341 = .ok (.iaload, 1) := by decide +kernel
theorem dL_law__1342 : decode cL_law_ 1342 = .ok (.aload_n 3, 1) := by decide +kernel
theorem dL_law__1343 : decode cL_law_ 1343 = .ok (.invokestatic 209, 3) := by decide +kernel
theorem dL_law__1346 : decode cL_law_ 1346 = .ok (.istore 5, 2) := by decide +kernel
theorem dL_law__1348 : decode cL_law_ 1348 = .ok (.aload_n 2, 1) := by decide +kernel
theorem dL_law__1349 : decode cL_law_ 1349 = .ok (.aload_n 0, 1) := by decide +kernel
theorem dL_law__1350 : decode cL_law_ 1350 = .ok (.iload 4, 2) := by decide +kernel
theorem dL_law__1352 : decode cL_law_ 1352 = .ok (.iconst 1, 1) := by decide +kernel
theorem dL_law__1353 : decode cL_law_ 1353 = .ok (.iadd, 1) := by decide +kernel
theorem dL_law__1354 : decode cL_law_ 1354 = .ok (.iaload, 1) := by decide +kernel
theorem dL_law__1355 : decode cL_law_ 1355 = .ok (.invokevirtual 211, 3) := by decide +kernel
theorem dL_law__1358 : decode cL_law_ 1358 = .ok (.istore 6, 2) := by decide +kernel
theorem dL_law__1360 : decode cL_law_ 1360 = .ok (.aload_n 2, 1) := by decide +kernel
theorem dL_law__1361 : decode cL_law_ 1361 = .ok (.invokevirtual 157, 3) := by decide +kernel
theorem dL_law__1364 : decode cL_law_ 1364 = .ok (.iload 5, 2) := by decide +kernel
theorem dL_law__1366 : decode cL_law_ 1366 = .ok (.if_icmp .eq 5, 3) := by decide +kernel
theorem dL_law__1369 : decode cL_law_ 1369 = .ok (.iconst 0, 1) := by decide +kernel
theorem dL_law__1370 : decode cL_law_ 1370 = .ok (.ireturn, 1) := by decide +kernel
theorem dL_law__1371 : decode cL_law_ 1371 = .ok (.iload 5, 2) := by decide +kernel
theorem dL_law__1373 : decode cL_law_ 1373 = .ok (.ifCond .ne 15, 3) := by decide +kernel
theorem dL_law__1376 : decode cL_law_ 1376 = .ok (.aload_n 3, 1) := by decide +kernel
theorem dL_law__1377 : decode cL_law_ 1377 = .ok (.iconst 0, 1) := by decide +kernel
theorem dL_law__1378 : decode cL_law_ 1378 = .ok (.laload, 1) := by decide +kernel
theorem dL_law__1379 : decode cL_law_ 1379 = .ok (.iload 6, 2) := by decide +kernel
theorem dL_law__1381 : decode cL_law_ 1381 = .ok (.i2l, 1) := by decide +kernel
theorem dL_law__1382 : decode cL_law_ 1382 = .ok (.lcmp, 1) := by decide +kernel
theorem dL_law__1383 : decode cL_law_ 1383 = .ok (.ifCond .eq 5, 3) := by decide +kernel
theorem dL_law__1386 : decode cL_law_ 1386 = .ok (.iconst 0, 1) := by decide +kernel
theorem dL_law__1387 : decode cL_law_ 1387 = .ok (.ireturn, 1) := by decide +kernel
theorem dL_law__1388 : decode cL_law_ 1388 = .ok (.goto 1889, 3) := by decide +kernel
theorem dL_law__1391 : decode cL_law_ 1391 = .ok (.aload_n 1, 1) := by decide +kernel
theorem dL_law__1392 : decode cL_law_ 1392 = .ok (.aload_n 0, 1) := by decide +kernel
theorem dL_law__1393 : decode cL_law_ 1393 = .ok (.iload 4, 2) := by decide +kernel
theorem dL_law__1395 : decode cL_law_ 1395 = .ok (.iconst 1, 1) := by decide +kernel
theorem dL_law__1396 : decode cL_law_ 1396 = .ok (.iadd, 1) := by decide +kernel
theorem dL_law__1397 : decode cL_law_ 1397 = .ok (.iaload, 1) := by decide +kernel
theorem dL_law__1398 : decode cL_law_ 1398 = .ok (.aload_n 0, 1) := by decide +kernel
theorem dL_law__1399 : decode cL_law_ 1399 = .ok (.iload 4, 2) := by decide +kernel
theorem dL_law__1401 : decode cL_law_ 1401 = .ok (.iconst 2, 1) := by decide +kernel
theorem dL_law__1402 : decode cL_law_ 1402 = .ok (.iadd, 1) := by decide +kernel
theorem dL_law__1403 : decode cL_law_ 1403 = .ok (.iaload, 1) := by decide +kernel
theorem dL_law__1404 : decode cL_law_ 1404 = .ok (.aload_n 3, 1) := by decide +kernel
theorem dL_law__1405 : decode cL_law_ 1405 = .ok (.invokestatic 212, 3) := by decide +kernel
theorem dL_law__1408 : decode cL_law_ 1408 = .ok (.istore 5, 2) := by decide +kernel
theorem dL_law__1410 : decode cL_law_ 1410 = .ok (.aload_n 2, 1) := by decide +kernel
theorem dL_law__1411 : decode cL_law_ 1411 = .ok (.aload_n 0, 1) := by decide +kernel
theorem dL_law__1412 : decode cL_law_ 1412 = .ok (.iload 4, 2) := by decide +kernel
theorem dL_law__1414 : decode cL_law_ 1414 = .ok (.iconst 1, 1) := by decide +kernel
theorem dL_law__1415 : decode cL_law_ 1415 = .ok (.iadd, 1) := by decide +kernel
theorem dL_law__1416 : decode cL_law_ 1416 = .ok (.iaload, 1) := by decide +kernel
theorem dL_law__1417 : decode cL_law_ 1417 = .ok (.aload_n 0, 1) := by decide +kernel
theorem dL_law__1418 : decode cL_law_ 1418 = .ok (.iload 4, 2) := by decide +kernel
theorem dL_law__1420 : decode cL_law_ 1420 = .ok (.iconst 2, 1) := by decide +kernel
theorem dL_law__1421 : decode cL_law_ 1421 = .ok (.iadd, 1) := by decide +kernel
theorem dL_law__1422 : decode cL_law_ 1422 = .ok (.iaload, 1) := by decide +kernel
theorem dL_law__1423 : decode cL_law_ 1423 = .ok (.invokevirtual 214, 3) := by decide +kernel
theorem dL_law__1426 : decode cL_law_ 1426 = .ok (.istore 6, 2) := by decide +kernel
theorem dL_law__1428 : decode cL_law_ 1428 = .ok (.aload_n 2, 1) := by decide +kernel
theorem dL_law__1429 : decode cL_law_ 1429 = .ok (.invokevirtual 157, 3) := by decide +kernel
theorem dL_law__1432 : decode cL_law_ 1432 = .ok (.iload 5, 2) := by decide +kernel
theorem dL_law__1434 : decode cL_law_ 1434 = .ok (.if_icmp .eq 5, 3) := by decide +kernel
theorem dL_law__1437 : decode cL_law_ 1437 = .ok (.iconst 0, 1) := by decide +kernel
theorem dL_law__1438 : decode cL_law_ 1438 = .ok (.ireturn, 1) := by decide +kernel
theorem dL_law__1439 : decode cL_law_ 1439 = .ok (.iload 5, 2) := by decide +kernel
theorem dL_law__1441 : decode cL_law_ 1441 = .ok (.ifCond .ne 15, 3) := by decide +kernel
theorem dL_law__1444 : decode cL_law_ 1444 = .ok (.aload_n 3, 1) := by decide +kernel
theorem dL_law__1445 : decode cL_law_ 1445 = .ok (.iconst 0, 1) := by decide +kernel
theorem dL_law__1446 : decode cL_law_ 1446 = .ok (.laload, 1) := by decide +kernel
theorem dL_law__1447 : decode cL_law_ 1447 = .ok (.iload 6, 2) := by decide +kernel
theorem dL_law__1449 : decode cL_law_ 1449 = .ok (.i2l, 1) := by decide +kernel
theorem dL_law__1450 : decode cL_law_ 1450 = .ok (.lcmp, 1) := by decide +kernel
theorem dL_law__1451 : decode cL_law_ 1451 = .ok (.ifCond .eq 5, 3) := by decide +kernel
theorem dL_law__1454 : decode cL_law_ 1454 = .ok (.iconst 0, 1) := by decide +kernel
theorem dL_law__1455 : decode cL_law_ 1455 = .ok (.ireturn, 1) := by decide +kernel
theorem dL_law__1456 : decode cL_law_ 1456 = .ok (.goto 1821, 3) := by decide +kernel
theorem dL_law__1459 : decode cL_law_ 1459 = .ok (.aload_n 1, 1) := by decide +kernel
theorem dL_law__1460 : decode cL_law_ 1460 = .ok (.aload_n 0, 1) := by decide +kernel
theorem dL_law__1461 : decode cL_law_ 1461 = .ok (.iload 4, 2) := by decide +kernel
theorem dL_law__1463 : decode cL_law_ 1463 = .ok (.iconst 1, 1) := by decide +kernel
theorem dL_law__1464 : decode cL_law_ 1464 = .ok (.iadd, 1) := by decide +kernel
theorem dL_law__1465 : decode cL_law_ 1465 = .ok (.iaload, 1) := by decide +kernel
theorem dL_law__1466 : decode cL_law_ 1466 = .ok (.aload_n 3, 1) := by decide +kernel
theorem dL_law__1467 : decode cL_law_ 1467 = .ok (.invokestatic 215, 3) := by decide +kernel
theorem dL_law__1470 : decode cL_law_ 1470 = .ok (.istore 5, 2) := by decide +kernel
theorem dL_law__1472 : decode cL_law_ 1472 = .ok (.aload_n 2, 1) := by decide +kernel
theorem dL_law__1473 : decode cL_law_ 1473 = .ok (.aload_n 0, 1) := by decide +kernel
theorem dL_law__1474 : decode cL_law_ 1474 = .ok (.iload 4, 2) := by decide +kernel
theorem dL_law__1476 : decode cL_law_ 1476 = .ok (.iconst 1, 1) := by decide +kernel
theorem dL_law__1477 : decode cL_law_ 1477 = .ok (.iadd, 1) := by decide +kernel
theorem dL_law__1478 : decode cL_law_ 1478 = .ok (.iaload, 1) := by decide +kernel
theorem dL_law__1479 : decode cL_law_ 1479 = .ok (.invokevirtual 217, 3) := by decide +kernel
theorem dL_law__1482 : decode cL_law_ 1482 = .ok (.istore 6, 2) := by decide +kernel
theorem dL_law__1484 : decode cL_law_ 1484 = .ok (.aload_n 2, 1) := by decide +kernel
theorem dL_law__1485 : decode cL_law_ 1485 = .ok (.invokevirtual 157, 3) := by decide +kernel
theorem dL_law__1488 : decode cL_law_ 1488 = .ok (.iload 5, 2) := by decide +kernel
theorem dL_law__1490 : decode cL_law_ 1490 = .ok (.if_icmp .eq 5, 3) := by decide +kernel
theorem dL_law__1493 : decode cL_law_ 1493 = .ok (.iconst 0, 1) := by decide +kernel
theorem dL_law__1494 : decode cL_law_ 1494 = .ok (.ireturn, 1) := by decide +kernel
theorem dL_law__1495 : decode cL_law_ 1495 = .ok (.iload 5, 2) := by decide +kernel
theorem dL_law__1497 : decode cL_law_ 1497 = .ok (.ifCond .ne 15, 3) := by decide +kernel
theorem dL_law__1500 : decode cL_law_ 1500 = .ok (.aload_n 3, 1) := by decide +kernel
theorem dL_law__1501 : decode cL_law_ 1501 = .ok (.iconst 0, 1) := by decide +kernel
theorem dL_law__1502 : decode cL_law_ 1502 = .ok (.laload, 1) := by decide +kernel
theorem dL_law__1503 : decode cL_law_ 1503 = .ok (.iload 6, 2) := by decide +kernel
theorem dL_law__1505 : decode cL_law_ 1505 = .ok (.i2l, 1) := by decide +kernel
theorem dL_law__1506 : decode cL_law_ 1506 = .ok (.lcmp, 1) := by decide +kernel
theorem dL_law__1507 : decode cL_law_ 1507 = .ok (.ifCond .eq 5, 3) := by decide +kernel
theorem dL_law__1510 : decode cL_law_ 1510 = .ok (.iconst 0, 1) := by decide +kernel
theorem dL_law__1511 : decode cL_law_ 1511 = .ok (.ireturn, 1) := by decide +kernel
theorem dL_law__1512 : decode cL_law_ 1512 = .ok (.goto 1765, 3) := by decide +kernel
theorem dL_law__1515 : decode cL_law_ 1515 = .ok (.aload_n 1, 1) := by decide +kernel
theorem dL_law__1516 : decode cL_law_ 1516 = .ok (.aload_n 0, 1) := by decide +kernel
theorem dL_law__1517 : decode cL_law_ 1517 = .ok (.iload 4, 2) := by decide +kernel
theorem dL_law__1519 : decode cL_law_ 1519 = .ok (.iconst 1, 1) := by decide +kernel
theorem dL_law__1520 : decode cL_law_ 1520 = .ok (.iadd, 1) := by decide +kernel
theorem dL_law__1521 : decode cL_law_ 1521 = .ok (.iaload, 1) := by decide +kernel
theorem dL_law__1522 : decode cL_law_ 1522 = .ok (.aload_n 0, 1) := by decide +kernel
theorem dL_law__1523 : decode cL_law_ 1523 = .ok (.iload 4, 2) := by decide +kernel
theorem dL_law__1525 : decode cL_law_ 1525 = .ok (.iconst 2, 1) := by decide +kernel
theorem dL_law__1526 : decode cL_law_ 1526 = .ok (.iadd, 1) := by decide +kernel
theorem dL_law__1527 : decode cL_law_ 1527 = .ok (.iaload, 1) := by decide +kernel
theorem dL_law__1528 : decode cL_law_ 1528 = .ok (.aload_n 3, 1) := by decide +kernel
theorem dL_law__1529 : decode cL_law_ 1529 = .ok (.invokestatic 218, 3) := by decide +kernel
theorem dL_law__1532 : decode cL_law_ 1532 = .ok (.istore 5, 2) := by decide +kernel
theorem dL_law__1534 : decode cL_law_ 1534 = .ok (.aload_n 2, 1) := by decide +kernel
theorem dL_law__1535 : decode cL_law_ 1535 = .ok (.aload_n 0, 1) := by decide +kernel
theorem dL_law__1536 : decode cL_law_ 1536 = .ok (.iload 4, 2) := by decide +kernel
theorem dL_law__1538 : decode cL_law_ 1538 = .ok (.iconst 1, 1) := by decide +kernel
theorem dL_law__1539 : decode cL_law_ 1539 = .ok (.iadd, 1) := by decide +kernel
theorem dL_law__1540 : decode cL_law_ 1540 = .ok (.iaload, 1) := by decide +kernel
theorem dL_law__1541 : decode cL_law_ 1541 = .ok (.aload_n 0, 1) := by decide +kernel
theorem dL_law__1542 : decode cL_law_ 1542 = .ok (.iload 4, 2) := by decide +kernel
theorem dL_law__1544 : decode cL_law_ 1544 = .ok (.iconst 2, 1) := by decide +kernel
theorem dL_law__1545 : decode cL_law_ 1545 = .ok (.iadd, 1) := by decide +kernel
theorem dL_law__1546 : decode cL_law_ 1546 = .ok (.iaload, 1) := by decide +kernel
theorem dL_law__1547 : decode cL_law_ 1547 = .ok (.invokevirtual 220, 3) := by decide +kernel
theorem dL_law__1550 : decode cL_law_ 1550 = .ok (.istore 6, 2) := by decide +kernel
theorem dL_law__1552 : decode cL_law_ 1552 = .ok (.aload_n 2, 1) := by decide +kernel
theorem dL_law__1553 : decode cL_law_ 1553 = .ok (.invokevirtual 157, 3) := by decide +kernel
theorem dL_law__1556 : decode cL_law_ 1556 = .ok (.iload 5, 2) := by decide +kernel
theorem dL_law__1558 : decode cL_law_ 1558 = .ok (.if_icmp .eq 5, 3) := by decide +kernel
theorem dL_law__1561 : decode cL_law_ 1561 = .ok (.iconst 0, 1) := by decide +kernel
theorem dL_law__1562 : decode cL_law_ 1562 = .ok (.ireturn, 1) := by decide +kernel
theorem dL_law__1563 : decode cL_law_ 1563 = .ok (.iload 5, 2) := by decide +kernel
theorem dL_law__1565 : decode cL_law_ 1565 = .ok (.ifCond .ne 15, 3) := by decide +kernel
theorem dL_law__1568 : decode cL_law_ 1568 = .ok (.aload_n 3, 1) := by decide +kernel
theorem dL_law__1569 : decode cL_law_ 1569 = .ok (.iconst 0, 1) := by decide +kernel
theorem dL_law__1570 : decode cL_law_ 1570 = .ok (.laload, 1) := by decide +kernel
theorem dL_law__1571 : decode cL_law_ 1571 = .ok (.iload 6, 2) := by decide +kernel
theorem dL_law__1573 : decode cL_law_ 1573 = .ok (.i2l, 1) := by decide +kernel
theorem dL_law__1574 : decode cL_law_ 1574 = .ok (.lcmp, 1) := by decide +kernel
theorem dL_law__1575 : decode cL_law_ 1575 = .ok (.ifCond .eq 5, 3) := by decide +kernel
theorem dL_law__1578 : decode cL_law_ 1578 = .ok (.iconst 0, 1) := by decide +kernel
theorem dL_law__1579 : decode cL_law_ 1579 = .ok (.ireturn, 1) := by decide +kernel
theorem dL_law__1580 : decode cL_law_ 1580 = .ok (.goto 1697, 3) := by decide +kernel
theorem dL_law__1583 : decode cL_law_ 1583 = .ok (.aload_n 1, 1) := by decide +kernel
theorem dL_law__1584 : decode cL_law_ 1584 = .ok (.aload_n 0, 1) := by decide +kernel
theorem dL_law__1585 : decode cL_law_ 1585 = .ok (.iload 4, 2) := by decide +kernel
theorem dL_law__1587 : decode cL_law_ 1587 = .ok (.iconst 1, 1) := by decide +kernel
theorem dL_law__1588 : decode cL_law_ 1588 = .ok (.iadd, 1) := by decide +kernel
theorem dL_law__1589 : decode cL_law_ 1589 = .ok (.iaload, 1) := by decide +kernel
theorem dL_law__1590 : decode cL_law_ 1590 = .ok (.aload_n 0, 1) := by decide +kernel
theorem dL_law__1591 : decode cL_law_ 1591 = .ok (.iload 4, 2) := by decide +kernel
theorem dL_law__1593 : decode cL_law_ 1593 = .ok (.iconst 2, 1) := by decide +kernel
theorem dL_law__1594 : decode cL_law_ 1594 = .ok (.iadd, 1) := by decide +kernel
theorem dL_law__1595 : decode cL_law_ 1595 = .ok (.iaload, 1) := by decide +kernel
theorem dL_law__1596 : decode cL_law_ 1596 = .ok (.aload_n 3, 1) := by decide +kernel
theorem dL_law__1597 : decode cL_law_ 1597 = .ok (.invokestatic 221, 3) := by decide +kernel
theorem dL_law__1600 : decode cL_law_ 1600 = .ok (.istore 5, 2) := by decide +kernel
theorem dL_law__1602 : decode cL_law_ 1602 = .ok (.aload_n 2, 1) := by decide +kernel
theorem dL_law__1603 : decode cL_law_ 1603 = .ok (.aload_n 0, 1) := by decide +kernel
theorem dL_law__1604 : decode cL_law_ 1604 = .ok (.iload 4, 2) := by decide +kernel
theorem dL_law__1606 : decode cL_law_ 1606 = .ok (.iconst 1, 1) := by decide +kernel
theorem dL_law__1607 : decode cL_law_ 1607 = .ok (.iadd, 1) := by decide +kernel
theorem dL_law__1608 : decode cL_law_ 1608 = .ok (.iaload, 1) := by decide +kernel
theorem dL_law__1609 : decode cL_law_ 1609 = .ok (.aload_n 0, 1) := by decide +kernel
theorem dL_law__1610 : decode cL_law_ 1610 = .ok (.iload 4, 2) := by decide +kernel
theorem dL_law__1612 : decode cL_law_ 1612 = .ok (.iconst 2, 1) := by decide +kernel
theorem dL_law__1613 : decode cL_law_ 1613 = .ok (.iadd, 1) := by decide +kernel
theorem dL_law__1614 : decode cL_law_ 1614 = .ok (.iaload, 1) := by decide +kernel
theorem dL_law__1615 : decode cL_law_ 1615 = .ok (.invokevirtual 223, 3) := by decide +kernel
theorem dL_law__1618 : decode cL_law_ 1618 = .ok (.istore 6, 2) := by decide +kernel
theorem dL_law__1620 : decode cL_law_ 1620 = .ok (.aload_n 2, 1) := by decide +kernel
theorem dL_law__1621 : decode cL_law_ 1621 = .ok (.invokevirtual 157, 3) := by decide +kernel
theorem dL_law__1624 : decode cL_law_ 1624 = .ok (.iload 5, 2) := by decide +kernel
theorem dL_law__1626 : decode cL_law_ 1626 = .ok (.if_icmp .eq 5, 3) := by decide +kernel
theorem dL_law__1629 : decode cL_law_ 1629 = .ok (.iconst 0, 1) := by decide +kernel
theorem dL_law__1630 : decode cL_law_ 1630 = .ok (.ireturn, 1) := by decide +kernel
theorem dL_law__1631 : decode cL_law_ 1631 = .ok (.iload 5, 2) := by decide +kernel
theorem dL_law__1633 : decode cL_law_ 1633 = .ok (.ifCond .ne 15, 3) := by decide +kernel
theorem dL_law__1636 : decode cL_law_ 1636 = .ok (.aload_n 3, 1) := by decide +kernel
theorem dL_law__1637 : decode cL_law_ 1637 = .ok (.iconst 0, 1) := by decide +kernel
theorem dL_law__1638 : decode cL_law_ 1638 = .ok (.laload, 1) := by decide +kernel
theorem dL_law__1639 : decode cL_law_ 1639 = .ok (.iload 6, 2) := by decide +kernel
theorem dL_law__1641 : decode cL_law_ 1641 = .ok (.i2l, 1) := by decide +kernel
theorem dL_law__1642 : decode cL_law_ 1642 = .ok (.lcmp, 1) := by decide +kernel
theorem dL_law__1643 : decode cL_law_ 1643 = .ok (.ifCond .eq 5, 3) := by decide +kernel
theorem dL_law__1646 : decode cL_law_ 1646 = .ok (.iconst 0, 1) := by decide +kernel
theorem dL_law__1647 : decode cL_law_ 1647 = .ok (.ireturn, 1) := by decide +kernel
theorem dL_law__1648 : decode cL_law_ 1648 = .ok (.goto 1629, 3) := by decide +kernel
theorem dL_law__1651 : decode cL_law_ 1651 = .ok (.aload_n 1, 1) := by decide +kernel
theorem dL_law__1652 : decode cL_law_ 1652 = .ok (.aload_n 0, 1) := by decide +kernel
theorem dL_law__1653 : decode cL_law_ 1653 = .ok (.iload 4, 2) := by decide +kernel
theorem dL_law__1655 : decode cL_law_ 1655 = .ok (.iconst 1, 1) := by decide +kernel
theorem dL_law__1656 : decode cL_law_ 1656 = .ok (.iadd, 1) := by decide +kernel
theorem dL_law__1657 : decode cL_law_ 1657 = .ok (.iaload, 1) := by decide +kernel
theorem dL_law__1658 : decode cL_law_ 1658 = .ok (.aload_n 0, 1) := by decide +kernel
theorem dL_law__1659 : decode cL_law_ 1659 = .ok (.iload 4, 2) := by decide +kernel
theorem dL_law__1661 : decode cL_law_ 1661 = .ok (.iconst 2, 1) := by decide +kernel
theorem dL_law__1662 : decode cL_law_ 1662 = .ok (.iadd, 1) := by decide +kernel
theorem dL_law__1663 : decode cL_law_ 1663 = .ok (.iaload, 1) := by decide +kernel
theorem dL_law__1664 : decode cL_law_ 1664 = .ok (.aload_n 3, 1) := by decide +kernel
theorem dL_law__1665 : decode cL_law_ 1665 = .ok (.invokestatic 224, 3) := by decide +kernel
theorem dL_law__1668 : decode cL_law_ 1668 = .ok (.istore 5, 2) := by decide +kernel
theorem dL_law__1670 : decode cL_law_ 1670 = .ok (.aload_n 2, 1) := by decide +kernel
theorem dL_law__1671 : decode cL_law_ 1671 = .ok (.aload_n 0, 1) := by decide +kernel
theorem dL_law__1672 : decode cL_law_ 1672 = .ok (.iload 4, 2) := by decide +kernel
theorem dL_law__1674 : decode cL_law_ 1674 = .ok (.iconst 1, 1) := by decide +kernel
theorem dL_law__1675 : decode cL_law_ 1675 = .ok (.iadd, 1) := by decide +kernel
theorem dL_law__1676 : decode cL_law_ 1676 = .ok (.iaload, 1) := by decide +kernel
theorem dL_law__1677 : decode cL_law_ 1677 = .ok (.aload_n 0, 1) := by decide +kernel
theorem dL_law__1678 : decode cL_law_ 1678 = .ok (.iload 4, 2) := by decide +kernel
theorem dL_law__1680 : decode cL_law_ 1680 = .ok (.iconst 2, 1) := by decide +kernel
theorem dL_law__1681 : decode cL_law_ 1681 = .ok (.iadd, 1) := by decide +kernel
theorem dL_law__1682 : decode cL_law_ 1682 = .ok (.iaload, 1) := by decide +kernel
theorem dL_law__1683 : decode cL_law_ 1683 = .ok (.invokevirtual 226, 3) := by decide +kernel
theorem dL_law__1686 : decode cL_law_ 1686 = .ok (.istore 6, 2) := by decide +kernel
theorem dL_law__1688 : decode cL_law_ 1688 = .ok (.aload_n 2, 1) := by decide +kernel
theorem dL_law__1689 : decode cL_law_ 1689 = .ok (.invokevirtual 157, 3) := by decide +kernel
theorem dL_law__1692 : decode cL_law_ 1692 = .ok (.iload 5, 2) := by decide +kernel
theorem dL_law__1694 : decode cL_law_ 1694 = .ok (.if_icmp .eq 5, 3) := by decide +kernel
theorem dL_law__1697 : decode cL_law_ 1697 = .ok (.iconst 0, 1) := by decide +kernel
theorem dL_law__1698 : decode cL_law_ 1698 = .ok (.ireturn, 1) := by decide +kernel
theorem dL_law__1699 : decode cL_law_ 1699 = .ok (.iload 5, 2) := by decide +kernel
theorem dL_law__1701 : decode cL_law_ 1701 = .ok (.ifCond .ne 15, 3) := by decide +kernel
theorem dL_law__1704 : decode cL_law_ 1704 = .ok (.aload_n 3, 1) := by decide +kernel
theorem dL_law__1705 : decode cL_law_ 1705 = .ok (.iconst 0, 1) := by decide +kernel
theorem dL_law__1706 : decode cL_law_ 1706 = .ok (.laload, 1) := by decide +kernel
theorem dL_law__1707 : decode cL_law_ 1707 = .ok (.iload 6, 2) := by decide +kernel
theorem dL_law__1709 : decode cL_law_ 1709 = .ok (.i2l, 1) := by decide +kernel
theorem dL_law__1710 : decode cL_law_ 1710 = .ok (.lcmp, 1) := by decide +kernel
theorem dL_law__1711 : decode cL_law_ 1711 = .ok (.ifCond .eq 5, 3) := by decide +kernel
theorem dL_law__1714 : decode cL_law_ 1714 = .ok (.iconst 0, 1) := by decide +kernel
theorem dL_law__1715 : decode cL_law_ 1715 = .ok (.ireturn, 1) := by decide +kernel
theorem dL_law__1716 : decode cL_law_ 1716 = .ok (.goto 1561, 3) := by decide +kernel
theorem dL_law__1719 : decode cL_law_ 1719 = .ok (.aload_n 1, 1) := by decide +kernel
theorem dL_law__1720 : decode cL_law_ 1720 = .ok (.aload_n 0, 1) := by decide +kernel
theorem dL_law__1721 : decode cL_law_ 1721 = .ok (.iload 4, 2) := by decide +kernel
theorem dL_law__1723 : decode cL_law_ 1723 = .ok (.iconst 1, 1) := by decide +kernel
theorem dL_law__1724 : decode cL_law_ 1724 = .ok (.iadd, 1) := by decide +kernel
theorem dL_law__1725 : decode cL_law_ 1725 = .ok (.iaload, 1) := by decide +kernel
theorem dL_law__1726 : decode cL_law_ 1726 = .ok (.aload_n 0, 1) := by decide +kernel
theorem dL_law__1727 : decode cL_law_ 1727 = .ok (.iload 4, 2) := by decide +kernel
theorem dL_law__1729 : decode cL_law_ 1729 = .ok (.iconst 2, 1) := by decide +kernel
theorem dL_law__1730 : decode cL_law_ 1730 = .ok (.iadd, 1) := by decide +kernel
theorem dL_law__1731 : decode cL_law_ 1731 = .ok (.iaload, 1) := by decide +kernel
theorem dL_law__1732 : decode cL_law_ 1732 = .ok (.aload_n 0, 1) := by decide +kernel
theorem dL_law__1733 : decode cL_law_ 1733 = .ok (.iload 4, 2) := by decide +kernel
theorem dL_law__1735 : decode cL_law_ 1735 = .ok (.iconst 3, 1) := by decide +kernel
theorem dL_law__1736 : decode cL_law_ 1736 = .ok (.iadd, 1) := by decide +kernel
theorem dL_law__1737 : decode cL_law_ 1737 = .ok (.iaload, 1) := by decide +kernel
theorem dL_law__1738 : decode cL_law_ 1738 = .ok (.aload_n 3, 1) := by decide +kernel
theorem dL_law__1739 : decode cL_law_ 1739 = .ok (.invokestatic 227, 3) := by decide +kernel
theorem dL_law__1742 : decode cL_law_ 1742 = .ok (.istore 5, 2) := by decide +kernel
theorem dL_law__1744 : decode cL_law_ 1744 = .ok (.aload_n 2, 1) := by decide +kernel
theorem dL_law__1745 : decode cL_law_ 1745 = .ok (.aload_n 0, 1) := by decide +kernel
theorem dL_law__1746 : decode cL_law_ 1746 = .ok (.iload 4, 2) := by decide +kernel
theorem dL_law__1748 : decode cL_law_ 1748 = .ok (.iconst 1, 1) := by decide +kernel
theorem dL_law__1749 : decode cL_law_ 1749 = .ok (.iadd, 1) := by decide +kernel
theorem dL_law__1750 : decode cL_law_ 1750 = .ok (.iaload, 1) := by decide +kernel
theorem dL_law__1751 : decode cL_law_ 1751 = .ok (.aload_n 0, 1) := by decide +kernel
theorem dL_law__1752 : decode cL_law_ 1752 = .ok (.iload 4, 2) := by decide +kernel
theorem dL_law__1754 : decode cL_law_ 1754 = .ok (.iconst 2, 1) := by decide +kernel
theorem dL_law__1755 : decode cL_law_ 1755 = .ok (.iadd, 1) := by decide +kernel
theorem dL_law__1756 : decode cL_law_ 1756 = .ok (.iaload, 1) := by decide +kernel
theorem dL_law__1757 : decode cL_law_ 1757 = .ok (.aload_n 0, 1) := by decide +kernel
theorem dL_law__1758 : decode cL_law_ 1758 = .ok (.iload 4, 2) := by decide +kernel
theorem dL_law__1760 : decode cL_law_ 1760 = .ok (.iconst 3, 1) := by decide +kernel
theorem dL_law__1761 : decode cL_law_ 1761 = .ok (.iadd, 1) := by decide +kernel
theorem dL_law__1762 : decode cL_law_ 1762 = .ok (.iaload, 1) := by decide +kernel
theorem dL_law__1763 : decode cL_law_ 1763 = .ok (.invokevirtual 229, 3) := by decide +kernel
theorem dL_law__1766 : decode cL_law_ 1766 = .ok (.istore 6, 2) := by decide +kernel
theorem dL_law__1768 : decode cL_law_ 1768 = .ok (.aload_n 2, 1) := by decide +kernel
theorem dL_law__1769 : decode cL_law_ 1769 = .ok (.invokevirtual 157, 3) := by decide +kernel
theorem dL_law__1772 : decode cL_law_ 1772 = .ok (.iload 5, 2) := by decide +kernel
theorem dL_law__1774 : decode cL_law_ 1774 = .ok (.if_icmp .eq 5, 3) := by decide +kernel
theorem dL_law__1777 : decode cL_law_ 1777 = .ok (.iconst 0, 1) := by decide +kernel
theorem dL_law__1778 : decode cL_law_ 1778 = .ok (.ireturn, 1) := by decide +kernel
theorem dL_law__1779 : decode cL_law_ 1779 = .ok (.iload 5, 2) := by decide +kernel
theorem dL_law__1781 : decode cL_law_ 1781 = .ok (.ifCond .ne 15, 3) := by decide +kernel
theorem dL_law__1784 : decode cL_law_ 1784 = .ok (.aload_n 3, 1) := by decide +kernel
theorem dL_law__1785 : decode cL_law_ 1785 = .ok (.iconst 0, 1) := by decide +kernel
theorem dL_law__1786 : decode cL_law_ 1786 = .ok (.laload, 1) := by decide +kernel
theorem dL_law__1787 : decode cL_law_ 1787 = .ok (.iload 6, 2) := by decide +kernel
theorem dL_law__1789 : decode cL_law_ 1789 = .ok (.i2l, 1) := by decide +kernel
theorem dL_law__1790 : decode cL_law_ 1790 = .ok (.lcmp, 1) := by decide +kernel
theorem dL_law__1791 : decode cL_law_ 1791 = .ok (.ifCond .eq 5, 3) := by decide +kernel
theorem dL_law__1794 : decode cL_law_ 1794 = .ok (.iconst 0, 1) := by decide +kernel
theorem dL_law__1795 : decode cL_law_ 1795 = .ok (.ireturn, 1) := by decide +kernel
theorem dL_law__1796 : decode cL_law_ 1796 = .ok (.goto 1481, 3) := by decide +kernel
theorem dL_law__1799 : decode cL_law_ 1799 = .ok (.aload_n 1, 1) := by decide +kernel
theorem dL_law__1800 : decode cL_law_ 1800 = .ok (.aload_n 0, 1) := by decide +kernel
theorem dL_law__1801 : decode cL_law_ 1801 = .ok (.iload 4, 2) := by decide +kernel
theorem dL_law__1803 : decode cL_law_ 1803 = .ok (.iconst 1, 1) := by decide +kernel
theorem dL_law__1804 : decode cL_law_ 1804 = .ok (.iadd, 1) := by decide +kernel
theorem dL_law__1805 : decode cL_law_ 1805 = .ok (.iaload, 1) := by decide +kernel
theorem dL_law__1806 : decode cL_law_ 1806 = .ok (.aload_n 0, 1) := by decide +kernel
theorem dL_law__1807 : decode cL_law_ 1807 = .ok (.iload 4, 2) := by decide +kernel
theorem dL_law__1809 : decode cL_law_ 1809 = .ok (.iconst 2, 1) := by decide +kernel
theorem dL_law__1810 : decode cL_law_ 1810 = .ok (.iadd, 1) := by decide +kernel
theorem dL_law__1811 : decode cL_law_ 1811 = .ok (.iaload, 1) := by decide +kernel
theorem dL_law__1812 : decode cL_law_ 1812 = .ok (.aload_n 3, 1) := by decide +kernel
theorem dL_law__1813 : decode cL_law_ 1813 = .ok (.invokestatic 230, 3) := by decide +kernel
theorem dL_law__1816 : decode cL_law_ 1816 = .ok (.istore 5, 2) := by decide +kernel
theorem dL_law__1818 : decode cL_law_ 1818 = .ok (.aload_n 2, 1) := by decide +kernel
theorem dL_law__1819 : decode cL_law_ 1819 = .ok (.aload_n 0, 1) := by decide +kernel
theorem dL_law__1820 : decode cL_law_ 1820 = .ok (.iload 4, 2) := by decide +kernel
theorem dL_law__1822 : decode cL_law_ 1822 = .ok (.iconst 1, 1) := by decide +kernel
theorem dL_law__1823 : decode cL_law_ 1823 = .ok (.iadd, 1) := by decide +kernel
theorem dL_law__1824 : decode cL_law_ 1824 = .ok (.iaload, 1) := by decide +kernel
theorem dL_law__1825 : decode cL_law_ 1825 = .ok (.aload_n 0, 1) := by decide +kernel
theorem dL_law__1826 : decode cL_law_ 1826 = .ok (.iload 4, 2) := by decide +kernel
theorem dL_law__1828 : decode cL_law_ 1828 = .ok (.iconst 2, 1) := by decide +kernel
theorem dL_law__1829 : decode cL_law_ 1829 = .ok (.iadd, 1) := by decide +kernel
theorem dL_law__1830 : decode cL_law_ 1830 = .ok (.iaload, 1) := by decide +kernel
theorem dL_law__1831 : decode cL_law_ 1831 = .ok (.invokevirtual 232, 3) := by decide +kernel
theorem dL_law__1834 : decode cL_law_ 1834 = .ok (.istore 6, 2) := by decide +kernel
theorem dL_law__1836 : decode cL_law_ 1836 = .ok (.aload_n 2, 1) := by decide +kernel
theorem dL_law__1837 : decode cL_law_ 1837 = .ok (.invokevirtual 157, 3) := by decide +kernel
theorem dL_law__1840 : decode cL_law_ 1840 = .ok (.iload 5, 2) := by decide +kernel
theorem dL_law__1842 : decode cL_law_ 1842 = .ok (.if_icmp .eq 5, 3) := by decide +kernel
theorem dL_law__1845 : decode cL_law_ 1845 = .ok (.iconst 0, 1) := by decide +kernel
theorem dL_law__1846 : decode cL_law_ 1846 = .ok (.ireturn, 1) := by decide +kernel
theorem dL_law__1847 : decode cL_law_ 1847 = .ok (.iload 5, 2) := by decide +kernel
theorem dL_law__1849 : decode cL_law_ 1849 = .ok (.ifCond .ne 15, 3) := by decide +kernel
theorem dL_law__1852 : decode cL_law_ 1852 = .ok (.aload_n 3, 1) := by decide +kernel
theorem dL_law__1853 : decode cL_law_ 1853 = .ok (.iconst 0, 1) := by decide +kernel
theorem dL_law__1854 : decode cL_law_ 1854 = .ok (.laload, 1) := by decide +kernel
theorem dL_law__1855 : decode cL_law_ 1855 = .ok (.iload 6, 2) := by decide +kernel
theorem dL_law__1857 : decode cL_law_ 1857 = .ok (.i2l, 1) := by decide +kernel
theorem dL_law__1858 : decode cL_law_ 1858 = .ok (.lcmp, 1) := by decide +kernel
theorem dL_law__1859 : decode cL_law_ 1859 = .ok (.ifCond .eq 5, 3) := by decide +kernel
theorem dL_law__1862 : decode cL_law_ 1862 = .ok (.iconst 0, 1) := by decide +kernel
theorem dL_law__1863 : decode cL_law_ 1863 = .ok (.ireturn, 1) := by decide +kernel
theorem dL_law__1864 : decode cL_law_ 1864 = .ok (.goto 1413, 3) := by decide +kernel
theorem dL_law__1867 : decode cL_law_ 1867 = .ok (.aload_n 1, 1) := by decide +kernel
theorem dL_law__1868 : decode cL_law_ 1868 = .ok (.aload_n 0, 1) := by decide +kernel
theorem dL_law__1869 : decode cL_law_ 1869 = .ok (.iload 4, 2) := by decide +kernel
theorem dL_law__1871 : decode cL_law_ 1871 = .ok (.iconst 1, 1) := by decide +kernel
theorem dL_law__1872 : decode cL_law_ 1872 = .ok (.iadd, 1) := by decide +kernel
theorem dL_law__1873 : decode cL_law_ 1873 = .ok (.iaload, 1) := by decide +kernel
theorem dL_law__1874 : decode cL_law_ 1874 = .ok (.aload_n 0, 1) := by decide +kernel
theorem dL_law__1875 : decode cL_law_ 1875 = .ok (.iload 4, 2) := by decide +kernel
theorem dL_law__1877 : decode cL_law_ 1877 = .ok (.iconst 2, 1) := by decide +kernel
theorem dL_law__1878 : decode cL_law_ 1878 = .ok (.iadd, 1) := by decide +kernel
theorem dL_law__1879 : decode cL_law_ 1879 = .ok (.iaload, 1) := by decide +kernel
theorem dL_law__1880 : decode cL_law_ 1880 = .ok (.aload_n 0, 1) := by decide +kernel
theorem dL_law__1881 : decode cL_law_ 1881 = .ok (.iload 4, 2) := by decide +kernel
theorem dL_law__1883 : decode cL_law_ 1883 = .ok (.iconst 3, 1) := by decide +kernel
theorem dL_law__1884 : decode cL_law_ 1884 = .ok (.iadd, 1) := by decide +kernel
theorem dL_law__1885 : decode cL_law_ 1885 = .ok (.iaload, 1) := by decide +kernel
theorem dL_law__1886 : decode cL_law_ 1886 = .ok (.aload_n 0, 1) := by decide +kernel
theorem dL_law__1887 : decode cL_law_ 1887 = .ok (.iload 4, 2) := by decide +kernel
theorem dL_law__1889 : decode cL_law_ 1889 = .ok (.iconst 4, 1) := by decide +kernel
theorem dL_law__1890 : decode cL_law_ 1890 = .ok (.iadd, 1) := by decide +kernel
theorem dL_law__1891 : decode cL_law_ 1891 = .ok (.iaload, 1) := by decide +kernel
theorem dL_law__1892 : decode cL_law_ 1892 = .ok (.aload_n 0, 1) := by decide +kernel
theorem dL_law__1893 : decode cL_law_ 1893 = .ok (.iload 4, 2) := by decide +kernel
theorem dL_law__1895 : decode cL_law_ 1895 = .ok (.iconst 5, 1) := by decide +kernel
theorem dL_law__1896 : decode cL_law_ 1896 = .ok (.iadd, 1) := by decide +kernel
theorem dL_law__1897 : decode cL_law_ 1897 = .ok (.iaload, 1) := by decide +kernel
theorem dL_law__1898 : decode cL_law_ 1898 = .ok (.invokevirtual 233, 3) := by decide +kernel
theorem dL_law__1901 : decode cL_law_ 1901 = .ok (.aload_n 2, 1) := by decide +kernel
theorem dL_law__1902 : decode cL_law_ 1902 = .ok (.aload_n 0, 1) := by decide +kernel
theorem dL_law__1903 : decode cL_law_ 1903 = .ok (.iload 4, 2) := by decide +kernel
theorem dL_law__1905 : decode cL_law_ 1905 = .ok (.iconst 1, 1) := by decide +kernel
theorem dL_law__1906 : decode cL_law_ 1906 = .ok (.iadd, 1) := by decide +kernel
theorem dL_law__1907 : decode cL_law_ 1907 = .ok (.iaload, 1) := by decide +kernel
theorem dL_law__1908 : decode cL_law_ 1908 = .ok (.aload_n 0, 1) := by decide +kernel
theorem dL_law__1909 : decode cL_law_ 1909 = .ok (.iload 4, 2) := by decide +kernel
theorem dL_law__1911 : decode cL_law_ 1911 = .ok (.iconst 2, 1) := by decide +kernel
theorem dL_law__1912 : decode cL_law_ 1912 = .ok (.iadd, 1) := by decide +kernel
theorem dL_law__1913 : decode cL_law_ 1913 = .ok (.iaload, 1) := by decide +kernel
theorem dL_law__1914 : decode cL_law_ 1914 = .ok (.aload_n 0, 1) := by decide +kernel
theorem dL_law__1915 : decode cL_law_ 1915 = .ok (.iload 4, 2) := by decide +kernel
theorem dL_law__1917 : decode cL_law_ 1917 = .ok (.iconst 3, 1) := by decide +kernel
theorem dL_law__1918 : decode cL_law_ 1918 = .ok (.iadd, 1) := by decide +kernel
theorem dL_law__1919 : decode cL_law_ 1919 = .ok (.iaload, 1) := by decide +kernel
theorem dL_law__1920 : decode cL_law_ 1920 = .ok (.aload_n 0, 1) := by decide +kernel
theorem dL_law__1921 : decode cL_law_ 1921 = .ok (.iload 4, 2) := by decide +kernel
theorem dL_law__1923 : decode cL_law_ 1923 = .ok (.iconst 4, 1) := by decide +kernel
theorem dL_law__1924 : decode cL_law_ 1924 = .ok (.iadd, 1) := by decide +kernel
theorem dL_law__1925 : decode cL_law_ 1925 = .ok (.iaload, 1) := by decide +kernel
theorem dL_law__1926 : decode cL_law_ 1926 = .ok (.aload_n 0, 1) := by decide +kernel
theorem dL_law__1927 : decode cL_law_ 1927 = .ok (.iload 4, 2) := by decide +kernel
theorem dL_law__1929 : decode cL_law_ 1929 = .ok (.iconst 5, 1) := by decide +kernel
theorem dL_law__1930 : decode cL_law_ 1930 = .ok (.iadd, 1) := by decide +kernel
theorem dL_law__1931 : decode cL_law_ 1931 = .ok (.iaload, 1) := by decide +kernel
theorem dL_law__1932 : decode cL_law_ 1932 = .ok (.invokevirtual 237, 3) := by decide +kernel
theorem dL_law__1935 : decode cL_law_ 1935 = .ok (.if_icmp .eq 1342, 3) := by decide +kernel
theorem dL_law__1938 : decode cL_law_ 1938 = .ok (.iconst 0, 1) := by decide +kernel
theorem dL_law__1939 : decode cL_law_ 1939 = .ok (.ireturn, 1) := by decide +kernel
theorem dL_law__1940 : decode cL_law_ 1940 = .ok (.aload_n 1, 1) := by decide +kernel
theorem dL_law__1941 : decode cL_law_ 1941 = .ok (.aload_n 0, 1) := by decide +kernel
theorem dL_law__1942 : decode cL_law_ 1942 = .ok (.iload 4, 2) := by decide +kernel
theorem dL_law__1944 : decode cL_law_ 1944 = .ok (.iconst 1, 1) := by decide +kernel
theorem dL_law__1945 : decode cL_law_ 1945 = .ok (.iadd, 1) := by decide +kernel
theorem dL_law__1946 : decode cL_law_ 1946 = .ok (.iaload, 1) := by decide +kernel
theorem dL_law__1947 : decode cL_law_ 1947 = .ok (.aload_n 3, 1) := by decide +kernel
theorem dL_law__1948 : decode cL_law_ 1948 = .ok (.invokestatic 238, 3) := by decide +kernel
theorem dL_law__1951 : decode cL_law_ 1951 = .ok (.istore 5, 2) := by decide +kernel
theorem dL_law__1953 : decode cL_law_ 1953 = .ok (.aload_n 2, 1) := by decide +kernel
theorem dL_law__1954 : decode cL_law_ 1954 = .ok (.aload_n 0, 1) := by decide +kernel
theorem dL_law__1955 : decode cL_law_ 1955 = .ok (.iload 4, 2) := by decide +kernel
theorem dL_law__1957 : decode cL_law_ 1957 = .ok (.iconst 1, 1) := by decide +kernel
theorem dL_law__1958 : decode cL_law_ 1958 = .ok (.iadd, 1) := by decide +kernel
theorem dL_law__1959 : decode cL_law_ 1959 = .ok (.iaload, 1) := by decide +kernel
theorem dL_law__1960 : decode cL_law_ 1960 = .ok (.invokevirtual 240, 3) := by decide +kernel
theorem dL_law__1963 : decode cL_law_ 1963 = .ok (.istore 6, 2) := by decide +kernel
theorem dL_law__1965 : decode cL_law_ 1965 = .ok (.aload_n 2, 1) := by decide +kernel
theorem dL_law__1966 : decode cL_law_ 1966 = .ok (.invokevirtual 157, 3) := by decide +kernel
theorem dL_law__1969 : decode cL_law_ 1969 = .ok (.iload 5, 2) := by decide +kernel
theorem dL_law__1971 : decode cL_law_ 1971 = .ok (.if_icmp .eq 5, 3) := by decide +kernel
theorem dL_law__1974 : decode cL_law_ 1974 = .ok (.iconst 0, 1) := by decide +kernel
theorem dL_law__1975 : decode cL_law_ 1975 = .ok (.ireturn, 1) := by decide +kernel
theorem dL_law__1976 : decode cL_law_ 1976 = .ok (.iload 5, 2) := by decide +kernel
theorem dL_law__1978 : decode cL_law_ 1978 = .ok (.ifCond .ne 15, 3) := by decide +kernel
theorem dL_law__1981 : decode cL_law_ 1981 = .ok (.aload_n 3, 1) := by decide +kernel
theorem dL_law__1982 : decode cL_law_ 1982 = .ok (.iconst 0, 1) := by decide +kernel
theorem dL_law__1983 : decode cL_law_ 1983 = .ok (.laload, 1) := by decide +kernel
theorem dL_law__1984 : decode cL_law_ 1984 = .ok (.iload 6, 2) := by decide +kernel
theorem dL_law__1986 : decode cL_law_ 1986 = .ok (.i2l, 1) := by decide +kernel
theorem dL_law__1987 : decode cL_law_ 1987 = .ok (.lcmp, 1) := by decide +kernel
theorem dL_law__1988 : decode cL_law_ 1988 = .ok (.ifCond .eq 5, 3) := by decide +kernel
theorem dL_law__1991 : decode cL_law_ 1991 = .ok (.iconst 0, 1) := by decide +kernel
theorem dL_law__1992 : decode cL_law_ 1992 = .ok (.ireturn, 1) := by decide +kernel
theorem dL_law__1993 : decode cL_law_ 1993 = .ok (.goto 1284, 3) := by decide +kernel
theorem dL_law__1996 : decode cL_law_ 1996 = .ok (.aload_n 1, 1) := by decide +kernel
theorem dL_law__1997 : decode cL_law_ 1997 = .ok (.invokevirtual 241, 3) := by decide +kernel
theorem dL_law__2000 : decode cL_law_ 2000 = .ok (.aload_n 2, 1) := by decide +kernel
theorem dL_law__2001 : decode cL_law_ 2001 = .ok (.invokevirtual 244, 3) := by decide +kernel
theorem dL_law__2004 : decode cL_law_ 2004 = .ok (.if_icmp .eq 1273, 3) := by decide +kernel
theorem dL_law__2007 : decode cL_law_ 2007 = .ok (.iconst 0, 1) := by decide +kernel
theorem dL_law__2008 : decode cL_law_ 2008 = .ok (.ireturn, 1) := by decide +kernel
theorem dL_law__2009 : decode cL_law_ 2009 = .ok (.aload_n 1, 1) := by decide +kernel
theorem dL_law__2010 : decode cL_law_ 2010 = .ok (.aload_n 0, 1) := by decide +kernel
theorem dL_law__2011 : decode cL_law_ 2011 = .ok (.iload 4, 2) := by decide +kernel
theorem dL_law__2013 : decode cL_law_ 2013 = .ok (.iconst 1, 1) := by decide +kernel
theorem dL_law__2014 : decode cL_law_ 2014 = .ok (.iadd, 1) := by decide +kernel
theorem dL_law__2015 : decode cL_law_ 2015 = .ok (.iaload, 1) := by decide +kernel
theorem dL_law__2016 : decode cL_law_ 2016 = .ok (.aload_n 0, 1) := by decide +kernel
theorem dL_law__2017 : decode cL_law_ 2017 = .ok (.iload 4, 2) := by decide +kernel
theorem dL_law__2019 : decode cL_law_ 2019 = .ok (.iconst 2, 1) := by decide +kernel
theorem dL_law__2020 : decode cL_law_ 2020 = .ok (.iadd, 1) := by decide +kernel
theorem dL_law__2021 : decode cL_law_ 2021 = .ok (.iaload, 1) := by decide +kernel
theorem dL_law__2022 : decode cL_law_ 2022 = .ok (.aload_n 0, 1) := by decide +kernel
theorem dL_law__2023 : decode cL_law_ 2023 = .ok (.iload 4, 2) := by decide +kernel
theorem dL_law__2025 : decode cL_law_ 2025 = .ok (.iconst 3, 1) := by decide +kernel
theorem dL_law__2026 : decode cL_law_ 2026 = .ok (.iadd, 1) := by decide +kernel
theorem dL_law__2027 : decode cL_law_ 2027 = .ok (.iaload, 1) := by decide +kernel
theorem dL_law__2028 : decode cL_law_ 2028 = .ok (.ifCond .eq 7, 3) := by decide +kernel
theorem dL_law__2031 : decode cL_law_ 2031 = .ok (.iconst 1, 1) := by decide +kernel
theorem dL_law__2032 : decode cL_law_ 2032 = .ok (.goto 4, 3) := by decide +kernel
theorem dL_law__2035 : decode cL_law_ 2035 = .ok (.iconst 0, 1) := by decide +kernel
theorem dL_law__2036 : decode cL_law_ 2036 = .ok (.aload_n 3, 1) := by decide +kernel
theorem dL_law__2037 : decode cL_law_ 2037 = .ok (.invokestatic 245, 3) := by decide +kernel
theorem dL_law__2040 : decode cL_law_ 2040 = .ok (.istore 5, 2) := by decide +kernel
theorem dL_law__2042 : decode cL_law_ 2042 = .ok (.aload_n 2, 1) := by decide +kernel
theorem dL_law__2043 : decode cL_law_ 2043 = .ok (.aload_n 0, 1) := by decide +kernel
theorem dL_law__2044 : decode cL_law_ 2044 = .ok (.iload 4, 2) := by decide +kernel
theorem dL_law__2046 : decode cL_law_ 2046 = .ok (.iconst 1, 1) := by decide +kernel
theorem dL_law__2047 : decode cL_law_ 2047 = .ok (.iadd, 1) := by decide +kernel
theorem dL_law__2048 : decode cL_law_ 2048 = .ok (.iaload, 1) := by decide +kernel
theorem dL_law__2049 : decode cL_law_ 2049 = .ok (.aload_n 0, 1) := by decide +kernel
theorem dL_law__2050 : decode cL_law_ 2050 = .ok (.iload 4, 2) := by decide +kernel
theorem dL_law__2052 : decode cL_law_ 2052 = .ok (.iconst 2, 1) := by decide +kernel
theorem dL_law__2053 : decode cL_law_ 2053 = .ok (.iadd, 1) := by decide +kernel
theorem dL_law__2054 : decode cL_law_ 2054 = .ok (.iaload, 1) := by decide +kernel
theorem dL_law__2055 : decode cL_law_ 2055 = .ok (.aload_n 0, 1) := by decide +kernel
theorem dL_law__2056 : decode cL_law_ 2056 = .ok (.iload 4, 2) := by decide +kernel
theorem dL_law__2058 : decode cL_law_ 2058 = .ok (.iconst 3, 1) := by decide +kernel
theorem dL_law__2059 : decode cL_law_ 2059 = .ok (.iadd, 1) := by decide +kernel
theorem dL_law__2060 : decode cL_law_ 2060 = .ok (.iaload, 1) := by decide +kernel
theorem dL_law__2061 : decode cL_law_ 2061 = .ok (.ifCond .eq 7, 3) := by decide +kernel
theorem dL_law__2064 : decode cL_law_ 2064 = .ok (.iconst 1, 1) := by decide +kernel
theorem dL_law__2065 : decode cL_law_ 2065 = .ok (.goto 4, 3) := by decide +kernel
theorem dL_law__2068 : decode cL_law_ 2068 = .ok (.iconst 0, 1) := by decide +kernel
theorem dL_law__2069 : decode cL_law_ 2069 = .ok (.invokevirtual 247, 3) := by decide +kernel
theorem dL_law__2072 : decode cL_law_ 2072 = .ok (.istore 6, 2) := by decide +kernel
theorem dL_law__2074 : decode cL_law_ 2074 = .ok (.aload_n 2, 1) := by decide +kernel
theorem dL_law__2075 : decode cL_law_ 2075 = .ok (.invokevirtual 157, 3) := by decide +kernel
theorem dL_law__2078 : decode cL_law_ 2078 = .ok (.iload 5, 2) := by decide +kernel
theorem dL_law__2080 : decode cL_law_ 2080 = .ok (.if_icmp .eq 5, 3) := by decide +kernel
theorem dL_law__2083 : decode cL_law_ 2083 = .ok (.iconst 0, 1) := by decide +kernel
theorem dL_law__2084 : decode cL_law_ 2084 = .ok (.ireturn, 1) := by decide +kernel
theorem dL_law__2085 : decode cL_law_ 2085 = .ok (.iload 5, 2) := by decide +kernel
theorem dL_law__2087 : decode cL_law_ 2087 = .ok (.ifCond .ne 15, 3) := by decide +kernel
theorem dL_law__2090 : decode cL_law_ 2090 = .ok (.aload_n 3, 1) := by decide +kernel
theorem dL_law__2091 : decode cL_law_ 2091 = .ok (.iconst 0, 1) := by decide +kernel
theorem dL_law__2092 : decode cL_law_ 2092 = .ok (.laload, 1) := by decide +kernel
theorem dL_law__2093 : decode cL_law_ 2093 = .ok (.iload 6, 2) := by decide +kernel
theorem dL_law__2095 : decode cL_law_ 2095 = .ok (.i2l, 1) := by decide +kernel
theorem dL_law__2096 : decode cL_law_ 2096 = .ok (.lcmp, 1) := by decide +kernel
theorem dL_law__2097 : decode cL_law_ 2097 = .ok (.ifCond .eq 5, 3) := by decide +kernel
theorem dL_law__2100 : decode cL_law_ 2100 = .ok (.iconst 0, 1) := by decide +kernel
theorem dL_law__2101 : decode cL_law_ 2101 = .ok (.ireturn, 1) := by decide +kernel
theorem dL_law__2102 : decode cL_law_ 2102 = .ok (.goto 1175, 3) := by decide +kernel
theorem dL_law__2105 : decode cL_law_ 2105 = .ok (.aload_n 1, 1) := by decide +kernel
theorem dL_law__2106 : decode cL_law_ 2106 = .ok (.aload_n 0, 1) := by decide +kernel
theorem dL_law__2107 : decode cL_law_ 2107 = .ok (.iload 4, 2) := by decide +kernel
theorem dL_law__2109 : decode cL_law_ 2109 = .ok (.iconst 1, 1) := by decide +kernel
theorem dL_law__2110 : decode cL_law_ 2110 = .ok (.iadd, 1) := by decide +kernel
theorem dL_law__2111 : decode cL_law_ 2111 = .ok (.iaload, 1) := by decide +kernel
theorem dL_law__2112 : decode cL_law_ 2112 = .ok (.aload_n 3, 1) := by decide +kernel
theorem dL_law__2113 : decode cL_law_ 2113 = .ok (.invokestatic 248, 3) := by decide +kernel
theorem dL_law__2116 : decode cL_law_ 2116 = .ok (.istore 5, 2) := by decide +kernel
theorem dL_law__2118 : decode cL_law_ 2118 = .ok (.aload_n 2, 1) := by decide +kernel
theorem dL_law__2119 : decode cL_law_ 2119 = .ok (.aload_n 0, 1) := by decide +kernel
theorem dL_law__2120 : decode cL_law_ 2120 = .ok (.iload 4, 2) := by decide +kernel
theorem dL_law__2122 : decode cL_law_ 2122 = .ok (.iconst 1, 1) := by decide +kernel
theorem dL_law__2123 : decode cL_law_ 2123 = .ok (.iadd, 1) := by decide +kernel
theorem dL_law__2124 : decode cL_law_ 2124 = .ok (.iaload, 1) := by decide +kernel
theorem dL_law__2125 : decode cL_law_ 2125 = .ok (.invokevirtual 250, 3) := by decide +kernel
theorem dL_law__2128 : decode cL_law_ 2128 = .ok (.istore 6, 2) := by decide +kernel
theorem dL_law__2130 : decode cL_law_ 2130 = .ok (.aload_n 2, 1) := by decide +kernel
theorem dL_law__2131 : decode cL_law_ 2131 = .ok (.invokevirtual 157, 3) := by decide +kernel
theorem dL_law__2134 : decode cL_law_ 2134 = .ok (.iload 5, 2) := by decide +kernel
theorem dL_law__2136 : decode cL_law_ 2136 = .ok (.if_icmp .eq 5, 3) := by decide +kernel
theorem dL_law__2139 : decode cL_law_ 2139 = .ok (.iconst 0, 1) := by decide +kernel
theorem dL_law__2140 : decode cL_law_ 2140 = .ok (.ireturn, 1) := by decide +kernel
theorem dL_law__2141 : decode cL_law_ 2141 = .ok (.iload 5, 2) := by decide +kernel
theorem dL_law__2143 : decode cL_law_ 2143 = .ok (.ifCond .ne 15, 3) := by decide +kernel
theorem dL_law__2146 : decode cL_law_ 2146 = .ok (.aload_n 3, 1) := by decide +kernel
theorem dL_law__2147 : decode cL_law_ 2147 = .ok (.iconst 0, 1) := by decide +kernel
theorem dL_law__2148 : decode cL_law_ 2148 = .ok (.laload, 1) := by decide +kernel
theorem dL_law__2149 : decode cL_law_ 2149 = .ok (.iload 6, 2) := by decide +kernel
theorem dL_law__2151 : decode cL_law_ 2151 = .ok (.i2l, 1) := by decide +kernel
theorem dL_law__2152 : decode cL_law_ 2152 = .ok (.lcmp, 1) := by decide +kernel
theorem dL_law__2153 : decode cL_law_ 2153 = .ok (.ifCond .eq 5, 3) := by decide +kernel
theorem dL_law__2156 : decode cL_law_ 2156 = .ok (.iconst 0, 1) := by decide +kernel
theorem dL_law__2157 : decode cL_law_ 2157 = .ok (.ireturn, 1) := by decide +kernel
theorem dL_law__2158 : decode cL_law_ 2158 = .ok (.goto 1119, 3) := by decide +kernel
theorem dL_law__2161 : decode cL_law_ 2161 = .ok (.aload_n 1, 1) := by decide +kernel
theorem dL_law__2162 : decode cL_law_ 2162 = .ok (.aload_n 0, 1) := by decide +kernel
theorem dL_law__2163 : decode cL_law_ 2163 = .ok (.iload 4, 2) := by decide +kernel
theorem dL_law__2165 : decode cL_law_ 2165 = .ok (.iconst 1, 1) := by decide +kernel
theorem dL_law__2166 : decode cL_law_ 2166 = .ok (.iadd, 1) := by decide +kernel
theorem dL_law__2167 : decode cL_law_ 2167 = .ok (.iaload, 1) := by decide +kernel
theorem dL_law__2168 : decode cL_law_ 2168 = .ok (.aload_n 0, 1) := by decide +kernel
theorem dL_law__2169 : decode cL_law_ 2169 = .ok (.iload 4, 2) := by decide +kernel
theorem dL_law__2171 : decode cL_law_ 2171 = .ok (.iconst 2, 1) := by decide +kernel
theorem dL_law__2172 : decode cL_law_ 2172 = .ok (.iadd, 1) := by decide +kernel
theorem dL_law__2173 : decode cL_law_ 2173 = .ok (.iaload, 1) := by decide +kernel
theorem dL_law__2174 : decode cL_law_ 2174 = .ok (.ifCond .eq 7, 3) := by decide +kernel
theorem dL_law__2177 : decode cL_law_ 2177 = .ok (.iconst 1, 1) := by decide +kernel
theorem dL_law__2178 : decode cL_law_ 2178 = .ok (.goto 4, 3) := by decide +kernel
theorem dL_law__2181 : decode cL_law_ 2181 = .ok (.iconst 0, 1) := by decide +kernel
theorem dL_law__2182 : decode cL_law_ 2182 = .ok (.aload_n 3, 1) := by decide +kernel
theorem dL_law__2183 : decode cL_law_ 2183 = .ok (.invokestatic 251, 3) := by decide +kernel
theorem dL_law__2186 : decode cL_law_ 2186 = .ok (.istore 5, 2) := by decide +kernel
theorem dL_law__2188 : decode cL_law_ 2188 = .ok (.aload_n 2, 1) := by decide +kernel
theorem dL_law__2189 : decode cL_law_ 2189 = .ok (.aload_n 0, 1) := by decide +kernel
theorem dL_law__2190 : decode cL_law_ 2190 = .ok (.iload 4, 2) := by decide +kernel
theorem dL_law__2192 : decode cL_law_ 2192 = .ok (.iconst 1, 1) := by decide +kernel
theorem dL_law__2193 : decode cL_law_ 2193 = .ok (.iadd, 1) := by decide +kernel
theorem dL_law__2194 : decode cL_law_ 2194 = .ok (.iaload, 1) := by decide +kernel
theorem dL_law__2195 : decode cL_law_ 2195 = .ok (.aload_n 0, 1) := by decide +kernel
theorem dL_law__2196 : decode cL_law_ 2196 = .ok (.iload 4, 2) := by decide +kernel
theorem dL_law__2198 : decode cL_law_ 2198 = .ok (.iconst 2, 1) := by decide +kernel
theorem dL_law__2199 : decode cL_law_ 2199 = .ok (.iadd, 1) := by decide +kernel
theorem dL_law__2200 : decode cL_law_ 2200 = .ok (.iaload, 1) := by decide +kernel
theorem dL_law__2201 : decode cL_law_ 2201 = .ok (.ifCond .eq 7, 3) := by decide +kernel
theorem dL_law__2204 : decode cL_law_ 2204 = .ok (.iconst 1, 1) := by decide +kernel
theorem dL_law__2205 : decode cL_law_ 2205 = .ok (.goto 4, 3) := by decide +kernel
theorem dL_law__2208 : decode cL_law_ 2208 = .ok (.iconst 0, 1) := by decide +kernel
theorem dL_law__2209 : decode cL_law_ 2209 = .ok (.invokevirtual 254, 3) := by decide +kernel
theorem dL_law__2212 : decode cL_law_ 2212 = .ok (.istore 6, 2) := by decide +kernel
theorem dL_law__2214 : decode cL_law_ 2214 = .ok (.aload_n 2, 1) := by decide +kernel
theorem dL_law__2215 : decode cL_law_ 2215 = .ok (.invokevirtual 157, 3) := by decide +kernel
theorem dL_law__2218 : decode cL_law_ 2218 = .ok (.iload 5, 2) := by decide +kernel
theorem dL_law__2220 : decode cL_law_ 2220 = .ok (.if_icmp .eq 5, 3) := by decide +kernel
theorem dL_law__2223 : decode cL_law_ 2223 = .ok (.iconst 0, 1) := by decide +kernel
theorem dL_law__2224 : decode cL_law_ 2224 = .ok (.ireturn, 1) := by decide +kernel
theorem dL_law__2225 : decode cL_law_ 2225 = .ok (.iload 5, 2) := by decide +kernel
theorem dL_law__2227 : decode cL_law_ 2227 = .ok (.ifCond .ne 15, 3) := by decide +kernel
theorem dL_law__2230 : decode cL_law_ 2230 = .ok (.aload_n 3, 1) := by decide +kernel
theorem dL_law__2231 : decode cL_law_ 2231 = .ok (.iconst 0, 1) := by decide +kernel
theorem dL_law__2232 : decode cL_law_ 2232 = .ok (.laload, 1) := by decide +kernel
theorem dL_law__2233 : decode cL_law_ 2233 = .ok (.iload 6, 2) := by decide +kernel
theorem dL_law__2235 : decode cL_law_ 2235 = .ok (.i2l, 1) := by decide +kernel
theorem dL_law__2236 : decode cL_law_ 2236 = .ok (.lcmp, 1) := by decide +kernel
theorem dL_law__2237 : decode cL_law_ 2237 = .ok (.ifCond .eq 5, 3) := by decide +kernel
theorem dL_law__2240 : decode cL_law_ 2240 = .ok (.iconst 0, 1) := by decide +kernel
theorem dL_law__2241 : decode cL_law_ 2241 = .ok (.ireturn, 1) := by decide +kernel
theorem dL_law__2242 : decode cL_law_ 2242 = .ok (.goto 1035, 3) := by decide +kernel
theorem dL_law__2245 : decode cL_law_ 2245 = .ok (.aload_n 1, 1) := by decide +kernel
theorem dL_law__2246 : decode cL_law_ 2246 = .ok (.aload_n 0, 1) := by decide +kernel
theorem dL_law__2247 : decode cL_law_ 2247 = .ok (.iload 4, 2) := by decide +kernel
theorem dL_law__2249 : decode cL_law_ 2249 = .ok (.iconst 1, 1) := by decide +kernel
theorem dL_law__2250 : decode cL_law_ 2250 = .ok (.iadd, 1) := by decide +kernel
theorem dL_law__2251 : decode cL_law_ 2251 = .ok (.iaload, 1) := by decide +kernel
theorem dL_law__2252 : decode cL_law_ 2252 = .ok (.aload_n 3, 1) := by decide +kernel
theorem dL_law__2253 : decode cL_law_ 2253 = .ok (.invokestatic 255, 3) := by decide +kernel
theorem dL_law__2256 : decode cL_law_ 2256 = .ok (.istore 5, 2) := by decide +kernel
theorem dL_law__2258 : decode cL_law_ 2258 = .ok (.aload_n 2, 1) := by decide +kernel
theorem dL_law__2259 : decode cL_law_ 2259 = .ok (.aload_n 0, 1) := by decide +kernel
theorem dL_law__2260 : decode cL_law_ 2260 = .ok (.iload 4, 2) := by decide +kernel
theorem dL_law__2262 : decode cL_law_ 2262 = .ok (.iconst 1, 1) := by decide +kernel
theorem dL_law__2263 : decode cL_law_ 2263 = .ok (.iadd, 1) := by decide +kernel
theorem dL_law__2264 : decode cL_law_ 2264 = .ok (.iaload, 1) := by decide +kernel
theorem dL_law__2265 : decode cL_law_ 2265 = .ok (.invokevirtual 257, 3) := by decide +kernel
theorem dL_law__2268 : decode cL_law_ 2268 = .ok (.istore 6, 2) := by decide +kernel
theorem dL_law__2270 : decode cL_law_ 2270 = .ok (.aload_n 2, 1) := by decide +kernel
theorem dL_law__2271 : decode cL_law_ 2271 = .ok (.invokevirtual 157, 3) := by decide +kernel
theorem dL_law__2274 : decode cL_law_ 2274 = .ok (.iload 5, 2) := by decide +kernel
theorem dL_law__2276 : decode cL_law_ 2276 = .ok (.if_icmp .eq 5, 3) := by decide +kernel
theorem dL_law__2279 : decode cL_law_ 2279 = .ok (.iconst 0, 1) := by decide +kernel
theorem dL_law__2280 : decode cL_law_ 2280 = .ok (.ireturn, 1) := by decide +kernel
theorem dL_law__2281 : decode cL_law_ 2281 = .ok (.iload 5, 2) := by decide +kernel
theorem dL_law__2283 : decode cL_law_ 2283 = .ok (.ifCond .ne 15, 3) := by decide +kernel
theorem dL_law__2286 : decode cL_law_ 2286 = .ok (.aload_n 3, 1) := by decide +kernel
theorem dL_law__2287 : decode cL_law_ 2287 = .ok (.iconst 0, 1) := by decide +kernel
theorem dL_law__2288 : decode cL_law_ 2288 = .ok (.laload, 1) := by decide +kernel
theorem dL_law__2289 : decode cL_law_ 2289 = .ok (.iload 6, 2) := by decide +kernel
theorem dL_law__2291 : decode cL_law_ 2291 = .ok (.i2l, 1) := by decide +kernel
theorem dL_law__2292 : decode cL_law_ 2292 = .ok (.lcmp, 1) := by decide +kernel
theorem dL_law__2293 : decode cL_law_ 2293 = .ok (.ifCond .eq 5, 3) := by decide +kernel
theorem dL_law__2296 : decode cL_law_ 2296 = .ok (.iconst 0, 1) := by decide +kernel
theorem dL_law__2297 : decode cL_law_ 2297 = .ok (.ireturn, 1) := by decide +kernel
theorem dL_law__2298 : decode cL_law_ 2298 = .ok (.goto 979, 3) := by decide +kernel
theorem dL_law__2301 : decode cL_law_ 2301 = .ok (.aload_n 1, 1) := by decide +kernel
theorem dL_law__2302 : decode cL_law_ 2302 = .ok (.aload_n 0, 1) := by decide +kernel
theorem dL_law__2303 : decode cL_law_ 2303 = .ok (.iload 4, 2) := by decide +kernel
theorem dL_law__2305 : decode cL_law_ 2305 = .ok (.iconst 1, 1) := by decide +kernel
theorem dL_law__2306 : decode cL_law_ 2306 = .ok (.iadd, 1) := by decide +kernel
theorem dL_law__2307 : decode cL_law_ 2307 = .ok (.iaload, 1) := by decide +kernel
theorem dL_law__2308 : decode cL_law_ 2308 = .ok (.aload_n 0, 1) := by decide +kernel
theorem dL_law__2309 : decode cL_law_ 2309 = .ok (.iload 4, 2) := by decide +kernel
theorem dL_law__2311 : decode cL_law_ 2311 = .ok (.iconst 2, 1) := by decide +kernel
theorem dL_law__2312 : decode cL_law_ 2312 = .ok (.iadd, 1) := by decide +kernel
theorem dL_law__2313 : decode cL_law_ 2313 = .ok (.iaload, 1) := by decide +kernel
theorem dL_law__2314 : decode cL_law_ 2314 = .ok (.aload_n 3, 1) := by decide +kernel
theorem dL_law__2315 : decode cL_law_ 2315 = .ok (.invokestatic 258, 3) := by decide +kernel
theorem dL_law__2318 : decode cL_law_ 2318 = .ok (.istore 5, 2) := by decide +kernel
theorem dL_law__2320 : decode cL_law_ 2320 = .ok (.aload_n 2, 1) := by decide +kernel
theorem dL_law__2321 : decode cL_law_ 2321 = .ok (.aload_n 0, 1) := by decide +kernel
theorem dL_law__2322 : decode cL_law_ 2322 = .ok (.iload 4, 2) := by decide +kernel
theorem dL_law__2324 : decode cL_law_ 2324 = .ok (.iconst 1, 1) := by decide +kernel
theorem dL_law__2325 : decode cL_law_ 2325 = .ok (.iadd, 1) := by decide +kernel
theorem dL_law__2326 : decode cL_law_ 2326 = .ok (.iaload, 1) := by decide +kernel
theorem dL_law__2327 : decode cL_law_ 2327 = .ok (.aload_n 0, 1) := by decide +kernel
theorem dL_law__2328 : decode cL_law_ 2328 = .ok (.iload 4, 2) := by decide +kernel
theorem dL_law__2330 : decode cL_law_ 2330 = .ok (.iconst 2, 1) := by decide +kernel
theorem dL_law__2331 : decode cL_law_ 2331 = .ok (.iadd, 1) := by decide +kernel
theorem dL_law__2332 : decode cL_law_ 2332 = .ok (.iaload, 1) := by decide +kernel
theorem dL_law__2333 : decode cL_law_ 2333 = .ok (.invokevirtual 260, 3) := by decide +kernel
theorem dL_law__2336 : decode cL_law_ 2336 = .ok (.istore 6, 2) := by decide +kernel
theorem dL_law__2338 : decode cL_law_ 2338 = .ok (.aload_n 2, 1) := by decide +kernel
theorem dL_law__2339 : decode cL_law_ 2339 = .ok (.invokevirtual 157, 3) := by decide +kernel
theorem dL_law__2342 : decode cL_law_ 2342 = .ok (.iload 5, 2) := by decide +kernel
theorem dL_law__2344 : decode cL_law_ 2344 = .ok (.if_icmp .eq 5, 3) := by decide +kernel
theorem dL_law__2347 : decode cL_law_ 2347 = .ok (.iconst 0, 1) := by decide +kernel
theorem dL_law__2348 : decode cL_law_ 2348 = .ok (.ireturn, 1) := by decide +kernel
theorem dL_law__2349 : decode cL_law_ 2349 = .ok (.iload 5, 2) := by decide +kernel
theorem dL_law__2351 : decode cL_law_ 2351 = .ok (.ifCond .ne 15, 3) := by decide +kernel
theorem dL_law__2354 : decode cL_law_ 2354 = .ok (.aload_n 3, 1) := by decide +kernel
theorem dL_law__2355 : decode cL_law_ 2355 = .ok (.iconst 0, 1) := by decide +kernel
theorem dL_law__2356 : decode cL_law_ 2356 = .ok (.laload, 1) := by decide +kernel
theorem dL_law__2357 : decode cL_law_ 2357 = .ok (.iload 6, 2) := by decide +kernel
theorem dL_law__2359 : decode cL_law_ 2359 = .ok (.i2l, 1) := by decide +kernel
theorem dL_law__2360 : decode cL_law_ 2360 = .ok (.lcmp, 1) := by decide +kernel
theorem dL_law__2361 : decode cL_law_ 2361 = .ok (.ifCond .eq 5, 3) := by decide +kernel
theorem dL_law__2364 : decode cL_law_ 2364 = .ok (.iconst 0, 1) := by decide +kernel
theorem dL_law__2365 : decode cL_law_ 2365 = .ok (.ireturn, 1) := by decide +kernel
theorem dL_law__2366 : decode cL_law_ 2366 = .ok (.goto 911, 3) := by decide +kernel
theorem dL_law__2369 : decode cL_law_ 2369 = .ok (.aload_n 1, 1) := by decide +kernel
theorem dL_law__2370 : decode cL_law_ 2370 = .ok (.aload_n 0, 1) := by decide +kernel
theorem dL_law__2371 : decode cL_law_ 2371 = .ok (.iload 4, 2) := by decide +kernel
theorem dL_law__2373 : decode cL_law_ 2373 = .ok (.iconst 1, 1) := by decide +kernel
theorem dL_law__2374 : decode cL_law_ 2374 = .ok (.iadd, 1) := by decide +kernel
theorem dL_law__2375 : decode cL_law_ 2375 = .ok (.iaload, 1) := by decide +kernel
theorem dL_law__2376 : decode cL_law_ 2376 = .ok (.aload_n 3, 1) := by decide +kernel
theorem dL_law__2377 : decode cL_law_ 2377 = .ok (.invokestatic 261, 3) := by decide +kernel
theorem dL_law__2380 : decode cL_law_ 2380 = .ok (.istore 5, 2) := by decide +kernel
theorem dL_law__2382 : decode cL_law_ 2382 = .ok (.aload_n 2, 1) := by decide +kernel
theorem dL_law__2383 : decode cL_law_ 2383 = .ok (.aload_n 0, 1) := by decide +kernel
theorem dL_law__2384 : decode cL_law_ 2384 = .ok (.iload 4, 2) := by decide +kernel
theorem dL_law__2386 : decode cL_law_ 2386 = .ok (.iconst 1, 1) := by decide +kernel
theorem dL_law__2387 : decode cL_law_ 2387 = .ok (.iadd, 1) := by decide +kernel
theorem dL_law__2388 : decode cL_law_ 2388 = .ok (.iaload, 1) := by decide +kernel
theorem dL_law__2389 : decode cL_law_ 2389 = .ok (.invokevirtual 263, 3) := by decide +kernel
theorem dL_law__2392 : decode cL_law_ 2392 = .ok (.istore 6, 2) := by decide +kernel
theorem dL_law__2394 : decode cL_law_ 2394 = .ok (.aload_n 2, 1) := by decide +kernel
theorem dL_law__2395 : decode cL_law_ 2395 = .ok (.invokevirtual 157, 3) := by decide +kernel
theorem dL_law__2398 : decode cL_law_ 2398 = .ok (.iload 5, 2) := by decide +kernel
theorem dL_law__2400 : decode cL_law_ 2400 = .ok (.if_icmp .eq 5, 3) := by decide +kernel
theorem dL_law__2403 : decode cL_law_ 2403 = .ok (.iconst 0, 1) := by decide +kernel
theorem dL_law__2404 : decode cL_law_ 2404 = .ok (.ireturn, 1) := by decide +kernel
theorem dL_law__2405 : decode cL_law_ 2405 = .ok (.iload 5, 2) := by decide +kernel
theorem dL_law__2407 : decode cL_law_ 2407 = .ok (.ifCond .ne 15, 3) := by decide +kernel
theorem dL_law__2410 : decode cL_law_ 2410 = .ok (.aload_n 3, 1) := by decide +kernel
theorem dL_law__2411 : decode cL_law_ 2411 = .ok (.iconst 0, 1) := by decide +kernel
theorem dL_law__2412 : decode cL_law_ 2412 = .ok (.laload, 1) := by decide +kernel
theorem dL_law__2413 : decode cL_law_ 2413 = .ok (.iload 6, 2) := by decide +kernel
theorem dL_law__2415 : decode cL_law_ 2415 = .ok (.i2l, 1) := by decide +kernel
theorem dL_law__2416 : decode cL_law_ 2416 = .ok (.lcmp, 1) := by decide +kernel
theorem dL_law__2417 : decode cL_law_ 2417 = .ok (.ifCond .eq 5, 3) := by decide +kernel
theorem dL_law__2420 : decode cL_law_ 2420 = .ok (.iconst 0, 1) := by decide +kernel
theorem dL_law__2421 : decode cL_law_ 2421 = .ok (.ireturn, 1) := by decide +kernel
theorem dL_law__2422 : decode cL_law_ 2422 = .ok (.goto 855, 3) := by decide +kernel
theorem dL_law__2425 : decode cL_law_ 2425 = .ok (.aload_n 1, 1) := by decide +kernel
theorem dL_law__2426 : decode cL_law_ 2426 = .ok (.invokevirtual 264, 3) := by decide +kernel
theorem dL_law__2429 : decode cL_law_ 2429 = .ok (.aload_n 2, 1) := by decide +kernel
theorem dL_law__2430 : decode cL_law_ 2430 = .ok (.invokevirtual 267, 3) := by decide +kernel
theorem dL_law__2433 : decode cL_law_ 2433 = .ok (.if_icmp .eq 844, 3) := by decide +kernel
theorem dL_law__2436 : decode cL_law_ 2436 = .ok (.iconst 0, 1) := by decide +kernel
theorem dL_law__2437 : decode cL_law_ 2437 = .ok (.ireturn, 1) := by decide +kernel
theorem dL_law__2438 : decode cL_law_ 2438 = .ok (.aload_n 1, 1) := by decide +kernel
theorem dL_law__2439 : decode cL_law_ 2439 = .ok (.aload_n 0, 1) := by decide +kernel
theorem dL_law__2440 : decode cL_law_ 2440 = .ok (.iload 4, 2) := by decide +kernel
theorem dL_law__2442 : decode cL_law_ 2442 = .ok (.iconst 1, 1) := by decide +kernel
theorem dL_law__2443 : decode cL_law_ 2443 = .ok (.iadd, 1) := by decide +kernel
theorem dL_law__2444 : decode cL_law_ 2444 = .ok (.iaload, 1) := by decide +kernel
theorem dL_law__2445 : decode cL_law_ 2445 = .ok (.aload_n 0, 1) := by decide +kernel
theorem dL_law__2446 : decode cL_law_ 2446 = .ok (.iload 4, 2) := by decide +kernel
theorem dL_law__2448 : decode cL_law_ 2448 = .ok (.iconst 2, 1) := by decide +kernel
theorem dL_law__2449 : decode cL_law_ 2449 = .ok (.iadd, 1) := by decide +kernel
theorem dL_law__2450 : decode cL_law_ 2450 = .ok (.iaload, 1) := by decide +kernel
theorem dL_law__2451 : decode cL_law_ 2451 = .ok (.aload_n 0, 1) := by decide +kernel
theorem dL_law__2452 : decode cL_law_ 2452 = .ok (.iload 4, 2) := by decide +kernel
theorem dL_law__2454 : decode cL_law_ 2454 = .ok (.iconst 3, 1) := by decide +kernel
theorem dL_law__2455 : decode cL_law_ 2455 = .ok (.iadd, 1) := by decide +kernel
theorem dL_law__2456 : decode cL_law_ 2456 = .ok (.iaload, 1) := by decide +kernel
theorem dL_law__2457 : decode cL_law_ 2457 = .ok (.aload_n 0, 1) := by decide +kernel
theorem dL_law__2458 : decode cL_law_ 2458 = .ok (.iload 4, 2) := by decide +kernel
theorem dL_law__2460 : decode cL_law_ 2460 = .ok (.iconst 4, 1) := by decide +kernel
theorem dL_law__2461 : decode cL_law_ 2461 = .ok (.iadd, 1) := by decide +kernel
theorem dL_law__2462 : decode cL_law_ 2462 = .ok (.iaload, 1) := by decide +kernel
theorem dL_law__2463 : decode cL_law_ 2463 = .ok (.invokevirtual 268, 3) := by decide +kernel
theorem dL_law__2466 : decode cL_law_ 2466 = .ok (.aload_n 2, 1) := by decide +kernel
theorem dL_law__2467 : decode cL_law_ 2467 = .ok (.aload_n 0, 1) := by decide +kernel
theorem dL_law__2468 : decode cL_law_ 2468 = .ok (.iload 4, 2) := by decide +kernel
theorem dL_law__2470 : decode cL_law_ 2470 = .ok (.iconst 1, 1) := by decide +kernel
theorem dL_law__2471 : decode cL_law_ 2471 = .ok (.iadd, 1) := by decide +kernel
theorem dL_law__2472 : decode cL_law_ 2472 = .ok (.iaload, 1) := by decide +kernel
theorem dL_law__2473 : decode cL_law_ 2473 = .ok (.aload_n 0, 1) := by decide +kernel
theorem dL_law__2474 : decode cL_law_ 2474 = .ok (.iload 4, 2) := by decide +kernel
theorem dL_law__2476 : decode cL_law_ 2476 = .ok (.iconst 2, 1) := by decide +kernel
theorem dL_law__2477 : decode cL_law_ 2477 = .ok (.iadd, 1) := by decide +kernel
theorem dL_law__2478 : decode cL_law_ 2478 = .ok (.iaload, 1) := by decide +kernel
theorem dL_law__2479 : decode cL_law_ 2479 = .ok (.aload_n 0, 1) := by decide +kernel
theorem dL_law__2480 : decode cL_law_ 2480 = .ok (.iload 4, 2) := by decide +kernel
theorem dL_law__2482 : decode cL_law_ 2482 = .ok (.iconst 3, 1) := by decide +kernel
theorem dL_law__2483 : decode cL_law_ 2483 = .ok (.iadd, 1) := by decide +kernel
theorem dL_law__2484 : decode cL_law_ 2484 = .ok (.iaload, 1) := by decide +kernel
theorem dL_law__2485 : decode cL_law_ 2485 = .ok (.aload_n 0, 1) := by decide +kernel
theorem dL_law__2486 : decode cL_law_ 2486 = .ok (.iload 4, 2) := by decide +kernel
theorem dL_law__2488 : decode cL_law_ 2488 = .ok (.iconst 4, 1) := by decide +kernel
theorem dL_law__2489 : decode cL_law_ 2489 = .ok (.iadd, 1) := by decide +kernel
theorem dL_law__2490 : decode cL_law_ 2490 = .ok (.iaload, 1) := by decide +kernel
theorem dL_law__2491 : decode cL_law_ 2491 = .ok (.invokevirtual 271, 3) := by decide +kernel
theorem dL_law__2494 : decode cL_law_ 2494 = .ok (.if_icmp .eq 783, 3) := by decide +kernel
theorem dL_law__2497 : decode cL_law_ 2497 = .ok (.iconst 0, 1) := by decide +kernel
theorem dL_law__2498 : decode cL_law_ 2498 = .ok (.ireturn, 1) := by decide +kernel
theorem dL_law__2499 : decode cL_law_ 2499 = .ok (.aload_n 1, 1) := by decide +kernel
theorem dL_law__2500 : decode cL_law_ 2500 = .ok (.invokevirtual 272, 3) := by decide +kernel
theorem dL_law__2503 : decode cL_law_ 2503 = .ok (.aload_n 2, 1) := by decide +kernel
theorem dL_law__2504 : decode cL_law_ 2504 = .ok (.invokevirtual 275, 3) := by decide +kernel
theorem dL_law__2507 : decode cL_law_ 2507 = .ok (.if_icmp .eq 770, 3) := by decide +kernel
theorem dL_law__2510 : decode cL_law_ 2510 = .ok (.iconst 0, 1) := by decide +kernel
theorem dL_law__2511 : decode cL_law_ 2511 = .ok (.ireturn, 1) := by decide +kernel
theorem dL_law__2512 : decode cL_law_ 2512 = .ok (.aload_n 1, 1) := by decide +kernel
theorem dL_law__2513 : decode cL_law_ 2513 = .ok (.aload_n 0, 1) := by decide +kernel
theorem dL_law__2514 : decode cL_law_ 2514 = .ok (.iload 4, 2) := by decide +kernel
theorem dL_law__2516 : decode cL_law_ 2516 = .ok (.iconst 1, 1) := by decide +kernel
theorem dL_law__2517 : decode cL_law_ 2517 = .ok (.iadd, 1) := by decide +kernel
theorem dL_law__2518 : decode cL_law_ 2518 = .ok (.iaload, 1) := by decide +kernel
theorem dL_law__2519 : decode cL_law_ 2519 = .ok (.aload_n 3, 1) := by decide +kernel
theorem dL_law__2520 : decode cL_law_ 2520 = .ok (.invokestatic 276, 3) := by decide +kernel
theorem dL_law__2523 : decode cL_law_ 2523 = .ok (.istore 5, 2) := by decide +kernel
theorem dL_law__2525 : decode cL_law_ 2525 = .ok (.aload_n 2, 1) := by decide +kernel
theorem dL_law__2526 : decode cL_law_ 2526 = .ok (.aload_n 0, 1) := by decide +kernel
theorem dL_law__2527 : decode cL_law_ 2527 = .ok (.iload 4, 2) := by decide +kernel
theorem dL_law__2529 : decode cL_law_ 2529 = .ok (.iconst 1, 1) := by decide +kernel
theorem dL_law__2530 : decode cL_law_ 2530 = .ok (.iadd, 1) := by decide +kernel
theorem dL_law__2531 : decode cL_law_ 2531 = .ok (.iaload, 1) := by decide +kernel
theorem dL_law__2532 : decode cL_law_ 2532 = .ok (.invokevirtual 278, 3) := by decide +kernel
theorem dL_law__2535 : decode cL_law_ 2535 = .ok (.istore 6, 2) := by decide +kernel
theorem dL_law__2537 : decode cL_law_ 2537 = .ok (.aload_n 2, 1) := by decide +kernel
theorem dL_law__2538 : decode cL_law_ 2538 = .ok (.invokevirtual 157, 3) := by decide +kernel
theorem dL_law__2541 : decode cL_law_ 2541 = .ok (.iload 5, 2) := by decide +kernel
theorem dL_law__2543 : decode cL_law_ 2543 = .ok (.if_icmp .eq 5, 3) := by decide +kernel
theorem dL_law__2546 : decode cL_law_ 2546 = .ok (.iconst 0, 1) := by decide +kernel
theorem dL_law__2547 : decode cL_law_ 2547 = .ok (.ireturn, 1) := by decide +kernel
theorem dL_law__2548 : decode cL_law_ 2548 = .ok (.iload 5, 2) := by decide +kernel
theorem dL_law__2550 : decode cL_law_ 2550 = .ok (.ifCond .ne 15, 3) := by decide +kernel
theorem dL_law__2553 : decode cL_law_ 2553 = .ok (.aload_n 3, 1) := by decide +kernel
theorem dL_law__2554 : decode cL_law_ 2554 = .ok (.iconst 0, 1) := by decide +kernel
theorem dL_law__2555 : decode cL_law_ 2555 = .ok (.laload, 1) := by decide +kernel
theorem dL_law__2556 : decode cL_law_ 2556 = .ok (.iload 6, 2) := by decide +kernel
theorem dL_law__2558 : decode cL_law_ 2558 = .ok (.i2l, 1) := by decide +kernel
theorem dL_law__2559 : decode cL_law_ 2559 = .ok (.lcmp, 1) := by decide +kernel
theorem dL_law__2560 : decode cL_law_ 2560 = .ok (.ifCond .eq 5, 3) := by decide +kernel
theorem dL_law__2563 : decode cL_law_ 2563 = .ok (.iconst 0, 1) := by decide +kernel
theorem dL_law__2564 : decode cL_law_ 2564 = .ok (.ireturn, 1) := by decide +kernel
theorem dL_law__2565 : decode cL_law_ 2565 = .ok (.goto 712, 3) := by decide +kernel
theorem dL_law__2568 : decode cL_law_ 2568 = .ok (.aload_n 1, 1) := by decide +kernel
theorem dL_law__2569 : decode cL_law_ 2569 = .ok (.aload_n 0, 1) := by decide +kernel
theorem dL_law__2570 : decode cL_law_ 2570 = .ok (.iload 4, 2) := by decide +kernel
theorem dL_law__2572 : decode cL_law_ 2572 = .ok (.iconst 1, 1) := by decide +kernel
theorem dL_law__2573 : decode cL_law_ 2573 = .ok (.iadd, 1) := by decide +kernel
theorem dL_law__2574 : decode cL_law_ 2574 = .ok (.iaload, 1) := by decide +kernel
theorem dL_law__2575 : decode cL_law_ 2575 = .ok (.aload_n 3, 1) := by decide +kernel
theorem dL_law__2576 : decode cL_law_ 2576 = .ok (.invokestatic 279, 3) := by decide +kernel
theorem dL_law__2579 : decode cL_law_ 2579 = .ok (.istore 5, 2) := by decide +kernel
theorem dL_law__2581 : decode cL_law_ 2581 = .ok (.aload_n 2, 1) := by decide +kernel
theorem dL_law__2582 : decode cL_law_ 2582 = .ok (.aload_n 0, 1) := by decide +kernel
theorem dL_law__2583 : decode cL_law_ 2583 = .ok (.iload 4, 2) := by decide +kernel
theorem dL_law__2585 : decode cL_law_ 2585 = .ok (.iconst 1, 1) := by decide +kernel
theorem dL_law__2586 : decode cL_law_ 2586 = .ok (.iadd, 1) := by decide +kernel
theorem dL_law__2587 : decode cL_law_ 2587 = .ok (.iaload, 1) := by decide +kernel
theorem dL_law__2588 : decode cL_law_ 2588 = .ok (.invokevirtual 281, 3) := by decide +kernel
theorem dL_law__2591 : decode cL_law_ 2591 = .ok (.istore 6, 2) := by decide +kernel
theorem dL_law__2593 : decode cL_law_ 2593 = .ok (.aload_n 2, 1) := by decide +kernel
theorem dL_law__2594 : decode cL_law_ 2594 = .ok (.invokevirtual 157, 3) := by decide +kernel
theorem dL_law__2597 : decode cL_law_ 2597 = .ok (.iload 5, 2) := by decide +kernel
theorem dL_law__2599 : decode cL_law_ 2599 = .ok (.if_icmp .eq 5, 3) := by decide +kernel
theorem dL_law__2602 : decode cL_law_ 2602 = .ok (.iconst 0, 1) := by decide +kernel
theorem dL_law__2603 : decode cL_law_ 2603 = .ok (.ireturn, 1) := by decide +kernel
theorem dL_law__2604 : decode cL_law_ 2604 = .ok (.iload 5, 2) := by decide +kernel
theorem dL_law__2606 : decode cL_law_ 2606 = .ok (.ifCond .ne 15, 3) := by decide +kernel
theorem dL_law__2609 : decode cL_law_ 2609 = .ok (.aload_n 3, 1) := by decide +kernel
theorem dL_law__2610 : decode cL_law_ 2610 = .ok (.iconst 0, 1) := by decide +kernel
theorem dL_law__2611 : decode cL_law_ 2611 = .ok (.laload, 1) := by decide +kernel
theorem dL_law__2612 : decode cL_law_ 2612 = .ok (.iload 6, 2) := by decide +kernel
theorem dL_law__2614 : decode cL_law_ 2614 = .ok (.i2l, 1) := by decide +kernel
theorem dL_law__2615 : decode cL_law_ 2615 = .ok (.lcmp, 1) := by decide +kernel
theorem dL_law__2616 : decode cL_law_ 2616 = .ok (.ifCond .eq 5, 3) := by decide +kernel
theorem dL_law__2619 : decode cL_law_ 2619 = .ok (.iconst 0, 1) := by decide +kernel
theorem dL_law__2620 : decode cL_law_ 2620 = .ok (.ireturn, 1) := by decide +kernel
theorem dL_law__2621 : decode cL_law_ 2621 = .ok (.goto 656, 3) := by decide +kernel
theorem dL_law__2624 : decode cL_law_ 2624 = .ok (.aload_n 1, 1) := by decide +kernel
theorem dL_law__2625 : decode cL_law_ 2625 = .ok (.aload_n 0, 1) := by decide +kernel
theorem dL_law__2626 : decode cL_law_ 2626 = .ok (.iload 4, 2) := by decide +kernel
theorem dL_law__2628 : decode cL_law_ 2628 = .ok (.iconst 1, 1) := by decide +kernel
theorem dL_law__2629 : decode cL_law_ 2629 = .ok (.iadd, 1) := by decide +kernel
theorem dL_law__2630 : decode cL_law_ 2630 = .ok (.iaload, 1) := by decide +kernel
theorem dL_law__2631 : decode cL_law_ 2631 = .ok (.aload_n 3, 1) := by decide +kernel
theorem dL_law__2632 : decode cL_law_ 2632 = .ok (.invokestatic 282, 3) := by decide +kernel
theorem dL_law__2635 : decode cL_law_ 2635 = .ok (.istore 5, 2) := by decide +kernel
theorem dL_law__2637 : decode cL_law_ 2637 = .ok (.aload_n 2, 1) := by decide +kernel
theorem dL_law__2638 : decode cL_law_ 2638 = .ok (.aload_n 0, 1) := by decide +kernel
theorem dL_law__2639 : decode cL_law_ 2639 = .ok (.iload 4, 2) := by decide +kernel
theorem dL_law__2641 : decode cL_law_ 2641 = .ok (.iconst 1, 1) := by decide +kernel
theorem dL_law__2642 : decode cL_law_ 2642 = .ok (.iadd, 1) := by decide +kernel
theorem dL_law__2643 : decode cL_law_ 2643 = .ok (.iaload, 1) := by decide +kernel
theorem dL_law__2644 : decode cL_law_ 2644 = .ok (.invokevirtual 284, 3) := by decide +kernel
theorem dL_law__2647 : decode cL_law_ 2647 = .ok (.istore 6, 2) := by decide +kernel
theorem dL_law__2649 : decode cL_law_ 2649 = .ok (.aload_n 2, 1) := by decide +kernel
theorem dL_law__2650 : decode cL_law_ 2650 = .ok (.invokevirtual 157, 3) := by decide +kernel
theorem dL_law__2653 : decode cL_law_ 2653 = .ok (.iload 5, 2) := by decide +kernel
theorem dL_law__2655 : decode cL_law_ 2655 = .ok (.if_icmp .eq 5, 3) := by decide +kernel
theorem dL_law__2658 : decode cL_law_ 2658 = .ok (.iconst 0, 1) := by decide +kernel
theorem dL_law__2659 : decode cL_law_ 2659 = .ok (.ireturn, 1) := by decide +kernel
theorem dL_law__2660 : decode cL_law_ 2660 = .ok (.iload 5, 2) := by decide +kernel
theorem dL_law__2662 : decode cL_law_ 2662 = .ok (.ifCond .ne 15, 3) := by decide +kernel
theorem dL_law__2665 : decode cL_law_ 2665 = .ok (.aload_n 3, 1) := by decide +kernel
theorem dL_law__2666 : decode cL_law_ 2666 = .ok (.iconst 0, 1) := by decide +kernel
theorem dL_law__2667 : decode cL_law_ 2667 = .ok (.laload, 1) := by decide +kernel
theorem dL_law__2668 : decode cL_law_ 2668 = .ok (.iload 6, 2) := by decide +kernel
theorem dL_law__2670 : decode cL_law_ 2670 = .ok (.i2l, 1) := by decide +kernel
theorem dL_law__2671 : decode cL_law_ 2671 = .ok (.lcmp, 1) := by decide +kernel
theorem dL_law__2672 : decode cL_law_ 2672 = .ok (.ifCond .eq 5, 3) := by decide +kernel
theorem dL_law__2675 : decode cL_law_ 2675 = .ok (.iconst 0, 1) := by decide +kernel
theorem dL_law__2676 : decode cL_law_ 2676 = .ok (.ireturn, 1) := by decide +kernel
theorem dL_law__2677 : decode cL_law_ 2677 = .ok (.goto 600, 3) := by decide +kernel
theorem dL_law__2680 : decode cL_law_ 2680 = .ok (.aload_n 1, 1) := by decide +kernel
theorem dL_law__2681 : decode cL_law_ 2681 = .ok (.aload_n 0, 1) := by decide +kernel
theorem dL_law__2682 : decode cL_law_ 2682 = .ok (.iload 4, 2) := by decide +kernel
theorem dL_law__2684 : decode cL_law_ 2684 = .ok (.iconst 1, 1) := by decide +kernel
theorem dL_law__2685 : decode cL_law_ 2685 = .ok (.iadd, 1) := by decide +kernel
theorem dL_law__2686 : decode cL_law_ 2686 = .ok (.iaload, 1) := by decide +kernel
theorem dL_law__2687 : decode cL_law_ 2687 = .ok (.aload_n 3, 1) := by decide +kernel
theorem dL_law__2688 : decode cL_law_ 2688 = .ok (.invokestatic 285, 3) := by decide +kernel
theorem dL_law__2691 : decode cL_law_ 2691 = .ok (.istore 5, 2) := by decide +kernel
theorem dL_law__2693 : decode cL_law_ 2693 = .ok (.aload_n 2, 1) := by decide +kernel
theorem dL_law__2694 : decode cL_law_ 2694 = .ok (.aload_n 0, 1) := by decide +kernel
theorem dL_law__2695 : decode cL_law_ 2695 = .ok (.iload 4, 2) := by decide +kernel
theorem dL_law__2697 : decode cL_law_ 2697 = .ok (.iconst 1, 1) := by decide +kernel
theorem dL_law__2698 : decode cL_law_ 2698 = .ok (.iadd, 1) := by decide +kernel
theorem dL_law__2699 : decode cL_law_ 2699 = .ok (.iaload, 1) := by decide +kernel
theorem dL_law__2700 : decode cL_law_ 2700 = .ok (.invokevirtual 287, 3) := by decide +kernel
theorem dL_law__2703 : decode cL_law_ 2703 = .ok (.istore 6, 2) := by decide +kernel
theorem dL_law__2705 : decode cL_law_ 2705 = .ok (.aload_n 2, 1) := by decide +kernel
theorem dL_law__2706 : decode cL_law_ 2706 = .ok (.invokevirtual 157, 3) := by decide +kernel
theorem dL_law__2709 : decode cL_law_ 2709 = .ok (.iload 5, 2) := by decide +kernel
theorem dL_law__2711 : decode cL_law_ 2711 = .ok (.if_icmp .eq 5, 3) := by decide +kernel
theorem dL_law__2714 : decode cL_law_ 2714 = .ok (.iconst 0, 1) := by decide +kernel
theorem dL_law__2715 : decode cL_law_ 2715 = .ok (.ireturn, 1) := by decide +kernel
theorem dL_law__2716 : decode cL_law_ 2716 = .ok (.iload 5, 2) := by decide +kernel
theorem dL_law__2718 : decode cL_law_ 2718 = .ok (.ifCond .ne 15, 3) := by decide +kernel
theorem dL_law__2721 : decode cL_law_ 2721 = .ok (.aload_n 3, 1) := by decide +kernel
theorem dL_law__2722 : decode cL_law_ 2722 = .ok (.iconst 0, 1) := by decide +kernel
theorem dL_law__2723 : decode cL_law_ 2723 = .ok (.laload, 1) := by decide +kernel
theorem dL_law__2724 : decode cL_law_ 2724 = .ok (.iload 6, 2) := by decide +kernel
theorem dL_law__2726 : decode cL_law_ 2726 = .ok (.i2l, 1) := by decide +kernel
theorem dL_law__2727 : decode cL_law_ 2727 = .ok (.lcmp, 1) := by decide +kernel
theorem dL_law__2728 : decode cL_law_ 2728 = .ok (.ifCond .eq 5, 3) := by decide +kernel
theorem dL_law__2731 : decode cL_law_ 2731 = .ok (.iconst 0, 1) := by decide +kernel
theorem dL_law__2732 : decode cL_law_ 2732 = .ok (.ireturn, 1) := by decide +kernel
theorem dL_law__2733 : decode cL_law_ 2733 = .ok (.goto 544, 3) := by decide +kernel
theorem dL_law__2736 : decode cL_law_ 2736 = .ok (.aload_n 1, 1) := by decide +kernel
theorem dL_law__2737 : decode cL_law_ 2737 = .ok (.aload_n 0, 1) := by decide +kernel
theorem dL_law__2738 : decode cL_law_ 2738 = .ok (.iload 4, 2) := by decide +kernel
theorem dL_law__2740 : decode cL_law_ 2740 = .ok (.iconst 1, 1) := by decide +kernel
theorem dL_law__2741 : decode cL_law_ 2741 = .ok (.iadd, 1) := by decide +kernel
theorem dL_law__2742 : decode cL_law_ 2742 = .ok (.iaload, 1) := by decide +kernel
theorem dL_law__2743 : decode cL_law_ 2743 = .ok (.aload_n 3, 1) := by decide +kernel
theorem dL_law__2744 : decode cL_law_ 2744 = .ok (.invokestatic 288, 3) := by decide +kernel
theorem dL_law__2747 : decode cL_law_ 2747 = .ok (.istore 5, 2) := by decide +kernel
theorem dL_law__2749 : decode cL_law_ 2749 = .ok (.aload_n 2, 1) := by decide +kernel
theorem dL_law__2750 : decode cL_law_ 2750 = .ok (.aload_n 0, 1) := by decide +kernel
theorem dL_law__2751 : decode cL_law_ 2751 = .ok (.iload 4, 2) := by decide +kernel
theorem dL_law__2753 : decode cL_law_ 2753 = .ok (.iconst 1, 1) := by decide +kernel
theorem dL_law__2754 : decode cL_law_ 2754 = .ok (.iadd, 1) := by decide +kernel
theorem dL_law__2755 : decode cL_law_ 2755 = .ok (.iaload, 1) := by decide +kernel
theorem dL_law__2756 : decode cL_law_ 2756 = .ok (.invokevirtual 290, 3) := by decide +kernel
theorem dL_law__2759 : decode cL_law_ 2759 = .ok (.istore 6, 2) := by decide +kernel
theorem dL_law__2761 : decode cL_law_ 2761 = .ok (.aload_n 2, 1) := by decide +kernel
theorem dL_law__2762 : decode cL_law_ 2762 = .ok (.invokevirtual 157, 3) := by decide +kernel
theorem dL_law__2765 : decode cL_law_ 2765 = .ok (.iload 5, 2) := by decide +kernel
theorem dL_law__2767 : decode cL_law_ 2767 = .ok (.if_icmp .eq 5, 3) := by decide +kernel
theorem dL_law__2770 : decode cL_law_ 2770 = .ok (.iconst 0, 1) := by decide +kernel
theorem dL_law__2771 : decode cL_law_ 2771 = .ok (.ireturn, 1) := by decide +kernel
theorem dL_law__2772 : decode cL_law_ 2772 = .ok (.iload 5, 2) := by decide +kernel
theorem dL_law__2774 : decode cL_law_ 2774 = .ok (.ifCond .ne 15, 3) := by decide +kernel
theorem dL_law__2777 : decode cL_law_ 2777 = .ok (.aload_n 3, 1) := by decide +kernel
theorem dL_law__2778 : decode cL_law_ 2778 = .ok (.iconst 0, 1) := by decide +kernel
theorem dL_law__2779 : decode cL_law_ 2779 = .ok (.laload, 1) := by decide +kernel
theorem dL_law__2780 : decode cL_law_ 2780 = .ok (.iload 6, 2) := by decide +kernel
theorem dL_law__2782 : decode cL_law_ 2782 = .ok (.i2l, 1) := by decide +kernel
theorem dL_law__2783 : decode cL_law_ 2783 = .ok (.lcmp, 1) := by decide +kernel
theorem dL_law__2784 : decode cL_law_ 2784 = .ok (.ifCond .eq 5, 3) := by decide +kernel
theorem dL_law__2787 : decode cL_law_ 2787 = .ok (.iconst 0, 1) := by decide +kernel
theorem dL_law__2788 : decode cL_law_ 2788 = .ok (.ireturn, 1) := by decide +kernel
theorem dL_law__2789 : decode cL_law_ 2789 = .ok (.goto 488, 3) := by decide +kernel
theorem dL_law__2792 : decode cL_law_ 2792 = .ok (.aload_n 1, 1) := by decide +kernel
theorem dL_law__2793 : decode cL_law_ 2793 = .ok (.aload_n 0, 1) := by decide +kernel
theorem dL_law__2794 : decode cL_law_ 2794 = .ok (.iload 4, 2) := by decide +kernel
theorem dL_law__2796 : decode cL_law_ 2796 = .ok (.iconst 1, 1) := by decide +kernel
theorem dL_law__2797 : decode cL_law_ 2797 = .ok (.iadd, 1) := by decide +kernel
theorem dL_law__2798 : decode cL_law_ 2798 = .ok (.iaload, 1) := by decide +kernel
theorem dL_law__2799 : decode cL_law_ 2799 = .ok (.aload_n 0, 1) := by decide +kernel
theorem dL_law__2800 : decode cL_law_ 2800 = .ok (.iload 4, 2) := by decide +kernel
theorem dL_law__2802 : decode cL_law_ 2802 = .ok (.iconst 2, 1) := by decide +kernel
theorem dL_law__2803 : decode cL_law_ 2803 = .ok (.iadd, 1) := by decide +kernel
theorem dL_law__2804 : decode cL_law_ 2804 = .ok (.iaload, 1) := by decide +kernel
theorem dL_law__2805 : decode cL_law_ 2805 = .ok (.aload_n 0, 1) := by decide +kernel
theorem dL_law__2806 : decode cL_law_ 2806 = .ok (.iload 4, 2) := by decide +kernel
theorem dL_law__2808 : decode cL_law_ 2808 = .ok (.iconst 3, 1) := by decide +kernel
theorem dL_law__2809 : decode cL_law_ 2809 = .ok (.iadd, 1) := by decide +kernel
theorem dL_law__2810 : decode cL_law_ 2810 = .ok (.iaload, 1) := by decide +kernel
theorem dL_law__2811 : decode cL_law_ 2811 = .ok (.aload_n 3, 1) := by decide +kernel
theorem dL_law__2812 : decode cL_law_ 2812 = .ok (.invokestatic 291, 3) := by decide +kernel
theorem dL_law__2815 : decode cL_law_ 2815 = .ok (.istore 5, 2) := by decide +kernel
theorem dL_law__2817 : decode cL_law_ 2817 = .ok (.aload_n 2, 1) := by decide +kernel
theorem dL_law__2818 : decode cL_law_ 2818 = .ok (.aload_n 0, 1) := by decide +kernel
theorem dL_law__2819 : decode cL_law_ 2819 = .ok (.iload 4, 2) := by decide +kernel
theorem dL_law__2821 : decode cL_law_ 2821 = .ok (.iconst 1, 1) := by decide +kernel
theorem dL_law__2822 : decode cL_law_ 2822 = .ok (.iadd, 1) := by decide +kernel
theorem dL_law__2823 : decode cL_law_ 2823 = .ok (.iaload, 1) := by decide +kernel
theorem dL_law__2824 : decode cL_law_ 2824 = .ok (.aload_n 0, 1) := by decide +kernel
theorem dL_law__2825 : decode cL_law_ 2825 = .ok (.iload 4, 2) := by decide +kernel
theorem dL_law__2827 : decode cL_law_ 2827 = .ok (.iconst 2, 1) := by decide +kernel
theorem dL_law__2828 : decode cL_law_ 2828 = .ok (.iadd, 1) := by decide +kernel
theorem dL_law__2829 : decode cL_law_ 2829 = .ok (.iaload, 1) := by decide +kernel
theorem dL_law__2830 : decode cL_law_ 2830 = .ok (.aload_n 0, 1) := by decide +kernel
theorem dL_law__2831 : decode cL_law_ 2831 = .ok (.iload 4, 2) := by decide +kernel
theorem dL_law__2833 : decode cL_law_ 2833 = .ok (.iconst 3, 1) := by decide +kernel
theorem dL_law__2834 : decode cL_law_ 2834 = .ok (.iadd, 1) := by decide +kernel
theorem dL_law__2835 : decode cL_law_ 2835 = .ok (.iaload, 1) := by decide +kernel
theorem dL_law__2836 : decode cL_law_ 2836 = .ok (.invokevirtual 293, 3) := by decide +kernel
theorem dL_law__2839 : decode cL_law_ 2839 = .ok (.istore 6, 2) := by decide +kernel
theorem dL_law__2841 : decode cL_law_ 2841 = .ok (.aload_n 2, 1) := by decide +kernel
theorem dL_law__2842 : decode cL_law_ 2842 = .ok (.invokevirtual 157, 3) := by decide +kernel
theorem dL_law__2845 : decode cL_law_ 2845 = .ok (.iload 5, 2) := by decide +kernel
theorem dL_law__2847 : decode cL_law_ 2847 = .ok (.if_icmp .eq 5, 3) := by decide +kernel
theorem dL_law__2850 : decode cL_law_ 2850 = .ok (.iconst 0, 1) := by decide +kernel
theorem dL_law__2851 : decode cL_law_ 2851 = .ok (.ireturn, 1) := by decide +kernel
theorem dL_law__2852 : decode cL_law_ 2852 = .ok (.iload 5, 2) := by decide +kernel
theorem dL_law__2854 : decode cL_law_ 2854 = .ok (.ifCond .ne 15, 3) := by decide +kernel
theorem dL_law__2857 : decode cL_law_ 2857 = .ok (.aload_n 3, 1) := by decide +kernel
theorem dL_law__2858 : decode cL_law_ 2858 = .ok (.iconst 0, 1) := by decide +kernel
theorem dL_law__2859 : decode cL_law_ 2859 = .ok (.laload, 1) := by decide +kernel
theorem dL_law__2860 : decode cL_law_ 2860 = .ok (.iload 6, 2) := by decide +kernel
theorem dL_law__2862 : decode cL_law_ 2862 = .ok (.i2l, 1) := by decide +kernel
theorem dL_law__2863 : decode cL_law_ 2863 = .ok (.lcmp, 1) := by decide +kernel
theorem dL_law__2864 : decode cL_law_ 2864 = .ok (.ifCond .eq 5, 3) := by decide +kernel
theorem dL_law__2867 : decode cL_law_ 2867 = .ok (.iconst 0, 1) := by decide +kernel
theorem dL_law__2868 : decode cL_law_ 2868 = .ok (.ireturn, 1) := by decide +kernel
theorem dL_law__2869 : decode cL_law_ 2869 = .ok (.goto 408, 3) := by decide +kernel
theorem dL_law__2872 : decode cL_law_ 2872 = .ok (.aload_n 1, 1) := by decide +kernel
theorem dL_law__2873 : decode cL_law_ 2873 = .ok (.aload_n 0, 1) := by decide +kernel
theorem dL_law__2874 : decode cL_law_ 2874 = .ok (.iload 4, 2) := by decide +kernel
theorem dL_law__2876 : decode cL_law_ 2876 = .ok (.iconst 1, 1) := by decide +kernel
theorem dL_law__2877 : decode cL_law_ 2877 = .ok (.iadd, 1) := by decide +kernel
theorem dL_law__2878 : decode cL_law_ 2878 = .ok (.iaload, 1) := by decide +kernel
theorem dL_law__2879 : decode cL_law_ 2879 = .ok (.aload_n 0, 1) := by decide +kernel
theorem dL_law__2880 : decode cL_law_ 2880 = .ok (.iload 4, 2) := by decide +kernel
theorem dL_law__2882 : decode cL_law_ 2882 = .ok (.iconst 2, 1) := by decide +kernel
theorem dL_law__2883 : decode cL_law_ 2883 = .ok (.iadd, 1) := by decide +kernel
theorem dL_law__2884 : decode cL_law_ 2884 = .ok (.iaload, 1) := by decide +kernel
theorem dL_law__2885 : decode cL_law_ 2885 = .ok (.aload_n 0, 1) := by decide +kernel
theorem dL_law__2886 : decode cL_law_ 2886 = .ok (.iload 4, 2) := by decide +kernel
theorem dL_law__2888 : decode cL_law_ 2888 = .ok (.iconst 3, 1) := by decide +kernel
theorem dL_law__2889 : decode cL_law_ 2889 = .ok (.iadd, 1) := by decide +kernel
theorem dL_law__2890 : decode cL_law_ 2890 = .ok (.iaload, 1) := by decide +kernel
theorem dL_law__2891 : decode cL_law_ 2891 = .ok (.aload_n 0, 1) := by decide +kernel
theorem dL_law__2892 : decode cL_law_ 2892 = .ok (.iload 4, 2) := by decide +kernel
theorem dL_law__2894 : decode cL_law_ 2894 = .ok (.iconst 4, 1) := by decide +kernel
theorem dL_law__2895 : decode cL_law_ 2895 = .ok (.iadd, 1) := by decide +kernel
theorem dL_law__2896 : decode cL_law_ 2896 = .ok (.iaload, 1) := by decide +kernel
theorem dL_law__2897 : decode cL_law_ 2897 = .ok (.aload_n 3, 1) := by decide +kernel
theorem dL_law__2898 : decode cL_law_ 2898 = .ok (.invokestatic 294, 3) := by decide +kernel
theorem dL_law__2901 : decode cL_law_ 2901 = .ok (.istore 5, 2) := by decide +kernel
theorem dL_law__2903 : decode cL_law_ 2903 = .ok (.aload_n 2, 1) := by decide +kernel
theorem dL_law__2904 : decode cL_law_ 2904 = .ok (.aload_n 0, 1) := by decide +kernel
theorem dL_law__2905 : decode cL_law_ 2905 = .ok (.iload 4, 2) := by decide +kernel
theorem dL_law__2907 : decode cL_law_ 2907 = .ok (.iconst 1, 1) := by decide +kernel
theorem dL_law__2908 : decode cL_law_ 2908 = .ok (.iadd, 1) := by decide +kernel
theorem dL_law__2909 : decode cL_law_ 2909 = .ok (.iaload, 1) := by decide +kernel
theorem dL_law__2910 : decode cL_law_ 2910 = .ok (.aload_n 0, 1) := by decide +kernel
theorem dL_law__2911 : decode cL_law_ 2911 = .ok (.iload 4, 2) := by decide +kernel
theorem dL_law__2913 : decode cL_law_ 2913 = .ok (.iconst 2, 1) := by decide +kernel
theorem dL_law__2914 : decode cL_law_ 2914 = .ok (.iadd, 1) := by decide +kernel
theorem dL_law__2915 : decode cL_law_ 2915 = .ok (.iaload, 1) := by decide +kernel
theorem dL_law__2916 : decode cL_law_ 2916 = .ok (.aload_n 0, 1) := by decide +kernel
theorem dL_law__2917 : decode cL_law_ 2917 = .ok (.iload 4, 2) := by decide +kernel
theorem dL_law__2919 : decode cL_law_ 2919 = .ok (.iconst 3, 1) := by decide +kernel
theorem dL_law__2920 : decode cL_law_ 2920 = .ok (.iadd, 1) := by decide +kernel
theorem dL_law__2921 : decode cL_law_ 2921 = .ok (.iaload, 1) := by decide +kernel
theorem dL_law__2922 : decode cL_law_ 2922 = .ok (.aload_n 0, 1) := by decide +kernel
theorem dL_law__2923 : decode cL_law_ 2923 = .ok (.iload 4, 2) := by decide +kernel
theorem dL_law__2925 : decode cL_law_ 2925 = .ok (.iconst 4, 1) := by decide +kernel
theorem dL_law__2926 : decode cL_law_ 2926 = .ok (.iadd, 1) := by decide +kernel
theorem dL_law__2927 : decode cL_law_ 2927 = .ok (.iaload, 1) := by decide +kernel
theorem dL_law__2928 : decode cL_law_ 2928 = .ok (.invokevirtual 297, 3) := by decide +kernel
theorem dL_law__2931 : decode cL_law_ 2931 = .ok (.istore 6, 2) := by decide +kernel
theorem dL_law__2933 : decode cL_law_ 2933 = .ok (.aload_n 2, 1) := by decide +kernel
theorem dL_law__2934 : decode cL_law_ 2934 = .ok (.invokevirtual 157, 3) := by decide +kernel
theorem dL_law__2937 : decode cL_law_ 2937 = .ok (.iload 5, 2) := by decide +kernel
theorem dL_law__2939 : decode cL_law_ 2939 = .ok (.if_icmp .eq 5, 3) := by decide +kernel
theorem dL_law__2942 : decode cL_law_ 2942 = .ok (.iconst 0, 1) := by decide +kernel
theorem dL_law__2943 : decode cL_law_ 2943 = .ok (.ireturn, 1) := by decide +kernel
theorem dL_law__2944 : decode cL_law_ 2944 = .ok (.iload 5, 2) := by decide +kernel
theorem dL_law__2946 : decode cL_law_ 2946 = .ok (.ifCond .ne 15, 3) := by decide +kernel
theorem dL_law__2949 : decode cL_law_ 2949 = .ok (.aload_n 3, 1) := by decide +kernel
theorem dL_law__2950 : decode cL_law_ 2950 = .ok (.iconst 0, 1) := by decide +kernel
theorem dL_law__2951 : decode cL_law_ 2951 = .ok (.laload, 1) := by decide +kernel
theorem dL_law__2952 : decode cL_law_ 2952 = .ok (.iload 6, 2) := by decide +kernel
theorem dL_law__2954 : decode cL_law_ 2954 = .ok (.i2l, 1) := by decide +kernel
theorem dL_law__2955 : decode cL_law_ 2955 = .ok (.lcmp, 1) := by decide +kernel
theorem dL_law__2956 : decode cL_law_ 2956 = .ok (.ifCond .eq 5, 3) := by decide +kernel
theorem dL_law__2959 : decode cL_law_ 2959 = .ok (.iconst 0, 1) := by decide +kernel
theorem dL_law__2960 : decode cL_law_ 2960 = .ok (.ireturn, 1) := by decide +kernel
theorem dL_law__2961 : decode cL_law_ 2961 = .ok (.goto 316, 3) := by decide +kernel
theorem dL_law__2964 : decode cL_law_ 2964 = .ok (.aload_n 1, 1) := by decide +kernel
theorem dL_law__2965 : decode cL_law_ 2965 = .ok (.aload_n 0, 1) := by decide +kernel
theorem dL_law__2966 : decode cL_law_ 2966 = .ok (.iload 4, 2) := by decide +kernel
theorem dL_law__2968 : decode cL_law_ 2968 = .ok (.iconst 1, 1) := by decide +kernel
theorem dL_law__2969 : decode cL_law_ 2969 = .ok (.iadd, 1) := by decide +kernel
theorem dL_law__2970 : decode cL_law_ 2970 = .ok (.iaload, 1) := by decide +kernel
theorem dL_law__2971 : decode cL_law_ 2971 = .ok (.aload_n 0, 1) := by decide +kernel
theorem dL_law__2972 : decode cL_law_ 2972 = .ok (.iload 4, 2) := by decide +kernel
theorem dL_law__2974 : decode cL_law_ 2974 = .ok (.iconst 2, 1) := by decide +kernel
theorem dL_law__2975 : decode cL_law_ 2975 = .ok (.iadd, 1) := by decide +kernel
theorem dL_law__2976 : decode cL_law_ 2976 = .ok (.iaload, 1) := by decide +kernel
theorem dL_law__2977 : decode cL_law_ 2977 = .ok (.aload_n 0, 1) := by decide +kernel
theorem dL_law__2978 : decode cL_law_ 2978 = .ok (.iload 4, 2) := by decide +kernel
theorem dL_law__2980 : decode cL_law_ 2980 = .ok (.iconst 3, 1) := by decide +kernel
theorem dL_law__2981 : decode cL_law_ 2981 = .ok (.iadd, 1) := by decide +kernel
theorem dL_law__2982 : decode cL_law_ 2982 = .ok (.iaload, 1) := by decide +kernel
theorem dL_law__2983 : decode cL_law_ 2983 = .ok (.invokestatic 298, 3) := by decide +kernel
theorem dL_law__2986 : decode cL_law_ 2986 = .ok (.istore 5, 2) := by decide +kernel
theorem dL_law__2988 : decode cL_law_ 2988 = .ok (.aload_n 2, 1) := by decide +kernel
theorem dL_law__2989 : decode cL_law_ 2989 = .ok (.aload_n 0, 1) := by decide +kernel
theorem dL_law__2990 : decode cL_law_ 2990 = .ok (.iload 4, 2) := by decide +kernel
theorem dL_law__2992 : decode cL_law_ 2992 = .ok (.iconst 1, 1) := by decide +kernel
theorem dL_law__2993 : decode cL_law_ 2993 = .ok (.iadd, 1) := by decide +kernel
theorem dL_law__2994 : decode cL_law_ 2994 = .ok (.iaload, 1) := by decide +kernel
theorem dL_law__2995 : decode cL_law_ 2995 = .ok (.aload_n 0, 1) := by decide +kernel
theorem dL_law__2996 : decode cL_law_ 2996 = .ok (.iload 4, 2) := by decide +kernel
theorem dL_law__2998 : decode cL_law_ 2998 = .ok (.iconst 2, 1) := by decide +kernel
theorem dL_law__2999 : decode cL_law_ 2999 = .ok (.iadd, 1) := by decide +kernel
theorem dL_law__3000 : decode cL_law_ 3000 = .ok (.iaload, 1) := by decide +kernel
theorem dL_law__3001 : decode cL_law_ 3001 = .ok (.aload_n 0, 1) := by decide +kernel
theorem dL_law__3002 : decode cL_law_ 3002 = .ok (.iload 4, 2) := by decide +kernel
theorem dL_law__3004 : decode cL_law_ 3004 = .ok (.iconst 3, 1) := by decide +kernel
theorem dL_law__3005 : decode cL_law_ 3005 = .ok (.iadd, 1) := by decide +kernel
theorem dL_law__3006 : decode cL_law_ 3006 = .ok (.iaload, 1) := by decide +kernel
theorem dL_law__3007 : decode cL_law_ 3007 = .ok (.invokevirtual 301, 3) := by decide +kernel
theorem dL_law__3010 : decode cL_law_ 3010 = .ok (.aload_n 2, 1) := by decide +kernel
theorem dL_law__3011 : decode cL_law_ 3011 = .ok (.invokevirtual 157, 3) := by decide +kernel
theorem dL_law__3014 : decode cL_law_ 3014 = .ok (.iload 5, 2) := by decide +kernel
theorem dL_law__3016 : decode cL_law_ 3016 = .ok (.if_icmp .eq 5, 3) := by decide +kernel
theorem dL_law__3019 : decode cL_law_ 3019 = .ok (.iconst 0, 1) := by decide +kernel
theorem dL_law__3020 : decode cL_law_ 3020 = .ok (.ireturn, 1) := by decide +kernel
theorem dL_law__3021 : decode cL_law_ 3021 = .ok (.goto 256, 3) := by decide +kernel
theorem dL_law__3024 : decode cL_law_ 3024 = .ok (.aload_n 1, 1) := by decide +kernel
theorem dL_law__3025 : decode cL_law_ 3025 = .ok (.aload_n 0, 1) := by decide +kernel
theorem dL_law__3026 : decode cL_law_ 3026 = .ok (.iload 4, 2) := by decide +kernel
theorem dL_law__3028 : decode cL_law_ 3028 = .ok (.iconst 1, 1) := by decide +kernel
theorem dL_law__3029 : decode cL_law_ 3029 = .ok (.iadd, 1) := by decide +kernel
theorem dL_law__3030 : decode cL_law_ 3030 = .ok (.iaload, 1) := by decide +kernel
theorem dL_law__3031 : decode cL_law_ 3031 = .ok (.aload_n 0, 1) := by decide +kernel
theorem dL_law__3032 : decode cL_law_ 3032 = .ok (.iload 4, 2) := by decide +kernel
theorem dL_law__3034 : decode cL_law_ 3034 = .ok (.iconst 2, 1) := by decide +kernel
theorem dL_law__3035 : decode cL_law_ 3035 = .ok (.iadd, 1) := by decide +kernel
theorem dL_law__3036 : decode cL_law_ 3036 = .ok (.iaload, 1) := by decide +kernel
theorem dL_law__3037 : decode cL_law_ 3037 = .ok (.aload_n 0, 1) := by decide +kernel
theorem dL_law__3038 : decode cL_law_ 3038 = .ok (.iload 4, 2) := by decide +kernel
theorem dL_law__3040 : decode cL_law_ 3040 = .ok (.iconst 3, 1) := by decide +kernel
theorem dL_law__3041 : decode cL_law_ 3041 = .ok (.iadd, 1) := by decide +kernel
theorem dL_law__3042 : decode cL_law_ 3042 = .ok (.iaload, 1) := by decide +kernel
theorem dL_law__3043 : decode cL_law_ 3043 = .ok (.aload_n 0, 1) := by decide +kernel
theorem dL_law__3044 : decode cL_law_ 3044 = .ok (.iload 4, 2) := by decide +kernel
theorem dL_law__3046 : decode cL_law_ 3046 = .ok (.iconst 4, 1) := by decide +kernel
theorem dL_law__3047 : decode cL_law_ 3047 = .ok (.iadd, 1) := by decide +kernel
theorem dL_law__3048 : decode cL_law_ 3048 = .ok (.iaload, 1) := by decide +kernel
theorem dL_law__3049 : decode cL_law_ 3049 = .ok (.invokestatic 302, 3) := by decide +kernel
theorem dL_law__3052 : decode cL_law_ 3052 = .ok (.istore 5, 2) := by decide +kernel
theorem dL_law__3054 : decode cL_law_ 3054 = .ok (.aload_n 2, 1) := by decide +kernel
theorem dL_law__3055 : decode cL_law_ 3055 = .ok (.aload_n 0, 1) := by decide +kernel
theorem dL_law__3056 : decode cL_law_ 3056 = .ok (.iload 4, 2) := by decide +kernel
theorem dL_law__3058 : decode cL_law_ 3058 = .ok (.iconst 1, 1) := by decide +kernel
theorem dL_law__3059 : decode cL_law_ 3059 = .ok (.iadd, 1) := by decide +kernel
theorem dL_law__3060 : decode cL_law_ 3060 = .ok (.iaload, 1) := by decide +kernel
theorem dL_law__3061 : decode cL_law_ 3061 = .ok (.aload_n 0, 1) := by decide +kernel
theorem dL_law__3062 : decode cL_law_ 3062 = .ok (.iload 4, 2) := by decide +kernel
theorem dL_law__3064 : decode cL_law_ 3064 = .ok (.iconst 2, 1) := by decide +kernel
theorem dL_law__3065 : decode cL_law_ 3065 = .ok (.iadd, 1) := by decide +kernel
theorem dL_law__3066 : decode cL_law_ 3066 = .ok (.iaload, 1) := by decide +kernel
theorem dL_law__3067 : decode cL_law_ 3067 = .ok (.aload_n 0, 1) := by decide +kernel
theorem dL_law__3068 : decode cL_law_ 3068 = .ok (.iload 4, 2) := by decide +kernel
theorem dL_law__3070 : decode cL_law_ 3070 = .ok (.iconst 3, 1) := by decide +kernel
theorem dL_law__3071 : decode cL_law_ 3071 = .ok (.iadd, 1) := by decide +kernel
theorem dL_law__3072 : decode cL_law_ 3072 = .ok (.iaload, 1) := by decide +kernel
theorem dL_law__3073 : decode cL_law_ 3073 = .ok (.aload_n 0, 1) := by decide +kernel
theorem dL_law__3074 : decode cL_law_ 3074 = .ok (.iload 4, 2) := by decide +kernel
theorem dL_law__3076 : decode cL_law_ 3076 = .ok (.iconst 4, 1) := by decide +kernel
theorem dL_law__3077 : decode cL_law_ 3077 = .ok (.iadd, 1) := by decide +kernel
theorem dL_law__3078 : decode cL_law_ 3078 = .ok (.iaload, 1) := by decide +kernel
theorem dL_law__3079 : decode cL_law_ 3079 = .ok (.invokevirtual 305, 3) := by decide +kernel
theorem dL_law__3082 : decode cL_law_ 3082 = .ok (.aload_n 2, 1) := by decide +kernel
theorem dL_law__3083 : decode cL_law_ 3083 = .ok (.invokevirtual 157, 3) := by decide +kernel
theorem dL_law__3086 : decode cL_law_ 3086 = .ok (.iload 5, 2) := by decide +kernel
theorem dL_law__3088 : decode cL_law_ 3088 = .ok (.if_icmp .eq 5, 3) := by decide +kernel
theorem dL_law__3091 : decode cL_law_ 3091 = .ok (.iconst 0, 1) := by decide +kernel
theorem dL_law__3092 : decode cL_law_ 3092 = .ok (.ireturn, 1) := by decide +kernel
theorem dL_law__3093 : decode cL_law_ 3093 = .ok (.goto 184, 3) := by decide +kernel
theorem dL_law__3096 : decode cL_law_ 3096 = .ok (.aload_n 1, 1) := by decide +kernel
theorem dL_law__3097 : decode cL_law_ 3097 = .ok (.aload_n 0, 1) := by decide +kernel
theorem dL_law__3098 : decode cL_law_ 3098 = .ok (.iload 4, 2) := by decide +kernel
theorem dL_law__3100 : decode cL_law_ 3100 = .ok (.iconst 1, 1) := by decide +kernel
theorem dL_law__3101 : decode cL_law_ 3101 = .ok (.iadd, 1) := by decide +kernel
theorem dL_law__3102 : decode cL_law_ 3102 = .ok (.iaload, 1) := by decide +kernel
theorem dL_law__3103 : decode cL_law_ 3103 = .ok (.aload_n 0, 1) := by decide +kernel
theorem dL_law__3104 : decode cL_law_ 3104 = .ok (.iload 4, 2) := by decide +kernel
theorem dL_law__3106 : decode cL_law_ 3106 = .ok (.iconst 2, 1) := by decide +kernel
theorem dL_law__3107 : decode cL_law_ 3107 = .ok (.iadd, 1) := by decide +kernel
theorem dL_law__3108 : decode cL_law_ 3108 = .ok (.iaload, 1) := by decide +kernel
theorem dL_law__3109 : decode cL_law_ 3109 = .ok (.aload_n 3, 1) := by decide +kernel
theorem dL_law__3110 : decode cL_law_ 3110 = .ok (.invokestatic 306, 3) := by decide +kernel
theorem dL_law__3113 : decode cL_law_ 3113 = .ok (.istore 5, 2) := by decide +kernel
theorem dL_law__3115 : decode cL_law_ 3115 = .ok (.aload_n 2, 1) := by decide +kernel
theorem dL_law__3116 : decode cL_law_ 3116 = .ok (.aload_n 0, 1) := by decide +kernel
theorem dL_law__3117 : decode cL_law_ 3117 = .ok (.iload 4, 2) := by decide +kernel
theorem dL_law__3119 : decode cL_law_ 3119 = .ok (.iconst 1, 1) := by decide +kernel
theorem dL_law__3120 : decode cL_law_ 3120 = .ok (.iadd, 1) := by decide +kernel
theorem dL_law__3121 : decode cL_law_ 3121 = .ok (.iaload, 1) := by decide +kernel
theorem dL_law__3122 : decode cL_law_ 3122 = .ok (.aload_n 0, 1) := by decide +kernel
theorem dL_law__3123 : decode cL_law_ 3123 = .ok (.iload 4, 2) := by decide +kernel
theorem dL_law__3125 : decode cL_law_ 3125 = .ok (.iconst 2, 1) := by decide +kernel
theorem dL_law__3126 : decode cL_law_ 3126 = .ok (.iadd, 1) := by decide +kernel
theorem dL_law__3127 : decode cL_law_ 3127 = .ok (.iaload, 1) := by decide +kernel
theorem dL_law__3128 : decode cL_law_ 3128 = .ok (.invokevirtual 308, 3) := by decide +kernel
theorem dL_law__3131 : decode cL_law_ 3131 = .ok (.istore 6, 2) := by decide +kernel
theorem dL_law__3133 : decode cL_law_ 3133 = .ok (.aload_n 2, 1) := by decide +kernel
theorem dL_law__3134 : decode cL_law_ 3134 = .ok (.invokevirtual 157, 3) := by decide +kernel
theorem dL_law__3137 : decode cL_law_ 3137 = .ok (.iload 5, 2) := by decide +kernel
theorem dL_law__3139 : decode cL_law_ 3139 = .ok (.if_icmp .eq 5, 3) := by decide +kernel
theorem dL_law__3142 : decode cL_law_ 3142 = .ok (.iconst 0, 1) := by decide +kernel
theorem dL_law__3143 : decode cL_law_ 3143 = .ok (.ireturn, 1) := by decide +kernel
theorem dL_law__3144 : decode cL_law_ 3144 = .ok (.iload 5, 2) := by decide +kernel
theorem dL_law__3146 : decode cL_law_ 3146 = .ok (.ifCond .ne 15, 3) := by decide +kernel
theorem dL_law__3149 : decode cL_law_ 3149 = .ok (.aload_n 3, 1) := by decide +kernel
theorem dL_law__3150 : decode cL_law_ 3150 = .ok (.iconst 0, 1) := by decide +kernel
theorem dL_law__3151 : decode cL_law_ 3151 = .ok (.laload, 1) := by decide +kernel
theorem dL_law__3152 : decode cL_law_ 3152 = .ok (.iload 6, 2) := by decide +kernel
theorem dL_law__3154 : decode cL_law_ 3154 = .ok (.i2l, 1) := by decide +kernel
theorem dL_law__3155 : decode cL_law_ 3155 = .ok (.lcmp, 1) := by decide +kernel
theorem dL_law__3156 : decode cL_law_ 3156 = .ok (.ifCond .eq 5, 3) := by decide +kernel
theorem dL_law__3159 : decode cL_law_ 3159 = .ok (.iconst 0, 1) := by decide +kernel
theorem dL_law__3160 : decode cL_law_ 3160 = .ok (.ireturn, 1) := by decide +kernel
theorem dL_law__3161 : decode cL_law_ 3161 = .ok (.goto 116, 3) := by decide +kernel
theorem dL_law__3164 : decode cL_law_ 3164 = .ok (.aload_n 1, 1) := by decide +kernel
theorem dL_law__3165 : decode cL_law_ 3165 = .ok (.invokevirtual 309, 3) := by decide +kernel
theorem dL_law__3168 : decode cL_law_ 3168 = .ok (.aload_n 2, 1) := by decide +kernel
theorem dL_law__3169 : decode cL_law_ 3169 = .ok (.invokevirtual 312, 3) := by decide +kernel
theorem dL_law__3172 : decode cL_law_ 3172 = .ok (.if_icmp .eq 105, 3) := by decide +kernel
theorem dL_law__3175 : decode cL_law_ 3175 = .ok (.iconst 0, 1) := by decide +kernel
theorem dL_law__3176 : decode cL_law_ 3176 = .ok (.ireturn, 1) := by decide +kernel
theorem dL_law__3177 : decode cL_law_ 3177 = .ok (.aload_n 1, 1) := by decide +kernel
theorem dL_law__3178 : decode cL_law_ 3178 = .ok (.aload_n 0, 1) := by decide +kernel
theorem dL_law__3179 : decode cL_law_ 3179 = .ok (.iload 4, 2) := by decide +kernel
theorem dL_law__3181 : decode cL_law_ 3181 = .ok (.iconst 1, 1) := by decide +kernel
theorem dL_law__3182 : decode cL_law_ 3182 = .ok (.iadd, 1) := by decide +kernel
theorem dL_law__3183 : decode cL_law_ 3183 = .ok (.iaload, 1) := by decide +kernel
theorem dL_law__3184 : decode cL_law_ 3184 = .ok (.invokevirtual 313, 3) := by decide +kernel
theorem dL_law__3187 : decode cL_law_ 3187 = .ok (.aload_n 2, 1) := by decide +kernel
theorem dL_law__3188 : decode cL_law_ 3188 = .ok (.aload_n 0, 1) := by decide +kernel
theorem dL_law__3189 : decode cL_law_ 3189 = .ok (.iload 4, 2) := by decide +kernel
theorem dL_law__3191 : decode cL_law_ 3191 = .ok (.iconst 1, 1) := by decide +kernel
theorem dL_law__3192 : decode cL_law_ 3192 = .ok (.iadd, 1) := by decide +kernel
theorem dL_law__3193 : decode cL_law_ 3193 = .ok (.iaload, 1) := by decide +kernel
theorem dL_law__3194 : decode cL_law_ 3194 = .ok (.invokevirtual 316, 3) := by decide +kernel
theorem dL_law__3197 : decode cL_law_ 3197 = .ok (.if_icmp .eq 80, 3) := by decide +kernel
theorem dL_law__3200 : decode cL_law_ 3200 = .ok (.iconst 0, 1) := by decide +kernel
theorem dL_law__3201 : decode cL_law_ 3201 = .ok (.ireturn, 1) := by decide +kernel
theorem dL_law__3202 : decode cL_law_ 3202 = .ok (.aload_n 1, 1) := by decide +kernel
theorem dL_law__3203 : decode cL_law_ 3203 = .ok (.aload_n 0, 1) := by decide +kernel
theorem dL_law__3204 : decode cL_law_ 3204 = .ok (.iload 4, 2) := by decide +kernel
theorem dL_law__3206 : decode cL_law_ 3206 = .ok (.iconst 1, 1) := by decide +kernel
theorem dL_law__3207 : decode cL_law_ 3207 = .ok (.iadd, 1) := by decide +kernel
theorem dL_law__3208 : decode cL_law_ 3208 = .ok (.iaload, 1) := by decide +kernel
theorem dL_law__3209 : decode cL_law_ 3209 = .ok (.aload_n 0, 1) := by decide +kernel
theorem dL_law__3210 : decode cL_law_ 3210 = .ok (.iload 4, 2) := by decide +kernel
theorem dL_law__3212 : decode cL_law_ 3212 = .ok (.iconst 2, 1) := by decide +kernel
theorem dL_law__3213 : decode cL_law_ 3213 = .ok (.iadd, 1) := by decide +kernel
theorem dL_law__3214 : decode cL_law_ 3214 = .ok (.iaload, 1) := by decide +kernel
theorem dL_law__3215 : decode cL_law_ 3215 = .ok (.invokevirtual 317, 3) := by decide +kernel
theorem dL_law__3218 : decode cL_law_ 3218 = .ok (.aload_n 2, 1) := by decide +kernel
theorem dL_law__3219 : decode cL_law_ 3219 = .ok (.aload_n 0, 1) := by decide +kernel
theorem dL_law__3220 : decode cL_law_ 3220 = .ok (.iload 4, 2) := by decide +kernel
theorem dL_law__3222 : decode cL_law_ 3222 = .ok (.iconst 1, 1) := by decide +kernel
theorem dL_law__3223 : decode cL_law_ 3223 = .ok (.iadd, 1) := by decide +kernel
theorem dL_law__3224 : decode cL_law_ 3224 = .ok (.iaload, 1) := by decide +kernel
theorem dL_law__3225 : decode cL_law_ 3225 = .ok (.aload_n 0, 1) := by decide +kernel
theorem dL_law__3226 : decode cL_law_ 3226 = .ok (.iload 4, 2) := by decide +kernel
theorem dL_law__3228 : decode cL_law_ 3228 = .ok (.iconst 2, 1) := by decide +kernel
theorem dL_law__3229 : decode cL_law_ 3229 = .ok (.iadd, 1) := by decide +kernel
theorem dL_law__3230 : decode cL_law_ 3230 = .ok (.iaload, 1) := by decide +kernel
theorem dL_law__3231 : decode cL_law_ 3231 = .ok (.invokevirtual 320, 3) := by decide +kernel
theorem dL_law__3234 : decode cL_law_ 3234 = .ok (.if_icmp .eq 43, 3) := by decide +kernel
theorem dL_law__3237 : decode cL_law_ 3237 = .ok (.iconst 0, 1) := by decide +kernel
theorem dL_law__3238 : decode cL_law_ 3238 = .ok (.ireturn, 1) := by decide +kernel
theorem dL_law__3239 : decode cL_law_ 3239 = .ok (.aload_n 1, 1) := by decide +kernel
theorem dL_law__3240 : decode cL_law_ 3240 = .ok (.invokevirtual 321, 3) := by decide +kernel
theorem dL_law__3243 : decode cL_law_ 3243 = .ok (.aload_n 2, 1) := by decide +kernel
theorem dL_law__3244 : decode cL_law_ 3244 = .ok (.invokevirtual 324, 3) := by decide +kernel
theorem dL_law__3247 : decode cL_law_ 3247 = .ok (.if_icmp .eq 30, 3) := by decide +kernel
theorem dL_law__3250 : decode cL_law_ 3250 = .ok (.iconst 0, 1) := by decide +kernel
theorem dL_law__3251 : decode cL_law_ 3251 = .ok (.ireturn, 1) := by decide +kernel
theorem dL_law__3252 : decode cL_law_ 3252 = .ok (.aload_n 1, 1) := by decide +kernel
theorem dL_law__3253 : decode cL_law_ 3253 = .ok (.aload_n 0, 1) := by decide +kernel
theorem dL_law__3254 : decode cL_law_ 3254 = .ok (.iload 4, 2) := by decide +kernel
theorem dL_law__3256 : decode cL_law_ 3256 = .ok (.iconst 1, 1) := by decide +kernel
theorem dL_law__3257 : decode cL_law_ 3257 = .ok (.iadd, 1) := by decide +kernel
theorem dL_law__3258 : decode cL_law_ 3258 = .ok (.iaload, 1) := by decide +kernel
theorem dL_law__3259 : decode cL_law_ 3259 = .ok (.invokevirtual 325, 3) := by decide +kernel
theorem dL_law__3262 : decode cL_law_ 3262 = .ok (.aload_n 2, 1) := by decide +kernel
theorem dL_law__3263 : decode cL_law_ 3263 = .ok (.aload_n 0, 1) := by decide +kernel
theorem dL_law__3264 : decode cL_law_ 3264 = .ok (.iload 4, 2) := by decide +kernel
theorem dL_law__3266 : decode cL_law_ 3266 = .ok (.iconst 1, 1) := by decide +kernel
theorem dL_law__3267 : decode cL_law_ 3267 = .ok (.iadd, 1) := by decide +kernel
theorem dL_law__3268 : decode cL_law_ 3268 = .ok (.iaload, 1) := by decide +kernel
theorem dL_law__3269 : decode cL_law_ 3269 = .ok (.invokevirtual 328, 3) := by decide +kernel
theorem dL_law__3272 : decode cL_law_ 3272 = .ok (.if_icmp .eq 5, 3) := by decide +kernel
theorem dL_law__3275 : decode cL_law_ 3275 = .ok (.iconst 0, 1) := by decide +kernel
theorem dL_law__3276 : decode cL_law_ 3276 = .ok (.ireturn, 1) := by decide +kernel
theorem dL_law__3277 : decode cL_law_ 3277 = .ok (.iinc 4 6, 3) := by decide +kernel
theorem dL_law__3280 : decode cL_law_ 3280 = .ok (.goto (-3257), 3) := by decide +kernel
theorem dL_law__3283 : decode cL_law_ 3283 = .ok (.iconst 1, 1) := by decide +kernel
theorem dL_law__3284 : decode cL_law_ 3284 = .ok (.ireturn, 1) := by decide +kernel
theorem lkw_151 : Cond.methodLink "SettlerColonyLaw" 151 yL_land ∈ lw_g := mem_g 758 (by decide +kernel) (by decide +kernel)
theorem lkw_156 : Cond.methodLink "SettlerColonyLaw" 156 yX12_land ∈ lw_g := mem_g 2017 (by decide +kernel) (by decide +kernel)
theorem lkw_157 : Cond.methodLink "SettlerColonyLaw" 157 yX12_thrown ∈ lw_g := mem_g 2013 (by decide +kernel) (by decide +kernel)
theorem lkw_161 : Cond.methodLink "SettlerColonyLaw" 161 yL_rain ∈ lw_g := mem_g 859 (by decide +kernel) (by decide +kernel)
theorem lkw_164 : Cond.methodLink "SettlerColonyLaw" 164 yX12_rain ∈ lw_g := mem_g 2033 (by decide +kernel) (by decide +kernel)
theorem lkw_165 : Cond.methodLink "SettlerColonyLaw" 165 yL_rains ∈ lw_g := mem_g 873 (by decide +kernel) (by decide +kernel)
theorem lkw_168 : Cond.methodLink "SettlerColonyLaw" 168 yX12_rains ∈ lw_g := mem_g 2041 (by decide +kernel) (by decide +kernel)
theorem lkw_169 : Cond.methodLink "SettlerColonyLaw" 169 yL_fell ∈ lw_g := mem_g 880 (by decide +kernel) (by decide +kernel)
theorem lkw_171 : Cond.methodLink "SettlerColonyLaw" 171 yX12_fell ∈ lw_g := mem_g 2045 (by decide +kernel) (by decide +kernel)
theorem lkw_172 : Cond.methodLink "SettlerColonyLaw" 172 yL_seen ∈ lw_g := mem_g 899 (by decide +kernel) (by decide +kernel)
theorem lkw_175 : Cond.methodLink "SettlerColonyLaw" 175 yX12_seen ∈ lw_g := mem_g 2053 (by decide +kernel) (by decide +kernel)
theorem lkw_176 : Cond.methodLink "SettlerColonyLaw" 176 yL_promise ∈ lw_g := mem_g 910 (by decide +kernel) (by decide +kernel)
theorem lkw_178 : Cond.methodLink "SettlerColonyLaw" 178 yX12_promise ∈ lw_g := mem_g 2057 (by decide +kernel) (by decide +kernel)
theorem lkw_179 : Cond.methodLink "SettlerColonyLaw" 179 yL_section ∈ lw_g := mem_g 924 (by decide +kernel) (by decide +kernel)
theorem lkw_181 : Cond.methodLink "SettlerColonyLaw" 181 yX12_section ∈ lw_g := mem_g 2068 (by decide +kernel) (by decide +kernel)
theorem lkw_182 : Cond.methodLink "SettlerColonyLaw" 182 yL_is ∈ lw_g := mem_g 939 (by decide +kernel) (by decide +kernel)
theorem lkw_184 : Cond.methodLink "SettlerColonyLaw" 184 yX12_is ∈ lw_g := mem_g 2082 (by decide +kernel) (by decide +kernel)
theorem lkw_185 : Cond.methodLink "SettlerColonyLaw" 185 yL_people ∈ lw_g := mem_g 957 (by decide +kernel) (by decide +kernel)
theorem lkw_187 : Cond.methodLink "SettlerColonyLaw" 187 yX12_people ∈ lw_g := mem_g 2086 (by decide +kernel) (by decide +kernel)
theorem lkw_188 : Cond.methodLink "SettlerColonyLaw" 188 yL_person ∈ lw_g := mem_g 965 (by decide +kernel) (by decide +kernel)
theorem lkw_190 : Cond.methodLink "SettlerColonyLaw" 190 yX12_person ∈ lw_g := mem_g 2099 (by decide +kernel) (by decide +kernel)
theorem lkw_191 : Cond.methodLink "SettlerColonyLaw" 191 yL_party ∈ lw_g := mem_g 980 (by decide +kernel) (by decide +kernel)
theorem lkw_193 : Cond.methodLink "SettlerColonyLaw" 193 yX12_party ∈ lw_g := mem_g 2119 (by decide +kernel) (by decide +kernel)
theorem lkw_194 : Cond.methodLink "SettlerColonyLaw" 194 yL_queue ∈ lw_g := mem_g 992 (by decide +kernel) (by decide +kernel)
theorem lkw_196 : Cond.methodLink "SettlerColonyLaw" 196 yX12_queue ∈ lw_g := mem_g 2123 (by decide +kernel) (by decide +kernel)
theorem lkw_197 : Cond.methodLink "SettlerColonyLaw" 197 yL_where ∈ lw_g := mem_g 1011 (by decide +kernel) (by decide +kernel)
theorem lkw_199 : Cond.methodLink "SettlerColonyLaw" 199 yX12_where ∈ lw_g := mem_g 2131 (by decide +kernel) (by decide +kernel)
theorem lkw_200 : Cond.methodLink "SettlerColonyLaw" 200 yL_lot ∈ lw_g := mem_g 1026 (by decide +kernel) (by decide +kernel)
theorem lkw_202 : Cond.methodLink "SettlerColonyLaw" 202 yX12_lot ∈ lw_g := mem_g 2135 (by decide +kernel) (by decide +kernel)
theorem lkw_203 : Cond.methodLink "SettlerColonyLaw" 203 yL_ask ∈ lw_g := mem_g 1095 (by decide +kernel) (by decide +kernel)
theorem lkw_205 : Cond.methodLink "SettlerColonyLaw" 205 yX12_ask ∈ lw_g := mem_g 2174 (by decide +kernel) (by decide +kernel)
theorem lkw_206 : Cond.methodLink "SettlerColonyLaw" 206 yL_draw ∈ lw_g := mem_g 1119 (by decide +kernel) (by decide +kernel)
theorem lkw_208 : Cond.methodLink "SettlerColonyLaw" 208 yX12_draw ∈ lw_g := mem_g 2182 (by decide +kernel) (by decide +kernel)
theorem lkw_209 : Cond.methodLink "SettlerColonyLaw" 209 yL_acre ∈ lw_g := mem_g 1142 (by decide +kernel) (by decide +kernel)
theorem lkw_211 : Cond.methodLink "SettlerColonyLaw" 211 yX12_acre ∈ lw_g := mem_g 2186 (by decide +kernel) (by decide +kernel)
theorem lkw_212 : Cond.methodLink "SettlerColonyLaw" 212 yL_buy ∈ lw_g := mem_g 1153 (by decide +kernel) (by decide +kernel)
theorem lkw_214 : Cond.methodLink "SettlerColonyLaw" 214 yX12_buy ∈ lw_g := mem_g 2388 (by decide +kernel) (by decide +kernel)
theorem lkw_215 : Cond.methodLink "SettlerColonyLaw" 215 yL_order ∈ lw_g := mem_g 1202 (by decide +kernel) (by decide +kernel)
theorem lkw_217 : Cond.methodLink "SettlerColonyLaw" 217 yX12_order ∈ lw_g := mem_g 2420 (by decide +kernel) (by decide +kernel)
theorem lkw_218 : Cond.methodLink "SettlerColonyLaw" 218 yL_choose ∈ lw_g := mem_g 1221 (by decide +kernel) (by decide +kernel)
theorem lkw_220 : Cond.methodLink "SettlerColonyLaw" 220 yX12_choose ∈ lw_g := mem_g 2424 (by decide +kernel) (by decide +kernel)
theorem lkw_221 : Cond.methodLink "SettlerColonyLaw" 221 yL_run ∈ lw_g := mem_g 1246 (by decide +kernel) (by decide +kernel)
theorem lkw_223 : Cond.methodLink "SettlerColonyLaw" 223 yX12_run ∈ lw_g := mem_g 2432 (by decide +kernel) (by decide +kernel)
theorem lkw_224 : Cond.methodLink "SettlerColonyLaw" 224 yL_squat ∈ lw_g := mem_g 1264 (by decide +kernel) (by decide +kernel)
theorem lkw_226 : Cond.methodLink "SettlerColonyLaw" 226 yX12_squat ∈ lw_g := mem_g 2436 (by decide +kernel) (by decide +kernel)
theorem lkw_227 : Cond.methodLink "SettlerColonyLaw" 227 yL_stock ∈ lw_g := mem_g 1275 (by decide +kernel) (by decide +kernel)
theorem lkw_229 : Cond.methodLink "SettlerColonyLaw" 229 yX12_stock ∈ lw_g := mem_g 2440 (by decide +kernel) (by decide +kernel)
theorem lkw_230 : Cond.methodLink "SettlerColonyLaw" 230 yL_fence ∈ lw_g := mem_g 1294 (by decide +kernel) (by decide +kernel)
theorem lkw_232 : Cond.methodLink "SettlerColonyLaw" 232 yX12_fence ∈ lw_g := mem_g 2448 (by decide +kernel) (by decide +kernel)
theorem lkw_233 : Cond.methodLink "SettlerColonyLaw" 233 yX11_feed ∈ lw_g := mem_g 614 (by decide +kernel) (by decide +kernel)
theorem lkw_237 : Cond.methodLink "SettlerColonyLaw" 237 yX12_feed ∈ lw_g := mem_g 2190 (by decide +kernel) (by decide +kernel)
theorem lkw_238 : Cond.methodLink "SettlerColonyLaw" 238 yL_law ∈ lw_g := mem_g 1313 (by decide +kernel) (by decide +kernel)
theorem lkw_240 : Cond.methodLink "SettlerColonyLaw" 240 yX12_law ∈ lw_g := mem_g 2194 (by decide +kernel) (by decide +kernel)
theorem lkw_241 : Cond.methodLink "SettlerColonyLaw" 241 yX11_fault ∈ lw_g := mem_g 625 (by decide +kernel) (by decide +kernel)
theorem lkw_244 : Cond.methodLink "SettlerColonyLaw" 244 yX12_fault ∈ lw_g := mem_g 2312 (by decide +kernel) (by decide +kernel)
theorem lkw_245 : Cond.methodLink "SettlerColonyLaw" 245 yL_vote ∈ lw_g := mem_g 1516 (by decide +kernel) (by decide +kernel)
theorem lkw_247 : Cond.methodLink "SettlerColonyLaw" 247 yX12_vote ∈ lw_g := mem_g 2364 (by decide +kernel) (by decide +kernel)
theorem lkw_248 : Cond.methodLink "SettlerColonyLaw" 248 yL_close ∈ lw_g := mem_g 1547 (by decide +kernel) (by decide +kernel)
theorem lkw_250 : Cond.methodLink "SettlerColonyLaw" 250 yX12_close ∈ lw_g := mem_g 2376 (by decide +kernel) (by decide +kernel)
theorem lkw_251 : Cond.methodLink "SettlerColonyLaw" 251 yL_assent ∈ lw_g := mem_g 1558 (by decide +kernel) (by decide +kernel)
theorem lkw_254 : Cond.methodLink "SettlerColonyLaw" 254 yX12_assent ∈ lw_g := mem_g 2380 (by decide +kernel) (by decide +kernel)
theorem lkw_255 : Cond.methodLink "SettlerColonyLaw" 255 yL_force ∈ lw_g := mem_g 1577 (by decide +kernel) (by decide +kernel)
theorem lkw_257 : Cond.methodLink "SettlerColonyLaw" 257 yX12_force ∈ lw_g := mem_g 2384 (by decide +kernel) (by decide +kernel)
theorem lkw_258 : Cond.methodLink "SettlerColonyLaw" 258 yL_means ∈ lw_g := mem_g 1584 (by decide +kernel) (by decide +kernel)
theorem lkw_260 : Cond.methodLink "SettlerColonyLaw" 260 yX12_means ∈ lw_g := mem_g 2316 (by decide +kernel) (by decide +kernel)
theorem lkw_261 : Cond.methodLink "SettlerColonyLaw" 261 yL_why ∈ lw_g := mem_g 1592 (by decide +kernel) (by decide +kernel)
theorem lkw_263 : Cond.methodLink "SettlerColonyLaw" 263 yX12_why ∈ lw_g := mem_g 2360 (by decide +kernel) (by decide +kernel)
theorem lkw_264 : Cond.methodLink "SettlerColonyLaw" 264 yX11_quoted ∈ lw_g := mem_g 629 (by decide +kernel) (by decide +kernel)
theorem lkw_267 : Cond.methodLink "SettlerColonyLaw" 267 yX12_quoted ∈ lw_g := mem_g 2408 (by decide +kernel) (by decide +kernel)
theorem lkw_268 : Cond.methodLink "SettlerColonyLaw" 268 yX11_ship ∈ lw_g := mem_g 670 (by decide +kernel) (by decide +kernel)
theorem lkw_271 : Cond.methodLink "SettlerColonyLaw" 271 yX12_ship ∈ lw_g := mem_g 2460 (by decide +kernel) (by decide +kernel)
theorem lkw_272 : Cond.methodLink "SettlerColonyLaw" 272 yX11_passages ∈ lw_g := mem_g 688 (by decide +kernel) (by decide +kernel)
theorem lkw_275 : Cond.methodLink "SettlerColonyLaw" 275 yX12_passages ∈ lw_g := mem_g 2452 (by decide +kernel) (by decide +kernel)
theorem lkw_276 : Cond.methodLink "SettlerColonyLaw" 276 yL_fund ∈ lw_g := mem_g 1600 (by decide +kernel) (by decide +kernel)
theorem lkw_278 : Cond.methodLink "SettlerColonyLaw" 278 yX12_fund ∈ lw_g := mem_g 2465 (by decide +kernel) (by decide +kernel)
theorem lkw_279 : Cond.methodLink "SettlerColonyLaw" 279 yL_bill ∈ lw_g := mem_g 1608 (by decide +kernel) (by decide +kernel)
theorem lkw_281 : Cond.methodLink "SettlerColonyLaw" 281 yX12_bill ∈ lw_g := mem_g 2469 (by decide +kernel) (by decide +kernel)
theorem lkw_282 : Cond.methodLink "SettlerColonyLaw" 282 yL_pass ∈ lw_g := mem_g 1620 (by decide +kernel) (by decide +kernel)
theorem lkw_284 : Cond.methodLink "SettlerColonyLaw" 284 yX12_pass ∈ lw_g := mem_g 2473 (by decide +kernel) (by decide +kernel)
theorem lkw_285 : Cond.methodLink "SettlerColonyLaw" 285 yL_billed ∈ lw_g := mem_g 1635 (by decide +kernel) (by decide +kernel)
theorem lkw_287 : Cond.methodLink "SettlerColonyLaw" 287 yX12_billed ∈ lw_g := mem_g 2481 (by decide +kernel) (by decide +kernel)
theorem lkw_288 : Cond.methodLink "SettlerColonyLaw" 288 yL_week ∈ lw_g := mem_g 1646 (by decide +kernel) (by decide +kernel)
theorem lkw_290 : Cond.methodLink "SettlerColonyLaw" 290 yX12_week ∈ lw_g := mem_g 2485 (by decide +kernel) (by decide +kernel)
theorem lkw_291 : Cond.methodLink "SettlerColonyLaw" 291 yL_as ∈ lw_g := mem_g 1845 (by decide +kernel) (by decide +kernel)
theorem lkw_293 : Cond.methodLink "SettlerColonyLaw" 293 yX12_as ∈ lw_g := mem_g 2539 (by decide +kernel) (by decide +kernel)
theorem lkw_294 : Cond.methodLink "SettlerColonyLaw" 294 yL_tried ∈ lw_g := mem_g 1853 (by decide +kernel) (by decide +kernel)
theorem lkw_297 : Cond.methodLink "SettlerColonyLaw" 297 yX12_tried ∈ lw_g := mem_g 2548 (by decide +kernel) (by decide +kernel)
theorem lkw_298 : Cond.methodLink "SettlerColonyLaw" 298 yL_prices ∈ lw_g := mem_g 1864 (by decide +kernel) (by decide +kernel)
theorem lkw_301 : Cond.methodLink "SettlerColonyLaw" 301 yX12_prices ∈ lw_g := mem_g 2556 (by decide +kernel) (by decide +kernel)
theorem lkw_302 : Cond.methodLink "SettlerColonyLaw" 302 yL_worst ∈ lw_g := mem_g 1877 (by decide +kernel) (by decide +kernel)
theorem lkw_305 : Cond.methodLink "SettlerColonyLaw" 305 yX12_worst ∈ lw_g := mem_g 2560 (by decide +kernel) (by decide +kernel)
theorem lkw_306 : Cond.methodLink "SettlerColonyLaw" 306 yL_planned ∈ lw_g := mem_g 1887 (by decide +kernel) (by decide +kernel)
theorem lkw_308 : Cond.methodLink "SettlerColonyLaw" 308 yX12_planned ∈ lw_g := mem_g 2567 (by decide +kernel) (by decide +kernel)
theorem lkw_309 : Cond.methodLink "SettlerColonyLaw" 309 yX11_image ∈ lw_g := mem_g 692 (by decide +kernel) (by decide +kernel)
theorem lkw_312 : Cond.methodLink "SettlerColonyLaw" 312 yX12_image ∈ lw_g := mem_g 2571 (by decide +kernel) (by decide +kernel)
theorem lkw_313 : Cond.methodLink "SettlerColonyLaw" 313 yX11_number ∈ lw_g := mem_g 729 (by decide +kernel) (by decide +kernel)
theorem lkw_316 : Cond.methodLink "SettlerColonyLaw" 316 yX12_number ∈ lw_g := mem_g 2575 (by decide +kernel) (by decide +kernel)
theorem lkw_317 : Cond.methodLink "SettlerColonyLaw" 317 yX11_tear ∈ lw_g := mem_g 738 (by decide +kernel) (by decide +kernel)
theorem lkw_320 : Cond.methodLink "SettlerColonyLaw" 320 yX12_tear ∈ lw_g := mem_g 2579 (by decide +kernel) (by decide +kernel)
theorem lkw_321 : Cond.methodLink "SettlerColonyLaw" 321 yX11_check ∈ lw_g := mem_g 746 (by decide +kernel) (by decide +kernel)
theorem lkw_324 : Cond.methodLink "SettlerColonyLaw" 324 yX12_check ∈ lw_g := mem_g 2583 (by decide +kernel) (by decide +kernel)
theorem lkw_325 : Cond.methodLink "SettlerColonyLaw" 325 yX11_count ∈ lw_g := mem_g 754 (by decide +kernel) (by decide +kernel)
theorem lkw_328 : Cond.methodLink "SettlerColonyLaw" 328 yX12_count ∈ lw_g := mem_g 2587 (by decide +kernel) (by decide +kernel)
