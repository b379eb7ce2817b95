theorem wL_c0 {p : Program} {l : Launch} {e : Env} {s : State} {m : MethodId} {args : Array Value} {below : List Frame} {meth : Method} {c : Code} {Y : Nat → ClassId} {D : va_G} {σ : Nat → Nat} {np b0 cells slots : Nat} {Q : State → Prop} {M : Mc} {N : Md} {b nX j : Nat} {xs : Nat → Int32} (hfl : l.stackTraces = false) (hE : EOK p s m args meth c cL_law_ 7 "SettlerColonyLaw" Y D σ np b0) (hX : va_X b nX xs s s.heap) (hb : b < b0) (hj : j + 6 ≤ nX) (hn : nX ≤ 3072) (hG : GI np M N) (hc : cells ≤ 600000) (hs : slots ≤ 7000000) (hK : LK p l e s m args below meth c Y D b0 cells slots Q b j) : Xw p l e room_1 s m args below meth c 7 Y D σ np b0 cells slots Q 260 (Lb σ b j) [] M N := by
  unfold Lb
  by_cases hz : xs (j + 3) = 0
  · obtain ⟨x1, hx, hq⟩ := st_M (e := eB) (y := fun R => fX12_land R (xs (j + 1)) (xs (j + 2)) 0) hG (fun n t m R h _ => c_land h (xs (j + 1)) (xs (j + 2)) 0 (Or.inl rfl)) (hA_fX11_land ka_rf)
    rcases hq with ⟨k, b1, R1, rfl, he, hy, ht, hg⟩ | ⟨b1, C1, R1, rfl, hy, ht, hg⟩
    · refine x_aload_n hE 1 dL_law__260 rfl rfl ?_
      refine x_arg hE hX hb hj hn 1 (by decide) (by decide) 0 4 dL_law__261 dL_law__262 dL_law__264 dL_law__265 dL_law__266 rfl rfl ?_
      refine x_arg hE hX hb hj hn 2 (by decide) (by decide) 0 4 dL_law__267 dL_law__268 dL_law__270 dL_law__271 dL_law__272 rfl rfl ?_
      refine x_arg hE hX hb hj hn 3 (by decide) (by decide) 0 4 dL_law__273 dL_law__274 dL_law__276 dL_law__277 dL_law__278 rfl rfl ?_
      refine x_if_eq hE 286 dL_law__279 (by decide) (A := some ()) (B := none) (r := ()) (if_pos hz) (fun _ => ?_) (fun h => by cases h)
      refine x_iconst hE 0 dL_law__286 (by decide) ?_
      refine x_aload_n hE 3 dL_law__287 rfl rfl ?_
      refine x_callSW hE [.ref (σ 0), .int (xs (j + 1)), .int (xs (j + 2)), .int 0, .ref (σ 145)] (rest := []) (v := some (.int (eB k))) (c1 := M) (d1 := N) rfl yowL_land ysL_land lkw_151 ⟨Nat.le_of_ble_eq_true rfl, Nat.le_of_ble_eq_true rfl⟩ ⟨by show cells + 2 ≤ 601024; omega, by show slots + 6 * 2 ≤ 7293034; omega⟩ rfl (Nat.le_of_ble_eq_true rfl) dL_law__288 (mL_land l hfl hx) ?_
      refine x_istore hE (L' := [(5, .int (eB k)), (0, .ref b), (1, .ref (σ 0)), (2, .ref (σ 127)), (3, .ref (σ 145)), (4, .int (nI j))]) dL_law__291 (by decide) rfl ?_
      refine x_aload_n hE 3 dL_law__293 rfl rfl ?_
      refine x_arg hE hX hb hj hn 1 (by decide) (by decide) 1 5 dL_law__294 dL_law__295 dL_law__297 dL_law__298 dL_law__299 rfl rfl ?_
      refine x_arg hE hX hb hj hn 2 (by decide) (by decide) 1 5 dL_law__300 dL_law__301 dL_law__303 dL_law__304 dL_law__305 rfl rfl ?_
      refine x_arg hE hX hb hj hn 3 (by decide) (by decide) 1 5 dL_law__306 dL_law__307 dL_law__309 dL_law__310 dL_law__311 rfl rfl ?_
      refine x_if_eq hE 319 dL_law__312 (by decide) (A := some ()) (B := none) (r := ()) (if_pos hz) (fun _ => ?_) (fun h => by cases h)
      refine x_iconst hE 0 dL_law__319 (by decide) ?_
      refine x_callV1 hE [.int (xs (j + 1)), .int (xs (j + 2)), .int 0] (rest := []) (v := .int b1) (c1 := R1) (d1 := N) rfl yokX12_land yvX12_land lkw_156 rfl cl_12 (hE.kd kO_12) (by decide) rfl rfl ⟨Nat.le_of_ble_eq_true rfl, Nat.le_of_ble_eq_true rfl⟩ ⟨by show (cells + 2) ≤ 601024; omega, by show (slots + 6 * 2) ≤ 7293034; omega⟩ rfl (Nat.le_of_ble_eq_true rfl) dL_law__320 (mX12_land l hy) ?_
      refine x_istore hE (L' := [(6, .int b1), (5, .int (eB k)), (0, .ref b), (1, .ref (σ 0)), (2, .ref (σ 127)), (3, .ref (σ 145)), (4, .int (nI j))]) dL_law__323 (by decide) rfl ?_
      refine x_aload_n hE 4 dL_law__325 rfl rfl ?_
      refine x_callV1 hE [] (rest := []) (v := .int (R1 127 0)) (c1 := R1) (d1 := N) rfl yokX12_thrown yvX12_thrown lkw_157 rfl cl_12 (hE.kd kO_12) (by decide) rfl rfl ⟨Nat.le_of_ble_eq_true rfl, Nat.le_of_ble_eq_true rfl⟩ ⟨by show (cells + 2) ≤ 601024; omega, by show (slots + 6 * 2) ≤ 7293034; omega⟩ rfl (Nat.le_of_ble_eq_true rfl) dL_law__326 (mX12_thrown l rfl) ?_
      refine x_iload hE 1 dL_law__329 rfl ?_
      refine x_icmp_eq hE 336 dL_law__331 (by decide) (A := some ()) (B := none) (r := ()) (if_pos ht) (fun _ => ?_) (fun h => by cases h)
      refine x_iload hE 1 dL_law__336 rfl ?_
      refine x_if_ne hE 353 dL_law__338 (by decide) (A := some ()) (B := none) (r := ()) (if_neg he) (fun _ => ?_) (fun h => by cases h)
      refine x_goto hE 3277 dL_law__353 (by decide) ?_
      refine x_pick [2, 3, 4, 5, 6] (L' := Lb σ b j) rfl ?_
      exact hK σ np (cells + 2) (slots + 6 * 2) R1 N hE hg (by omega) (by omega)
    · refine x_aload_n hE 1 dL_law__260 rfl rfl ?_
      refine x_arg hE hX hb hj hn 1 (by decide) (by decide) 0 4 dL_law__261 dL_law__262 dL_law__264 dL_law__265 dL_law__266 rfl rfl ?_
      refine x_arg hE hX hb hj hn 2 (by decide) (by decide) 0 4 dL_law__267 dL_law__268 dL_law__270 dL_law__271 dL_law__272 rfl rfl ?_
      refine x_arg hE hX hb hj hn 3 (by decide) (by decide) 0 4 dL_law__273 dL_law__274 dL_law__276 dL_law__277 dL_law__278 rfl rfl ?_
      refine x_if_eq hE 286 dL_law__279 (by decide) (A := some ()) (B := none) (r := ()) (if_pos hz) (fun _ => ?_) (fun h => by cases h)
      refine x_iconst hE 0 dL_law__286 (by decide) ?_
      refine x_aload_n hE 3 dL_law__287 rfl rfl ?_
      refine x_callSW hE [.ref (σ 0), .int (xs (j + 1)), .int (xs (j + 2)), .int 0, .ref (σ 145)] (rest := []) (v := some (.int 0)) (c1 := C1) (d1 := (wrd N 145 0 b1.toInt64)) rfl yowL_land ysL_land lkw_151 ⟨Nat.le_of_ble_eq_true rfl, Nat.le_of_ble_eq_true rfl⟩ ⟨by show cells + 2 ≤ 601024; omega, by show slots + 6 * 2 ≤ 7293034; omega⟩ rfl (Nat.le_of_ble_eq_true rfl) dL_law__288 (mL_land l hfl hx) ?_
      refine x_istore hE (L' := [(5, .int 0), (0, .ref b), (1, .ref (σ 0)), (2, .ref (σ 127)), (3, .ref (σ 145)), (4, .int (nI j))]) dL_law__291 (by decide) rfl ?_
      refine x_aload_n hE 3 dL_law__293 rfl rfl ?_
      refine x_arg hE hX hb hj hn 1 (by decide) (by decide) 1 5 dL_law__294 dL_law__295 dL_law__297 dL_law__298 dL_law__299 rfl rfl ?_
      refine x_arg hE hX hb hj hn 2 (by decide) (by decide) 1 5 dL_law__300 dL_law__301 dL_law__303 dL_law__304 dL_law__305 rfl rfl ?_
      refine x_arg hE hX hb hj hn 3 (by decide) (by decide) 1 5 dL_law__306 dL_law__307 dL_law__309 dL_law__310 dL_law__311 rfl rfl ?_
      refine x_if_eq hE 319 dL_law__312 (by decide) (A := some ()) (B := none) (r := ()) (if_pos hz) (fun _ => ?_) (fun h => by cases h)
      refine x_iconst hE 0 dL_law__319 (by decide) ?_
      refine x_callV1 hE [.int (xs (j + 1)), .int (xs (j + 2)), .int 0] (rest := []) (v := .int b1) (c1 := R1) (d1 := (wrd N 145 0 b1.toInt64)) rfl yokX12_land yvX12_land lkw_156 rfl cl_12 (hE.kd kO_12) (by decide) rfl rfl ⟨Nat.le_of_ble_eq_true rfl, Nat.le_of_ble_eq_true rfl⟩ ⟨by show (cells + 2) ≤ 601024; omega, by show (slots + 6 * 2) ≤ 7293034; omega⟩ rfl (Nat.le_of_ble_eq_true rfl) dL_law__320 (mX12_land l hy) ?_
      refine x_istore hE (L' := [(6, .int b1), (5, .int 0), (0, .ref b), (1, .ref (σ 0)), (2, .ref (σ 127)), (3, .ref (σ 145)), (4, .int (nI j))]) dL_law__323 (by decide) rfl ?_
      refine x_aload_n hE 4 dL_law__325 rfl rfl ?_
      refine x_callV1 hE [] (rest := []) (v := .int (R1 127 0)) (c1 := R1) (d1 := (wrd N 145 0 b1.toInt64)) rfl yokX12_thrown yvX12_thrown lkw_157 rfl cl_12 (hE.kd kO_12) (by decide) rfl rfl ⟨Nat.le_of_ble_eq_true rfl, Nat.le_of_ble_eq_true rfl⟩ ⟨by show (cells + 2) ≤ 601024; omega, by show (slots + 6 * 2) ≤ 7293034; omega⟩ rfl (Nat.le_of_ble_eq_true rfl) dL_law__326 (mX12_thrown l rfl) ?_
      refine x_iload hE 1 dL_law__329 rfl ?_
      refine x_icmp_eq hE 336 dL_law__331 (by decide) (A := some ()) (B := none) (r := ()) (if_pos ht) (fun _ => ?_) (fun h => by cases h)
      refine x_iload hE 1 dL_law__336 rfl ?_
      refine x_if_ne hE 353 dL_law__338 (by decide) (A := none) (B := some ()) (r := ()) (if_pos rfl) (fun h => by cases h) (fun _ => ?_)
      refine x_aload_n hE 5 dL_law__341 rfl rfl ?_
      refine x_iconst hE 0 dL_law__342 (by decide) ?_
      refine x_lald hE (hE.kd kA_145) dL_law__343 (B := some ()) (r := ()) (by decide) (fun _ => ?_)
      refine x_iload hE 0 dL_law__344 rfl ?_
      refine x_i2l hE dL_law__346 ?_
      refine x_lcmp hE dL_law__347 ?_
      refine x_if_eq hE 353 dL_law__348 (by decide) (A := some ()) (B := none) (r := ()) (if_pos cmp_out) (fun _ => ?_) (fun h => by cases h)
      refine x_goto hE 3277 dL_law__353 (by decide) ?_
      refine x_pick [2, 3, 4, 5, 6] (L' := Lb σ b j) rfl ?_
      exact hK σ np (cells + 2) (slots + 6 * 2) R1 (wrd N 145 0 b1.toInt64) hE (gi_w hg) (by omega) (by omega)
  · obtain ⟨x1, hx, hq⟩ := st_M (e := eB) (y := fun R => fX12_land R (xs (j + 1)) (xs (j + 2)) (nI 1)) hG (fun n t m R h _ => c_land h (xs (j + 1)) (xs (j + 2)) (nI 1) (Or.inr rfl)) (hA_fX11_land ka_rf)
    rcases hq with ⟨k, b1, R1, rfl, he, hy, ht, hg⟩ | ⟨b1, C1, R1, rfl, hy, ht, hg⟩
    · refine x_aload_n hE 1 dL_law__260 rfl rfl ?_
      refine x_arg hE hX hb hj hn 1 (by decide) (by decide) 0 4 dL_law__261 dL_law__262 dL_law__264 dL_law__265 dL_law__266 rfl rfl ?_
      refine x_arg hE hX hb hj hn 2 (by decide) (by decide) 0 4 dL_law__267 dL_law__268 dL_law__270 dL_law__271 dL_law__272 rfl rfl ?_
      refine x_arg hE hX hb hj hn 3 (by decide) (by decide) 0 4 dL_law__273 dL_law__274 dL_law__276 dL_law__277 dL_law__278 rfl rfl ?_
      refine x_if_eq hE 286 dL_law__279 (by decide) (A := none) (B := some ()) (r := ()) (if_neg hz) (fun h => by cases h) (fun _ => ?_)
      refine x_iconst hE (nI 1) dL_law__282 (by decide) ?_
      refine x_goto hE 287 dL_law__283 (by decide) ?_
      refine x_aload_n hE 3 dL_law__287 rfl rfl ?_
      refine x_callSW hE [.ref (σ 0), .int (xs (j + 1)), .int (xs (j + 2)), .int (nI 1), .ref (σ 145)] (rest := []) (v := some (.int (eB k))) (c1 := M) (d1 := N) rfl yowL_land ysL_land lkw_151 ⟨Nat.le_of_ble_eq_true rfl, Nat.le_of_ble_eq_true rfl⟩ ⟨by show cells + 2 ≤ 601024; omega, by show slots + 6 * 2 ≤ 7293034; omega⟩ rfl (Nat.le_of_ble_eq_true rfl) dL_law__288 (mL_land l hfl hx) ?_
      refine x_istore hE (L' := [(5, .int (eB k)), (0, .ref b), (1, .ref (σ 0)), (2, .ref (σ 127)), (3, .ref (σ 145)), (4, .int (nI j))]) dL_law__291 (by decide) rfl ?_
      refine x_aload_n hE 3 dL_law__293 rfl rfl ?_
      refine x_arg hE hX hb hj hn 1 (by decide) (by decide) 1 5 dL_law__294 dL_law__295 dL_law__297 dL_law__298 dL_law__299 rfl rfl ?_
      refine x_arg hE hX hb hj hn 2 (by decide) (by decide) 1 5 dL_law__300 dL_law__301 dL_law__303 dL_law__304 dL_law__305 rfl rfl ?_
      refine x_arg hE hX hb hj hn 3 (by decide) (by decide) 1 5 dL_law__306 dL_law__307 dL_law__309 dL_law__310 dL_law__311 rfl rfl ?_
      refine x_if_eq hE 319 dL_law__312 (by decide) (A := none) (B := some ()) (r := ()) (if_neg hz) (fun h => by cases h) (fun _ => ?_)
      refine x_iconst hE (nI 1) dL_law__315 (by decide) ?_
      refine x_goto hE 320 dL_law__316 (by decide) ?_
      refine x_callV1 hE [.int (xs (j + 1)), .int (xs (j + 2)), .int (nI 1)] (rest := []) (v := .int b1) (c1 := R1) (d1 := N) rfl yokX12_land yvX12_land lkw_156 rfl cl_12 (hE.kd kO_12) (by decide) rfl rfl ⟨Nat.le_of_ble_eq_true rfl, Nat.le_of_ble_eq_true rfl⟩ ⟨by show (cells + 2) ≤ 601024; omega, by show (slots + 6 * 2) ≤ 7293034; omega⟩ rfl (Nat.le_of_ble_eq_true rfl) dL_law__320 (mX12_land l hy) ?_
      refine x_istore hE (L' := [(6, .int b1), (5, .int (eB k)), (0, .ref b), (1, .ref (σ 0)), (2, .ref (σ 127)), (3, .ref (σ 145)), (4, .int (nI j))]) dL_law__323 (by decide) rfl ?_
      refine x_aload_n hE 4 dL_law__325 rfl rfl ?_
      refine x_callV1 hE [] (rest := []) (v := .int (R1 127 0)) (c1 := R1) (d1 := N) rfl yokX12_thrown yvX12_thrown lkw_157 rfl cl_12 (hE.kd kO_12) (by decide) rfl rfl ⟨Nat.le_of_ble_eq_true rfl, Nat.le_of_ble_eq_true rfl⟩ ⟨by show (cells + 2) ≤ 601024; omega, by show (slots + 6 * 2) ≤ 7293034; omega⟩ rfl (Nat.le_of_ble_eq_true rfl) dL_law__326 (mX12_thrown l rfl) ?_
      refine x_iload hE 1 dL_law__329 rfl ?_
      refine x_icmp_eq hE 336 dL_law__331 (by decide) (A := some ()) (B := none) (r := ()) (if_pos ht) (fun _ => ?_) (fun h => by cases h)
      refine x_iload hE 1 dL_law__336 rfl ?_
      refine x_if_ne hE 353 dL_law__338 (by decide) (A := some ()) (B := none) (r := ()) (if_neg he) (fun _ => ?_) (fun h => by cases h)
      refine x_goto hE 3277 dL_law__353 (by decide) ?_
      refine x_pick [2, 3, 4, 5, 6] (L' := Lb σ b j) rfl ?_
      exact hK σ np (cells + 2) (slots + 6 * 2) R1 N hE hg (by omega) (by omega)
    · refine x_aload_n hE 1 dL_law__260 rfl rfl ?_
      refine x_arg hE hX hb hj hn 1 (by decide) (by decide) 0 4 dL_law__261 dL_law__262 dL_law__264 dL_law__265 dL_law__266 rfl rfl ?_
      refine x_arg hE hX hb hj hn 2 (by decide) (by decide) 0 4 dL_law__267 dL_law__268 dL_law__270 dL_law__271 dL_law__272 rfl rfl ?_
      refine x_arg hE hX hb hj hn 3 (by decide) (by decide) 0 4 dL_law__273 dL_law__274 dL_law__276 dL_law__277 dL_law__278 rfl rfl ?_
      refine x_if_eq hE 286 dL_law__279 (by decide) (A := none) (B := some ()) (r := ()) (if_neg hz) (fun h => by cases h) (fun _ => ?_)
      refine x_iconst hE (nI 1) dL_law__282 (by decide) ?_
      refine x_goto hE 287 dL_law__283 (by decide) ?_
      refine x_aload_n hE 3 dL_law__287 rfl rfl ?_
      refine x_callSW hE [.ref (σ 0), .int (xs (j + 1)), .int (xs (j + 2)), .int (nI 1), .ref (σ 145)] (rest := []) (v := some (.int 0)) (c1 := C1) (d1 := (wrd N 145 0 b1.toInt64)) rfl yowL_land ysL_land lkw_151 ⟨Nat.le_of_ble_eq_true rfl, Nat.le_of_ble_eq_true rfl⟩ ⟨by show cells + 2 ≤ 601024; omega, by show slots + 6 * 2 ≤ 7293034; omega⟩ rfl (Nat.le_of_ble_eq_true rfl) dL_law__288 (mL_land l hfl hx) ?_
      refine x_istore hE (L' := [(5, .int 0), (0, .ref b), (1, .ref (σ 0)), (2, .ref (σ 127)), (3, .ref (σ 145)), (4, .int (nI j))]) dL_law__291 (by decide) rfl ?_
      refine x_aload_n hE 3 dL_law__293 rfl rfl ?_
      refine x_arg hE hX hb hj hn 1 (by decide) (by decide) 1 5 dL_law__294 dL_law__295 dL_law__297 dL_law__298 dL_law__299 rfl rfl ?_
      refine x_arg hE hX hb hj hn 2 (by decide) (by decide) 1 5 dL_law__300 dL_law__301 dL_law__303 dL_law__304 dL_law__305 rfl rfl ?_
      refine x_arg hE hX hb hj hn 3 (by decide) (by decide) 1 5 dL_law__306 dL_law__307 dL_law__309 dL_law__310 dL_law__311 rfl rfl ?_
      refine x_if_eq hE 319 dL_law__312 (by decide) (A := none) (B := some ()) (r := ()) (if_neg hz) (fun h => by cases h) (fun _ => ?_)
      refine x_iconst hE (nI 1) dL_law__315 (by decide) ?_
      refine x_goto hE 320 dL_law__316 (by decide) ?_
      refine x_callV1 hE [.int (xs (j + 1)), .int (xs (j + 2)), .int (nI 1)] (rest := []) (v := .int b1) (c1 := R1) (d1 := (wrd N 145 0 b1.toInt64)) rfl yokX12_land yvX12_land lkw_156 rfl cl_12 (hE.kd kO_12) (by decide) rfl rfl ⟨Nat.le_of_ble_eq_true rfl, Nat.le_of_ble_eq_true rfl⟩ ⟨by show (cells + 2) ≤ 601024; omega, by show (slots + 6 * 2) ≤ 7293034; omega⟩ rfl (Nat.le_of_ble_eq_true rfl) dL_law__320 (mX12_land l hy) ?_
      refine x_istore hE (L' := [(6, .int b1), (5, .int 0), (0, .ref b), (1, .ref (σ 0)), (2, .ref (σ 127)), (3, .ref (σ 145)), (4, .int (nI j))]) dL_law__323 (by decide) rfl ?_
      refine x_aload_n hE 4 dL_law__325 rfl rfl ?_
      refine x_callV1 hE [] (rest := []) (v := .int (R1 127 0)) (c1 := R1) (d1 := (wrd N 145 0 b1.toInt64)) rfl yokX12_thrown yvX12_thrown lkw_157 rfl cl_12 (hE.kd kO_12) (by decide) rfl rfl ⟨Nat.le_of_ble_eq_true rfl, Nat.le_of_ble_eq_true rfl⟩ ⟨by show (cells + 2) ≤ 601024; omega, by show (slots + 6 * 2) ≤ 7293034; omega⟩ rfl (Nat.le_of_ble_eq_true rfl) dL_law__326 (mX12_thrown l rfl) ?_
      refine x_iload hE 1 dL_law__329 rfl ?_
      refine x_icmp_eq hE 336 dL_law__331 (by decide) (A := some ()) (B := none) (r := ()) (if_pos ht) (fun _ => ?_) (fun h => by cases h)
      refine x_iload hE 1 dL_law__336 rfl ?_
      refine x_if_ne hE 353 dL_law__338 (by decide) (A := none) (B := some ()) (r := ()) (if_pos rfl) (fun h => by cases h) (fun _ => ?_)
      refine x_aload_n hE 5 dL_law__341 rfl rfl ?_
      refine x_iconst hE 0 dL_law__342 (by decide) ?_
      refine x_lald hE (hE.kd kA_145) dL_law__343 (B := some ()) (r := ()) (by decide) (fun _ => ?_)
      refine x_iload hE 0 dL_law__344 rfl ?_
      refine x_i2l hE dL_law__346 ?_
      refine x_lcmp hE dL_law__347 ?_
      refine x_if_eq hE 353 dL_law__348 (by decide) (A := some ()) (B := none) (r := ()) (if_pos cmp_out) (fun _ => ?_) (fun h => by cases h)
      refine x_goto hE 3277 dL_law__353 (by decide) ?_
      refine x_pick [2, 3, 4, 5, 6] (L' := Lb σ b j) rfl ?_
      exact hK σ np (cells + 2) (slots + 6 * 2) R1 (wrd N 145 0 b1.toInt64) hE (gi_w hg) (by omega) (by omega)
theorem wL_c1 {p : Program} {l : Launch} {e : Env} {s : State} {m : MethodId} {args : Array Value} {below : List Frame} {meth : Method} {c : Code} {Y : Nat → ClassId} {D : va_G} {σ : Nat → Nat} {np b0 cells slots : Nat} {Q : State → Prop} {M : Mc} {N : Md} {b nX j : Nat} {xs : Nat → Int32} (hfl : l.stackTraces = false) (hE : EOK p s m args meth c cL_law_ 7 "SettlerColonyLaw" Y D σ np b0) (hX : va_X b nX xs s s.heap) (hb : b < b0) (hj : j + 6 ≤ nX) (hn : nX ≤ 3072) (hG : GI np M N) (hc : cells ≤ 600000) (hs : slots ≤ 7000000) (hK : LK p l e s m args below meth c Y D b0 cells slots Q b j) : Xw p l e room_1 s m args below meth c 7 Y D σ np b0 cells slots Q 356 (Lb σ b j) [] M N := by
  unfold Lb
  obtain ⟨x1, hx, hq⟩ := st_M (e := eB) (y := fun R => fX12_rain R (xs (j + 1)) (xs (j + 2))) hG (fun n t m R h _ => c_rain h (xs (j + 1)) (xs (j + 2))) (hA_fX11_rain ka_rf)
  rcases hq with ⟨k, b1, R1, rfl, he, hy, ht, hg⟩ | ⟨b1, C1, R1, rfl, hy, ht, hg⟩
  · refine x_aload_n hE 1 dL_law__356 rfl rfl ?_
    refine x_arg hE hX hb hj hn 1 (by decide) (by decide) 0 4 dL_law__357 dL_law__358 dL_law__360 dL_law__361 dL_law__362 rfl rfl ?_
    refine x_arg hE hX hb hj hn 2 (by decide) (by decide) 0 4 dL_law__363 dL_law__364 dL_law__366 dL_law__367 dL_law__368 rfl rfl ?_
    refine x_aload_n hE 3 dL_law__369 rfl rfl ?_
    refine x_callSW hE [.ref (σ 0), .int (xs (j + 1)), .int (xs (j + 2)), .ref (σ 145)] (rest := []) (v := some (.int (eB k))) (c1 := M) (d1 := N) rfl yowL_rain ysL_rain lkw_161 ⟨Nat.le_of_ble_eq_true rfl, Nat.le_of_ble_eq_true rfl⟩ ⟨by show cells + 2 ≤ 601024; omega, by show slots + 6 * 2 ≤ 7293034; omega⟩ rfl (Nat.le_of_ble_eq_true rfl) dL_law__370 (mL_rain l hfl hx) ?_
    refine x_istore hE (L' := [(5, .int (eB k)), (0, .ref b), (1, .ref (σ 0)), (2, .ref (σ 127)), (3, .ref (σ 145)), (4, .int (nI j))]) dL_law__373 (by decide) rfl ?_
    refine x_aload_n hE 3 dL_law__375 rfl rfl ?_
    refine x_arg hE hX hb hj hn 1 (by decide) (by decide) 1 5 dL_law__376 dL_law__377 dL_law__379 dL_law__380 dL_law__381 rfl rfl ?_
    refine x_arg hE hX hb hj hn 2 (by decide) (by decide) 1 5 dL_law__382 dL_law__383 dL_law__385 dL_law__386 dL_law__387 rfl rfl ?_
    refine x_callV1 hE [.int (xs (j + 1)), .int (xs (j + 2))] (rest := []) (v := .int b1) (c1 := R1) (d1 := N) rfl yokX12_rain yvX12_rain lkw_164 rfl cl_12 (hE.kd kO_12) (by decide) rfl rfl ⟨Nat.le_of_ble_eq_true rfl, Nat.le_of_ble_eq_true rfl⟩ ⟨by show (cells + 2) ≤ 601024; omega, by show (slots + 6 * 2) ≤ 7293034; omega⟩ rfl (Nat.le_of_ble_eq_true rfl) dL_law__388 (mX12_rain l hy) ?_
    refine x_istore hE (L' := [(6, .int b1), (5, .int (eB k)), (0, .ref b), (1, .ref (σ 0)), (2, .ref (σ 127)), (3, .ref (σ 145)), (4, .int (nI j))]) dL_law__391 (by decide) rfl ?_
    refine x_aload_n hE 4 dL_law__393 rfl rfl ?_
    refine x_callV1 hE [] (rest := []) (v := .int (R1 127 0)) (c1 := R1) (d1 := N) rfl yokX12_thrown yvX12_thrown lkw_157 rfl cl_12 (hE.kd kO_12) (by decide) rfl rfl ⟨Nat.le_of_ble_eq_true rfl, Nat.le_of_ble_eq_true rfl⟩ ⟨by show (cells + 2) ≤ 601024; omega, by show (slots + 6 * 2) ≤ 7293034; omega⟩ rfl (Nat.le_of_ble_eq_true rfl) dL_law__394 (mX12_thrown l rfl) ?_
    refine x_iload hE 1 dL_law__397 rfl ?_
    refine x_icmp_eq hE 404 dL_law__399 (by decide) (A := some ()) (B := none) (r := ()) (if_pos ht) (fun _ => ?_) (fun h => by cases h)
    refine x_iload hE 1 dL_law__404 rfl ?_
    refine x_if_ne hE 421 dL_law__406 (by decide) (A := some ()) (B := none) (r := ()) (if_neg he) (fun _ => ?_) (fun h => by cases h)
    refine x_goto hE 3277 dL_law__421 (by decide) ?_
    refine x_pick [2, 3, 4, 5, 6] (L' := Lb σ b j) rfl ?_
    exact hK σ np (cells + 2) (slots + 6 * 2) R1 N hE hg (by omega) (by omega)
  · refine x_aload_n hE 1 dL_law__356 rfl rfl ?_
    refine x_arg hE hX hb hj hn 1 (by decide) (by decide) 0 4 dL_law__357 dL_law__358 dL_law__360 dL_law__361 dL_law__362 rfl rfl ?_
    refine x_arg hE hX hb hj hn 2 (by decide) (by decide) 0 4 dL_law__363 dL_law__364 dL_law__366 dL_law__367 dL_law__368 rfl rfl ?_
    refine x_aload_n hE 3 dL_law__369 rfl rfl ?_
    refine x_callSW hE [.ref (σ 0), .int (xs (j + 1)), .int (xs (j + 2)), .ref (σ 145)] (rest := []) (v := some (.int 0)) (c1 := C1) (d1 := (wrd N 145 0 b1.toInt64)) rfl yowL_rain ysL_rain lkw_161 ⟨Nat.le_of_ble_eq_true rfl, Nat.le_of_ble_eq_true rfl⟩ ⟨by show cells + 2 ≤ 601024; omega, by show slots + 6 * 2 ≤ 7293034; omega⟩ rfl (Nat.le_of_ble_eq_true rfl) dL_law__370 (mL_rain l hfl hx) ?_
    refine x_istore hE (L' := [(5, .int 0), (0, .ref b), (1, .ref (σ 0)), (2, .ref (σ 127)), (3, .ref (σ 145)), (4, .int (nI j))]) dL_law__373 (by decide) rfl ?_
    refine x_aload_n hE 3 dL_law__375 rfl rfl ?_
    refine x_arg hE hX hb hj hn 1 (by decide) (by decide) 1 5 dL_law__376 dL_law__377 dL_law__379 dL_law__380 dL_law__381 rfl rfl ?_
    refine x_arg hE hX hb hj hn 2 (by decide) (by decide) 1 5 dL_law__382 dL_law__383 dL_law__385 dL_law__386 dL_law__387 rfl rfl ?_
    refine x_callV1 hE [.int (xs (j + 1)), .int (xs (j + 2))] (rest := []) (v := .int b1) (c1 := R1) (d1 := (wrd N 145 0 b1.toInt64)) rfl yokX12_rain yvX12_rain lkw_164 rfl cl_12 (hE.kd kO_12) (by decide) rfl rfl ⟨Nat.le_of_ble_eq_true rfl, Nat.le_of_ble_eq_true rfl⟩ ⟨by show (cells + 2) ≤ 601024; omega, by show (slots + 6 * 2) ≤ 7293034; omega⟩ rfl (Nat.le_of_ble_eq_true rfl) dL_law__388 (mX12_rain l hy) ?_
    refine x_istore hE (L' := [(6, .int b1), (5, .int 0), (0, .ref b), (1, .ref (σ 0)), (2, .ref (σ 127)), (3, .ref (σ 145)), (4, .int (nI j))]) dL_law__391 (by decide) rfl ?_
    refine x_aload_n hE 4 dL_law__393 rfl rfl ?_
    refine x_callV1 hE [] (rest := []) (v := .int (R1 127 0)) (c1 := R1) (d1 := (wrd N 145 0 b1.toInt64)) rfl yokX12_thrown yvX12_thrown lkw_157 rfl cl_12 (hE.kd kO_12) (by decide) rfl rfl ⟨Nat.le_of_ble_eq_true rfl, Nat.le_of_ble_eq_true rfl⟩ ⟨by show (cells + 2) ≤ 601024; omega, by show (slots + 6 * 2) ≤ 7293034; omega⟩ rfl (Nat.le_of_ble_eq_true rfl) dL_law__394 (mX12_thrown l rfl) ?_
    refine x_iload hE 1 dL_law__397 rfl ?_
    refine x_icmp_eq hE 404 dL_law__399 (by decide) (A := some ()) (B := none) (r := ()) (if_pos ht) (fun _ => ?_) (fun h => by cases h)
    refine x_iload hE 1 dL_law__404 rfl ?_
    refine x_if_ne hE 421 dL_law__406 (by decide) (A := none) (B := some ()) (r := ()) (if_pos rfl) (fun h => by cases h) (fun _ => ?_)
    refine x_aload_n hE 5 dL_law__409 rfl rfl ?_
    refine x_iconst hE 0 dL_law__410 (by decide) ?_
    refine x_lald hE (hE.kd kA_145) dL_law__411 (B := some ()) (r := ()) (by decide) (fun _ => ?_)
    refine x_iload hE 0 dL_law__412 rfl ?_
    refine x_i2l hE dL_law__414 ?_
    refine x_lcmp hE dL_law__415 ?_
    refine x_if_eq hE 421 dL_law__416 (by decide) (A := some ()) (B := none) (r := ()) (if_pos cmp_out) (fun _ => ?_) (fun h => by cases h)
    refine x_goto hE 3277 dL_law__421 (by decide) ?_
    refine x_pick [2, 3, 4, 5, 6] (L' := Lb σ b j) rfl ?_
    exact hK σ np (cells + 2) (slots + 6 * 2) R1 (wrd N 145 0 b1.toInt64) hE (gi_w hg) (by omega) (by omega)
theorem wL_c2 {p : Program} {l : Launch} {e : Env} {s : State} {m : MethodId} {args : Array Value} {below : List Frame} {meth : Method} {c : Code} {Y : Nat → ClassId} {D : va_G} {σ : Nat → Nat} {np b0 cells slots : Nat} {Q : State → Prop} {M : Mc} {N : Md} {b nX j : Nat} {xs : Nat → Int32} (hfl : l.stackTraces = false) (hE : EOK p s m args meth c cL_law_ 7 "SettlerColonyLaw" Y D σ np b0) (hX : va_X b nX xs s s.heap) (hb : b < b0) (hj : j + 6 ≤ nX) (hn : nX ≤ 3072) (hG : GI np M N) (hc : cells ≤ 600000) (hs : slots ≤ 7000000) (hK : LK p l e s m args below meth c Y D b0 cells slots Q b j) : Xw p l e room_1 s m args below meth c 7 Y D σ np b0 cells slots Q 424 (Lb σ b j) [] M N := by
  unfold Lb
  obtain ⟨x1, hx, hq⟩ := st_M (e := eB) (y := fun R => fX12_rains R (xs (j + 1)) (xs (j + 2)) (xs (j + 3))) hG (fun n t m R h _ => c_rains h (xs (j + 1)) (xs (j + 2)) (xs (j + 3))) (hA_fX11_rains ka_rf)
  rcases hq with ⟨k, b1, R1, rfl, he, hy, ht, hg⟩ | ⟨b1, C1, R1, rfl, hy, ht, hg⟩
  · refine x_aload_n hE 1 dL_law__424 rfl rfl ?_
    refine x_arg hE hX hb hj hn 1 (by decide) (by decide) 0 4 dL_law__425 dL_law__426 dL_law__428 dL_law__429 dL_law__430 rfl rfl ?_
    refine x_arg hE hX hb hj hn 2 (by decide) (by decide) 0 4 dL_law__431 dL_law__432 dL_law__434 dL_law__435 dL_law__436 rfl rfl ?_
    refine x_arg hE hX hb hj hn 3 (by decide) (by decide) 0 4 dL_law__437 dL_law__438 dL_law__440 dL_law__441 dL_law__442 rfl rfl ?_
    refine x_aload_n hE 3 dL_law__443 rfl rfl ?_
    refine x_callSW hE [.ref (σ 0), .int (xs (j + 1)), .int (xs (j + 2)), .int (xs (j + 3)), .ref (σ 145)] (rest := []) (v := some (.int (eB k))) (c1 := M) (d1 := N) rfl yowL_rains ysL_rains lkw_165 ⟨Nat.le_of_ble_eq_true rfl, Nat.le_of_ble_eq_true rfl⟩ ⟨by show cells + 2 ≤ 601024; omega, by show slots + 6 * 2 ≤ 7293034; omega⟩ rfl (Nat.le_of_ble_eq_true rfl) dL_law__444 (mL_rains l hfl hx) ?_
    refine x_istore hE (L' := [(5, .int (eB k)), (0, .ref b), (1, .ref (σ 0)), (2, .ref (σ 127)), (3, .ref (σ 145)), (4, .int (nI j))]) dL_law__447 (by decide) rfl ?_
    refine x_aload_n hE 3 dL_law__449 rfl rfl ?_
    refine x_arg hE hX hb hj hn 1 (by decide) (by decide) 1 5 dL_law__450 dL_law__451 dL_law__453 dL_law__454 dL_law__455 rfl rfl ?_
    refine x_arg hE hX hb hj hn 2 (by decide) (by decide) 1 5 dL_law__456 dL_law__457 dL_law__459 dL_law__460 dL_law__461 rfl rfl ?_
    refine x_arg hE hX hb hj hn 3 (by decide) (by decide) 1 5 dL_law__462 dL_law__463 dL_law__465 dL_law__466 dL_law__467 rfl rfl ?_
    refine x_callV1 hE [.int (xs (j + 1)), .int (xs (j + 2)), .int (xs (j + 3))] (rest := []) (v := .int b1) (c1 := R1) (d1 := N) rfl yokX12_rains yvX12_rains lkw_168 rfl cl_12 (hE.kd kO_12) (by decide) rfl rfl ⟨Nat.le_of_ble_eq_true rfl, Nat.le_of_ble_eq_true rfl⟩ ⟨by show (cells + 2) ≤ 601024; omega, by show (slots + 6 * 2) ≤ 7293034; omega⟩ rfl (Nat.le_of_ble_eq_true rfl) dL_law__468 (mX12_rains l hy) ?_
    refine x_istore hE (L' := [(6, .int b1), (5, .int (eB k)), (0, .ref b), (1, .ref (σ 0)), (2, .ref (σ 127)), (3, .ref (σ 145)), (4, .int (nI j))]) dL_law__471 (by decide) rfl ?_
    refine x_aload_n hE 4 dL_law__473 rfl rfl ?_
    refine x_callV1 hE [] (rest := []) (v := .int (R1 127 0)) (c1 := R1) (d1 := N) rfl yokX12_thrown yvX12_thrown lkw_157 rfl cl_12 (hE.kd kO_12) (by decide) rfl rfl ⟨Nat.le_of_ble_eq_true rfl, Nat.le_of_ble_eq_true rfl⟩ ⟨by show (cells + 2) ≤ 601024; omega, by show (slots + 6 * 2) ≤ 7293034; omega⟩ rfl (Nat.le_of_ble_eq_true rfl) dL_law__474 (mX12_thrown l rfl) ?_
    refine x_iload hE 1 dL_law__477 rfl ?_
    refine x_icmp_eq hE 484 dL_law__479 (by decide) (A := some ()) (B := none) (r := ()) (if_pos ht) (fun _ => ?_) (fun h => by cases h)
    refine x_iload hE 1 dL_law__484 rfl ?_
    refine x_if_ne hE 501 dL_law__486 (by decide) (A := some ()) (B := none) (r := ()) (if_neg he) (fun _ => ?_) (fun h => by cases h)
    refine x_goto hE 3277 dL_law__501 (by decide) ?_
    refine x_pick [2, 3, 4, 5, 6] (L' := Lb σ b j) rfl ?_
    exact hK σ np (cells + 2) (slots + 6 * 2) R1 N hE hg (by omega) (by omega)
  · refine x_aload_n hE 1 dL_law__424 rfl rfl ?_
    refine x_arg hE hX hb hj hn 1 (by decide) (by decide) 0 4 dL_law__425 dL_law__426 dL_law__428 dL_law__429 dL_law__430 rfl rfl ?_
    refine x_arg hE hX hb hj hn 2 (by decide) (by decide) 0 4 dL_law__431 dL_law__432 dL_law__434 dL_law__435 dL_law__436 rfl rfl ?_
    refine x_arg hE hX hb hj hn 3 (by decide) (by decide) 0 4 dL_law__437 dL_law__438 dL_law__440 dL_law__441 dL_law__442 rfl rfl ?_
    refine x_aload_n hE 3 dL_law__443 rfl rfl ?_
    refine x_callSW hE [.ref (σ 0), .int (xs (j + 1)), .int (xs (j + 2)), .int (xs (j + 3)), .ref (σ 145)] (rest := []) (v := some (.int 0)) (c1 := C1) (d1 := (wrd N 145 0 b1.toInt64)) rfl yowL_rains ysL_rains lkw_165 ⟨Nat.le_of_ble_eq_true rfl, Nat.le_of_ble_eq_true rfl⟩ ⟨by show cells + 2 ≤ 601024; omega, by show slots + 6 * 2 ≤ 7293034; omega⟩ rfl (Nat.le_of_ble_eq_true rfl) dL_law__444 (mL_rains l hfl hx) ?_
    refine x_istore hE (L' := [(5, .int 0), (0, .ref b), (1, .ref (σ 0)), (2, .ref (σ 127)), (3, .ref (σ 145)), (4, .int (nI j))]) dL_law__447 (by decide) rfl ?_
    refine x_aload_n hE 3 dL_law__449 rfl rfl ?_
    refine x_arg hE hX hb hj hn 1 (by decide) (by decide) 1 5 dL_law__450 dL_law__451 dL_law__453 dL_law__454 dL_law__455 rfl rfl ?_
    refine x_arg hE hX hb hj hn 2 (by decide) (by decide) 1 5 dL_law__456 dL_law__457 dL_law__459 dL_law__460 dL_law__461 rfl rfl ?_
    refine x_arg hE hX hb hj hn 3 (by decide) (by decide) 1 5 dL_law__462 dL_law__463 dL_law__465 dL_law__466 dL_law__467 rfl rfl ?_
    refine x_callV1 hE [.int (xs (j + 1)), .int (xs (j + 2)), .int (xs (j + 3))] (rest := []) (v := .int b1) (c1 := R1) (d1 := (wrd N 145 0 b1.toInt64)) rfl yokX12_rains yvX12_rains lkw_168 rfl cl_12 (hE.kd kO_12) (by decide) rfl rfl ⟨Nat.le_of_ble_eq_true rfl, Nat.le_of_ble_eq_true rfl⟩ ⟨by show (cells + 2) ≤ 601024; omega, by show (slots + 6 * 2) ≤ 7293034; omega⟩ rfl (Nat.le_of_ble_eq_true rfl) dL_law__468 (mX12_rains l hy) ?_
    refine x_istore hE (L' := [(6, .int b1), (5, .int 0), (0, .ref b), (1, .ref (σ 0)), (2, .ref (σ 127)), (3, .ref (σ 145)), (4, .int (nI j))]) dL_law__471 (by decide) rfl ?_
    refine x_aload_n hE 4 dL_law__473 rfl rfl ?_
    refine x_callV1 hE [] (rest := []) (v := .int (R1 127 0)) (c1 := R1) (d1 := (wrd N 145 0 b1.toInt64)) rfl yokX12_thrown yvX12_thrown lkw_157 rfl cl_12 (hE.kd kO_12) (by decide) rfl rfl ⟨Nat.le_of_ble_eq_true rfl, Nat.le_of_ble_eq_true rfl⟩ ⟨by show (cells + 2) ≤ 601024; omega, by show (slots + 6 * 2) ≤ 7293034; omega⟩ rfl (Nat.le_of_ble_eq_true rfl) dL_law__474 (mX12_thrown l rfl) ?_
    refine x_iload hE 1 dL_law__477 rfl ?_
    refine x_icmp_eq hE 484 dL_law__479 (by decide) (A := some ()) (B := none) (r := ()) (if_pos ht) (fun _ => ?_) (fun h => by cases h)
    refine x_iload hE 1 dL_law__484 rfl ?_
    refine x_if_ne hE 501 dL_law__486 (by decide) (A := none) (B := some ()) (r := ()) (if_pos rfl) (fun h => by cases h) (fun _ => ?_)
    refine x_aload_n hE 5 dL_law__489 rfl rfl ?_
    refine x_iconst hE 0 dL_law__490 (by decide) ?_
    refine x_lald hE (hE.kd kA_145) dL_law__491 (B := some ()) (r := ()) (by decide) (fun _ => ?_)
    refine x_iload hE 0 dL_law__492 rfl ?_
    refine x_i2l hE dL_law__494 ?_
    refine x_lcmp hE dL_law__495 ?_
    refine x_if_eq hE 501 dL_law__496 (by decide) (A := some ()) (B := none) (r := ()) (if_pos cmp_out) (fun _ => ?_) (fun h => by cases h)
    refine x_goto hE 3277 dL_law__501 (by decide) ?_
    refine x_pick [2, 3, 4, 5, 6] (L' := Lb σ b j) rfl ?_
    exact hK σ np (cells + 2) (slots + 6 * 2) R1 (wrd N 145 0 b1.toInt64) hE (gi_w hg) (by omega) (by omega)
theorem wL_c3 {p : Program} {l : Launch} {e : Env} {s : State} {m : MethodId} {args : Array Value} {below : List Frame} {meth : Method} {c : Code} {Y : Nat → ClassId} {D : va_G} {σ : Nat → Nat} {np b0 cells slots : Nat} {Q : State → Prop} {M : Mc} {N : Md} {b nX j : Nat} {xs : Nat → Int32} (hfl : l.stackTraces = false) (hE : EOK p s m args meth c cL_law_ 7 "SettlerColonyLaw" Y D σ np b0) (hX : va_X b nX xs s s.heap) (hb : b < b0) (hj : j + 6 ≤ nX) (hn : nX ≤ 3072) (hG : GI np M N) (hc : cells ≤ 600000) (hs : slots ≤ 7000000) (hK : LK p l e s m args below meth c Y D b0 cells slots Q b j) : Xw p l e room_1 s m args below meth c 7 Y D σ np b0 cells slots Q 504 (Lb σ b j) [] M N := by
  unfold Lb
  obtain ⟨x1, hx, hq⟩ := st_R (e := eB) (y := fun R => fX12_fell R (xs (j + 1)) (xs (j + 2))) hG (fun n t m h => c_fell h (xs (j + 1)) (xs (j + 2)))
  rcases hq with ⟨k, b1, R1, rfl, he, hy, ht, hg⟩ | ⟨b1, R1, rfl, hy, ht, hg⟩
  · refine x_aload_n hE 1 dL_law__504 rfl rfl ?_
    refine x_arg hE hX hb hj hn 1 (by decide) (by decide) 0 4 dL_law__505 dL_law__506 dL_law__508 dL_law__509 dL_law__510 rfl rfl ?_
    refine x_arg hE hX hb hj hn 2 (by decide) (by decide) 0 4 dL_law__511 dL_law__512 dL_law__514 dL_law__515 dL_law__516 rfl rfl ?_
    refine x_aload_n hE 3 dL_law__517 rfl rfl ?_
    refine x_callSW hE [.ref (σ 0), .int (xs (j + 1)), .int (xs (j + 2)), .ref (σ 145)] (rest := []) (v := some (.int (eB k))) (c1 := M) (d1 := N) rfl yowL_fell ysL_fell lkw_169 ⟨Nat.le_of_ble_eq_true rfl, Nat.le_of_ble_eq_true rfl⟩ ⟨by show cells + 2 ≤ 601024; omega, by show slots + 6 * 2 ≤ 7293034; omega⟩ rfl (Nat.le_of_ble_eq_true rfl) dL_law__518 (mL_fell l hfl hx) ?_
    refine x_istore hE (L' := [(5, .int (eB k)), (0, .ref b), (1, .ref (σ 0)), (2, .ref (σ 127)), (3, .ref (σ 145)), (4, .int (nI j))]) dL_law__521 (by decide) rfl ?_
    refine x_aload_n hE 3 dL_law__523 rfl rfl ?_
    refine x_arg hE hX hb hj hn 1 (by decide) (by decide) 1 5 dL_law__524 dL_law__525 dL_law__527 dL_law__528 dL_law__529 rfl rfl ?_
    refine x_arg hE hX hb hj hn 2 (by decide) (by decide) 1 5 dL_law__530 dL_law__531 dL_law__533 dL_law__534 dL_law__535 rfl rfl ?_
    refine x_callV1 hE [.int (xs (j + 1)), .int (xs (j + 2))] (rest := []) (v := .int b1) (c1 := R1) (d1 := N) rfl yokX12_fell yvX12_fell lkw_171 rfl cl_12 (hE.kd kO_12) (by decide) rfl rfl ⟨Nat.le_of_ble_eq_true rfl, Nat.le_of_ble_eq_true rfl⟩ ⟨by show (cells + 2) ≤ 601024; omega, by show (slots + 6 * 2) ≤ 7293034; omega⟩ rfl (Nat.le_of_ble_eq_true rfl) dL_law__536 (mX12_fell l hy) ?_
    refine x_istore hE (L' := [(6, .int b1), (5, .int (eB k)), (0, .ref b), (1, .ref (σ 0)), (2, .ref (σ 127)), (3, .ref (σ 145)), (4, .int (nI j))]) dL_law__539 (by decide) rfl ?_
    refine x_aload_n hE 4 dL_law__541 rfl rfl ?_
    refine x_callV1 hE [] (rest := []) (v := .int (R1 127 0)) (c1 := R1) (d1 := N) rfl yokX12_thrown yvX12_thrown lkw_157 rfl cl_12 (hE.kd kO_12) (by decide) rfl rfl ⟨Nat.le_of_ble_eq_true rfl, Nat.le_of_ble_eq_true rfl⟩ ⟨by show (cells + 2) ≤ 601024; omega, by show (slots + 6 * 2) ≤ 7293034; omega⟩ rfl (Nat.le_of_ble_eq_true rfl) dL_law__542 (mX12_thrown l rfl) ?_
    refine x_iload hE 1 dL_law__545 rfl ?_
    refine x_icmp_eq hE 552 dL_law__547 (by decide) (A := some ()) (B := none) (r := ()) (if_pos ht) (fun _ => ?_) (fun h => by cases h)
    refine x_iload hE 1 dL_law__552 rfl ?_
    refine x_if_ne hE 569 dL_law__554 (by decide) (A := some ()) (B := none) (r := ()) (if_neg he) (fun _ => ?_) (fun h => by cases h)
    refine x_goto hE 3277 dL_law__569 (by decide) ?_
    refine x_pick [2, 3, 4, 5, 6] (L' := Lb σ b j) rfl ?_
    exact hK σ np (cells + 2) (slots + 6 * 2) R1 N hE hg (by omega) (by omega)
  · refine x_aload_n hE 1 dL_law__504 rfl rfl ?_
    refine x_arg hE hX hb hj hn 1 (by decide) (by decide) 0 4 dL_law__505 dL_law__506 dL_law__508 dL_law__509 dL_law__510 rfl rfl ?_
    refine x_arg hE hX hb hj hn 2 (by decide) (by decide) 0 4 dL_law__511 dL_law__512 dL_law__514 dL_law__515 dL_law__516 rfl rfl ?_
    refine x_aload_n hE 3 dL_law__517 rfl rfl ?_
    refine x_callSW hE [.ref (σ 0), .int (xs (j + 1)), .int (xs (j + 2)), .ref (σ 145)] (rest := []) (v := some (.int 0)) (c1 := M) (d1 := (wrd N 145 0 b1.toInt64)) rfl yowL_fell ysL_fell lkw_169 ⟨Nat.le_of_ble_eq_true rfl, Nat.le_of_ble_eq_true rfl⟩ ⟨by show cells + 2 ≤ 601024; omega, by show slots + 6 * 2 ≤ 7293034; omega⟩ rfl (Nat.le_of_ble_eq_true rfl) dL_law__518 (mL_fell l hfl hx) ?_
    refine x_istore hE (L' := [(5, .int 0), (0, .ref b), (1, .ref (σ 0)), (2, .ref (σ 127)), (3, .ref (σ 145)), (4, .int (nI j))]) dL_law__521 (by decide) rfl ?_
    refine x_aload_n hE 3 dL_law__523 rfl rfl ?_
    refine x_arg hE hX hb hj hn 1 (by decide) (by decide) 1 5 dL_law__524 dL_law__525 dL_law__527 dL_law__528 dL_law__529 rfl rfl ?_
    refine x_arg hE hX hb hj hn 2 (by decide) (by decide) 1 5 dL_law__530 dL_law__531 dL_law__533 dL_law__534 dL_law__535 rfl rfl ?_
    refine x_callV1 hE [.int (xs (j + 1)), .int (xs (j + 2))] (rest := []) (v := .int b1) (c1 := R1) (d1 := (wrd N 145 0 b1.toInt64)) rfl yokX12_fell yvX12_fell lkw_171 rfl cl_12 (hE.kd kO_12) (by decide) rfl rfl ⟨Nat.le_of_ble_eq_true rfl, Nat.le_of_ble_eq_true rfl⟩ ⟨by show (cells + 2) ≤ 601024; omega, by show (slots + 6 * 2) ≤ 7293034; omega⟩ rfl (Nat.le_of_ble_eq_true rfl) dL_law__536 (mX12_fell l hy) ?_
    refine x_istore hE (L' := [(6, .int b1), (5, .int 0), (0, .ref b), (1, .ref (σ 0)), (2, .ref (σ 127)), (3, .ref (σ 145)), (4, .int (nI j))]) dL_law__539 (by decide) rfl ?_
    refine x_aload_n hE 4 dL_law__541 rfl rfl ?_
    refine x_callV1 hE [] (rest := []) (v := .int (R1 127 0)) (c1 := R1) (d1 := (wrd N 145 0 b1.toInt64)) rfl yokX12_thrown yvX12_thrown lkw_157 rfl cl_12 (hE.kd kO_12) (by decide) rfl rfl ⟨Nat.le_of_ble_eq_true rfl, Nat.le_of_ble_eq_true rfl⟩ ⟨by show (cells + 2) ≤ 601024; omega, by show (slots + 6 * 2) ≤ 7293034; omega⟩ rfl (Nat.le_of_ble_eq_true rfl) dL_law__542 (mX12_thrown l rfl) ?_
    refine x_iload hE 1 dL_law__545 rfl ?_
    refine x_icmp_eq hE 552 dL_law__547 (by decide) (A := some ()) (B := none) (r := ()) (if_pos ht) (fun _ => ?_) (fun h => by cases h)
    refine x_iload hE 1 dL_law__552 rfl ?_
    refine x_if_ne hE 569 dL_law__554 (by decide) (A := none) (B := some ()) (r := ()) (if_pos rfl) (fun h => by cases h) (fun _ => ?_)
    refine x_aload_n hE 5 dL_law__557 rfl rfl ?_
    refine x_iconst hE 0 dL_law__558 (by decide) ?_
    refine x_lald hE (hE.kd kA_145) dL_law__559 (B := some ()) (r := ()) (by decide) (fun _ => ?_)
    refine x_iload hE 0 dL_law__560 rfl ?_
    refine x_i2l hE dL_law__562 ?_
    refine x_lcmp hE dL_law__563 ?_
    refine x_if_eq hE 569 dL_law__564 (by decide) (A := some ()) (B := none) (r := ()) (if_pos cmp_out) (fun _ => ?_) (fun h => by cases h)
    refine x_goto hE 3277 dL_law__569 (by decide) ?_
    refine x_pick [2, 3, 4, 5, 6] (L' := Lb σ b j) rfl ?_
    exact hK σ np (cells + 2) (slots + 6 * 2) R1 (wrd N 145 0 b1.toInt64) hE (gi_w hg) (by omega) (by omega)
theorem wL_c4 {p : Program} {l : Launch} {e : Env} {s : State} {m : MethodId} {args : Array Value} {below : List Frame} {meth : Method} {c : Code} {Y : Nat → ClassId} {D : va_G} {σ : Nat → Nat} {np b0 cells slots : Nat} {Q : State → Prop} {M : Mc} {N : Md} {b nX j : Nat} {xs : Nat → Int32} (hfl : l.stackTraces = false) (hE : EOK p s m args meth c cL_law_ 7 "SettlerColonyLaw" Y D σ np b0) (hX : va_X b nX xs s s.heap) (hb : b < b0) (hj : j + 6 ≤ nX) (hn : nX ≤ 3072) (hG : GI np M N) (hc : cells ≤ 600000) (hs : slots ≤ 7000000) (hK : LK p l e s m args below meth c Y D b0 cells slots Q b j) : Xw p l e room_1 s m args below meth c 7 Y D σ np b0 cells slots Q 572 (Lb σ b j) [] M N := by
  unfold Lb
  obtain ⟨x1, hx, hq⟩ := st_R (e := eB) (y := fun R => fX12_seen R (xs (j + 1))) hG (fun n t m h => c_seen h (xs (j + 1)))
  rcases hq with ⟨k, b1, R1, rfl, he, hy, ht, hg⟩ | ⟨b1, R1, rfl, hy, ht, hg⟩
  · refine x_aload_n hE 1 dL_law__572 rfl rfl ?_
    refine x_arg hE hX hb hj hn 1 (by decide) (by decide) 0 4 dL_law__573 dL_law__574 dL_law__576 dL_law__577 dL_law__578 rfl rfl ?_
    refine x_aload_n hE 3 dL_law__579 rfl rfl ?_
    refine x_callSW hE [.ref (σ 0), .int (xs (j + 1)), .ref (σ 145)] (rest := []) (v := some (.int (eB k))) (c1 := M) (d1 := N) rfl yowL_seen ysL_seen lkw_172 ⟨Nat.le_of_ble_eq_true rfl, Nat.le_of_ble_eq_true rfl⟩ ⟨by show cells + 1 ≤ 601024; omega, by show slots + 6 * 1 ≤ 7293034; omega⟩ rfl (Nat.le_of_ble_eq_true rfl) dL_law__580 (mL_seen l hfl hx) ?_
    refine x_istore hE (L' := [(5, .int (eB k)), (0, .ref b), (1, .ref (σ 0)), (2, .ref (σ 127)), (3, .ref (σ 145)), (4, .int (nI j))]) dL_law__583 (by decide) rfl ?_
    refine x_aload_n hE 3 dL_law__585 rfl rfl ?_
    refine x_arg hE hX hb hj hn 1 (by decide) (by decide) 1 5 dL_law__586 dL_law__587 dL_law__589 dL_law__590 dL_law__591 rfl rfl ?_
    refine x_callV1 hE [.int (xs (j + 1))] (rest := []) (v := .int b1) (c1 := R1) (d1 := N) rfl yokX12_seen yvX12_seen lkw_175 rfl cl_12 (hE.kd kO_12) (by decide) rfl rfl ⟨Nat.le_of_ble_eq_true rfl, Nat.le_of_ble_eq_true rfl⟩ ⟨by show (cells + 1) ≤ 601024; omega, by show (slots + 6 * 1) ≤ 7293034; omega⟩ rfl (Nat.le_of_ble_eq_true rfl) dL_law__592 (mX12_seen l hy) ?_
    refine x_istore hE (L' := [(6, .int b1), (5, .int (eB k)), (0, .ref b), (1, .ref (σ 0)), (2, .ref (σ 127)), (3, .ref (σ 145)), (4, .int (nI j))]) dL_law__595 (by decide) rfl ?_
    refine x_aload_n hE 4 dL_law__597 rfl rfl ?_
    refine x_callV1 hE [] (rest := []) (v := .int (R1 127 0)) (c1 := R1) (d1 := N) rfl yokX12_thrown yvX12_thrown lkw_157 rfl cl_12 (hE.kd kO_12) (by decide) rfl rfl ⟨Nat.le_of_ble_eq_true rfl, Nat.le_of_ble_eq_true rfl⟩ ⟨by show (cells + 1) ≤ 601024; omega, by show (slots + 6 * 1) ≤ 7293034; omega⟩ rfl (Nat.le_of_ble_eq_true rfl) dL_law__598 (mX12_thrown l rfl) ?_
    refine x_iload hE 1 dL_law__601 rfl ?_
    refine x_icmp_eq hE 608 dL_law__603 (by decide) (A := some ()) (B := none) (r := ()) (if_pos ht) (fun _ => ?_) (fun h => by cases h)
    refine x_iload hE 1 dL_law__608 rfl ?_
    refine x_if_ne hE 625 dL_law__610 (by decide) (A := some ()) (B := none) (r := ()) (if_neg he) (fun _ => ?_) (fun h => by cases h)
    refine x_goto hE 3277 dL_law__625 (by decide) ?_
    refine x_pick [2, 3, 4, 5, 6] (L' := Lb σ b j) rfl ?_
    exact hK σ np (cells + 1) (slots + 6 * 1) R1 N hE hg (by omega) (by omega)
  · refine x_aload_n hE 1 dL_law__572 rfl rfl ?_
    refine x_arg hE hX hb hj hn 1 (by decide) (by decide) 0 4 dL_law__573 dL_law__574 dL_law__576 dL_law__577 dL_law__578 rfl rfl ?_
    refine x_aload_n hE 3 dL_law__579 rfl rfl ?_
    refine x_callSW hE [.ref (σ 0), .int (xs (j + 1)), .ref (σ 145)] (rest := []) (v := some (.int 0)) (c1 := M) (d1 := (wrd N 145 0 b1.toInt64)) rfl yowL_seen ysL_seen lkw_172 ⟨Nat.le_of_ble_eq_true rfl, Nat.le_of_ble_eq_true rfl⟩ ⟨by show cells + 1 ≤ 601024; omega, by show slots + 6 * 1 ≤ 7293034; omega⟩ rfl (Nat.le_of_ble_eq_true rfl) dL_law__580 (mL_seen l hfl hx) ?_
    refine x_istore hE (L' := [(5, .int 0), (0, .ref b), (1, .ref (σ 0)), (2, .ref (σ 127)), (3, .ref (σ 145)), (4, .int (nI j))]) dL_law__583 (by decide) rfl ?_
    refine x_aload_n hE 3 dL_law__585 rfl rfl ?_
    refine x_arg hE hX hb hj hn 1 (by decide) (by decide) 1 5 dL_law__586 dL_law__587 dL_law__589 dL_law__590 dL_law__591 rfl rfl ?_
    refine x_callV1 hE [.int (xs (j + 1))] (rest := []) (v := .int b1) (c1 := R1) (d1 := (wrd N 145 0 b1.toInt64)) rfl yokX12_seen yvX12_seen lkw_175 rfl cl_12 (hE.kd kO_12) (by decide) rfl rfl ⟨Nat.le_of_ble_eq_true rfl, Nat.le_of_ble_eq_true rfl⟩ ⟨by show (cells + 1) ≤ 601024; omega, by show (slots + 6 * 1) ≤ 7293034; omega⟩ rfl (Nat.le_of_ble_eq_true rfl) dL_law__592 (mX12_seen l hy) ?_
    refine x_istore hE (L' := [(6, .int b1), (5, .int 0), (0, .ref b), (1, .ref (σ 0)), (2, .ref (σ 127)), (3, .ref (σ 145)), (4, .int (nI j))]) dL_law__595 (by decide) rfl ?_
    refine x_aload_n hE 4 dL_law__597 rfl rfl ?_
    refine x_callV1 hE [] (rest := []) (v := .int (R1 127 0)) (c1 := R1) (d1 := (wrd N 145 0 b1.toInt64)) rfl yokX12_thrown yvX12_thrown lkw_157 rfl cl_12 (hE.kd kO_12) (by decide) rfl rfl ⟨Nat.le_of_ble_eq_true rfl, Nat.le_of_ble_eq_true rfl⟩ ⟨by show (cells + 1) ≤ 601024; omega, by show (slots + 6 * 1) ≤ 7293034; omega⟩ rfl (Nat.le_of_ble_eq_true rfl) dL_law__598 (mX12_thrown l rfl) ?_
    refine x_iload hE 1 dL_law__601 rfl ?_
    refine x_icmp_eq hE 608 dL_law__603 (by decide) (A := some ()) (B := none) (r := ()) (if_pos ht) (fun _ => ?_) (fun h => by cases h)
    refine x_iload hE 1 dL_law__608 rfl ?_
    refine x_if_ne hE 625 dL_law__610 (by decide) (A := none) (B := some ()) (r := ()) (if_pos rfl) (fun h => by cases h) (fun _ => ?_)
    refine x_aload_n hE 5 dL_law__613 rfl rfl ?_
    refine x_iconst hE 0 dL_law__614 (by decide) ?_
    refine x_lald hE (hE.kd kA_145) dL_law__615 (B := some ()) (r := ()) (by decide) (fun _ => ?_)
    refine x_iload hE 0 dL_law__616 rfl ?_
    refine x_i2l hE dL_law__618 ?_
    refine x_lcmp hE dL_law__619 ?_
    refine x_if_eq hE 625 dL_law__620 (by decide) (A := some ()) (B := none) (r := ()) (if_pos cmp_out) (fun _ => ?_) (fun h => by cases h)
    refine x_goto hE 3277 dL_law__625 (by decide) ?_
    refine x_pick [2, 3, 4, 5, 6] (L' := Lb σ b j) rfl ?_
    exact hK σ np (cells + 1) (slots + 6 * 1) R1 (wrd N 145 0 b1.toInt64) hE (gi_w hg) (by omega) (by omega)
theorem wL_c5 {p : Program} {l : Launch} {e : Env} {s : State} {m : MethodId} {args : Array Value} {below : List Frame} {meth : Method} {c : Code} {Y : Nat → ClassId} {D : va_G} {σ : Nat → Nat} {np b0 cells slots : Nat} {Q : State → Prop} {M : Mc} {N : Md} {b nX j : Nat} {xs : Nat → Int32} (hfl : l.stackTraces = false) (hE : EOK p s m args meth c cL_law_ 7 "SettlerColonyLaw" Y D σ np b0) (hX : va_X b nX xs s s.heap) (hb : b < b0) (hj : j + 6 ≤ nX) (hn : nX ≤ 3072) (hG : GI np M N) (hc : cells ≤ 600000) (hs : slots ≤ 7000000) (hK : LK p l e s m args below meth c Y D b0 cells slots Q b j) : Xw p l e room_1 s m args below meth c 7 Y D σ np b0 cells slots Q 628 (Lb σ b j) [] M N := by
  unfold Lb
  obtain ⟨x1, hx, hq⟩ := st_R (e := eB) (y := fun R => fX12_promise R (xs (j + 1))) hG (fun n t m h => c_promise h (xs (j + 1)))
  rcases hq with ⟨k, b1, R1, rfl, he, hy, ht, hg⟩ | ⟨b1, R1, rfl, hy, ht, hg⟩
  · refine x_aload_n hE 1 dL_law__628 rfl rfl ?_
    refine x_arg hE hX hb hj hn 1 (by decide) (by decide) 0 4 dL_law__629 dL_law__630 dL_law__632 dL_law__633 dL_law__634 rfl rfl ?_
    refine x_aload_n hE 3 dL_law__635 rfl rfl ?_
    refine x_callSW hE [.ref (σ 0), .int (xs (j + 1)), .ref (σ 145)] (rest := []) (v := some (.int (eB k))) (c1 := M) (d1 := N) rfl yowL_promise ysL_promise lkw_176 ⟨Nat.le_of_ble_eq_true rfl, Nat.le_of_ble_eq_true rfl⟩ ⟨by show cells + 1 ≤ 601024; omega, by show slots + 6 * 1 ≤ 7293034; omega⟩ rfl (Nat.le_of_ble_eq_true rfl) dL_law__636 (mL_promise l hfl hx) ?_
    refine x_istore hE (L' := [(5, .int (eB k)), (0, .ref b), (1, .ref (σ 0)), (2, .ref (σ 127)), (3, .ref (σ 145)), (4, .int (nI j))]) dL_law__639 (by decide) rfl ?_
    refine x_aload_n hE 3 dL_law__641 rfl rfl ?_
    refine x_arg hE hX hb hj hn 1 (by decide) (by decide) 1 5 dL_law__642 dL_law__643 dL_law__645 dL_law__646 dL_law__647 rfl rfl ?_
    refine x_callV1 hE [.int (xs (j + 1))] (rest := []) (v := .int b1) (c1 := R1) (d1 := N) rfl yokX12_promise yvX12_promise lkw_178 rfl cl_12 (hE.kd kO_12) (by decide) rfl rfl ⟨Nat.le_of_ble_eq_true rfl, Nat.le_of_ble_eq_true rfl⟩ ⟨by show (cells + 1) ≤ 601024; omega, by show (slots + 6 * 1) ≤ 7293034; omega⟩ rfl (Nat.le_of_ble_eq_true rfl) dL_law__648 (mX12_promise l hy) ?_
    refine x_istore hE (L' := [(6, .int b1), (5, .int (eB k)), (0, .ref b), (1, .ref (σ 0)), (2, .ref (σ 127)), (3, .ref (σ 145)), (4, .int (nI j))]) dL_law__651 (by decide) rfl ?_
    refine x_aload_n hE 4 dL_law__653 rfl rfl ?_
    refine x_callV1 hE [] (rest := []) (v := .int (R1 127 0)) (c1 := R1) (d1 := N) rfl yokX12_thrown yvX12_thrown lkw_157 rfl cl_12 (hE.kd kO_12) (by decide) rfl rfl ⟨Nat.le_of_ble_eq_true rfl, Nat.le_of_ble_eq_true rfl⟩ ⟨by show (cells + 1) ≤ 601024; omega, by show (slots + 6 * 1) ≤ 7293034; omega⟩ rfl (Nat.le_of_ble_eq_true rfl) dL_law__654 (mX12_thrown l rfl) ?_
    refine x_iload hE 1 dL_law__657 rfl ?_
    refine x_icmp_eq hE 664 dL_law__659 (by decide) (A := some ()) (B := none) (r := ()) (if_pos ht) (fun _ => ?_) (fun h => by cases h)
    refine x_iload hE 1 dL_law__664 rfl ?_
    refine x_if_ne hE 681 dL_law__666 (by decide) (A := some ()) (B := none) (r := ()) (if_neg he) (fun _ => ?_) (fun h => by cases h)
    refine x_goto hE 3277 dL_law__681 (by decide) ?_
    refine x_pick [2, 3, 4, 5, 6] (L' := Lb σ b j) rfl ?_
    exact hK σ np (cells + 1) (slots + 6 * 1) R1 N hE hg (by omega) (by omega)
  · refine x_aload_n hE 1 dL_law__628 rfl rfl ?_
    refine x_arg hE hX hb hj hn 1 (by decide) (by decide) 0 4 dL_law__629 dL_law__630 dL_law__632 dL_law__633 dL_law__634 rfl rfl ?_
    refine x_aload_n hE 3 dL_law__635 rfl rfl ?_
    refine x_callSW hE [.ref (σ 0), .int (xs (j + 1)), .ref (σ 145)] (rest := []) (v := some (.int 0)) (c1 := M) (d1 := (wrd N 145 0 b1.toInt64)) rfl yowL_promise ysL_promise lkw_176 ⟨Nat.le_of_ble_eq_true rfl, Nat.le_of_ble_eq_true rfl⟩ ⟨by show cells + 1 ≤ 601024; omega, by show slots + 6 * 1 ≤ 7293034; omega⟩ rfl (Nat.le_of_ble_eq_true rfl) dL_law__636 (mL_promise l hfl hx) ?_
    refine x_istore hE (L' := [(5, .int 0), (0, .ref b), (1, .ref (σ 0)), (2, .ref (σ 127)), (3, .ref (σ 145)), (4, .int (nI j))]) dL_law__639 (by decide) rfl ?_
    refine x_aload_n hE 3 dL_law__641 rfl rfl ?_
    refine x_arg hE hX hb hj hn 1 (by decide) (by decide) 1 5 dL_law__642 dL_law__643 dL_law__645 dL_law__646 dL_law__647 rfl rfl ?_
    refine x_callV1 hE [.int (xs (j + 1))] (rest := []) (v := .int b1) (c1 := R1) (d1 := (wrd N 145 0 b1.toInt64)) rfl yokX12_promise yvX12_promise lkw_178 rfl cl_12 (hE.kd kO_12) (by decide) rfl rfl ⟨Nat.le_of_ble_eq_true rfl, Nat.le_of_ble_eq_true rfl⟩ ⟨by show (cells + 1) ≤ 601024; omega, by show (slots + 6 * 1) ≤ 7293034; omega⟩ rfl (Nat.le_of_ble_eq_true rfl) dL_law__648 (mX12_promise l hy) ?_
    refine x_istore hE (L' := [(6, .int b1), (5, .int 0), (0, .ref b), (1, .ref (σ 0)), (2, .ref (σ 127)), (3, .ref (σ 145)), (4, .int (nI j))]) dL_law__651 (by decide) rfl ?_
    refine x_aload_n hE 4 dL_law__653 rfl rfl ?_
    refine x_callV1 hE [] (rest := []) (v := .int (R1 127 0)) (c1 := R1) (d1 := (wrd N 145 0 b1.toInt64)) rfl yokX12_thrown yvX12_thrown lkw_157 rfl cl_12 (hE.kd kO_12) (by decide) rfl rfl ⟨Nat.le_of_ble_eq_true rfl, Nat.le_of_ble_eq_true rfl⟩ ⟨by show (cells + 1) ≤ 601024; omega, by show (slots + 6 * 1) ≤ 7293034; omega⟩ rfl (Nat.le_of_ble_eq_true rfl) dL_law__654 (mX12_thrown l rfl) ?_
    refine x_iload hE 1 dL_law__657 rfl ?_
    refine x_icmp_eq hE 664 dL_law__659 (by decide) (A := some ()) (B := none) (r := ()) (if_pos ht) (fun _ => ?_) (fun h => by cases h)
    refine x_iload hE 1 dL_law__664 rfl ?_
    refine x_if_ne hE 681 dL_law__666 (by decide) (A := none) (B := some ()) (r := ()) (if_pos rfl) (fun h => by cases h) (fun _ => ?_)
    refine x_aload_n hE 5 dL_law__669 rfl rfl ?_
    refine x_iconst hE 0 dL_law__670 (by decide) ?_
    refine x_lald hE (hE.kd kA_145) dL_law__671 (B := some ()) (r := ()) (by decide) (fun _ => ?_)
    refine x_iload hE 0 dL_law__672 rfl ?_
    refine x_i2l hE dL_law__674 ?_
    refine x_lcmp hE dL_law__675 ?_
    refine x_if_eq hE 681 dL_law__676 (by decide) (A := some ()) (B := none) (r := ()) (if_pos cmp_out) (fun _ => ?_) (fun h => by cases h)
    refine x_goto hE 3277 dL_law__681 (by decide) ?_
    refine x_pick [2, 3, 4, 5, 6] (L' := Lb σ b j) rfl ?_
    exact hK σ np (cells + 1) (slots + 6 * 1) R1 (wrd N 145 0 b1.toInt64) hE (gi_w hg) (by omega) (by omega)
theorem wL_c6 {p : Program} {l : Launch} {e : Env} {s : State} {m : MethodId} {args : Array Value} {below : List Frame} {meth : Method} {c : Code} {Y : Nat → ClassId} {D : va_G} {σ : Nat → Nat} {np b0 cells slots : Nat} {Q : State → Prop} {M : Mc} {N : Md} {b nX j : Nat} {xs : Nat → Int32} (hfl : l.stackTraces = false) (hE : EOK p s m args meth c cL_law_ 7 "SettlerColonyLaw" Y D σ np b0) (hX : va_X b nX xs s s.heap) (hb : b < b0) (hj : j + 6 ≤ nX) (hn : nX ≤ 3072) (hG : GI np M N) (hc : cells ≤ 600000) (hs : slots ≤ 7000000) (hK : LK p l e s m args below meth c Y D b0 cells slots Q b j) : Xw p l e room_1 s m args below meth c 7 Y D σ np b0 cells slots Q 684 (Lb σ b j) [] M N := by
  unfold Lb
  obtain ⟨x1, hx, hq⟩ := st_R (e := eB) (y := fun R => fX12_section R (xs (j + 1)) (xs (j + 2))) hG (fun n t m h => c_section h (xs (j + 1)) (xs (j + 2)))
  rcases hq with ⟨k, b1, R1, rfl, he, hy, ht, hg⟩ | ⟨b1, R1, rfl, hy, ht, hg⟩
  · refine x_aload_n hE 1 dL_law__684 rfl rfl ?_
    refine x_arg hE hX hb hj hn 1 (by decide) (by decide) 0 4 dL_law__685 dL_law__686 dL_law__688 dL_law__689 dL_law__690 rfl rfl ?_
    refine x_arg hE hX hb hj hn 2 (by decide) (by decide) 0 4 dL_law__691 dL_law__692 dL_law__694 dL_law__695 dL_law__696 rfl rfl ?_
    refine x_aload_n hE 3 dL_law__697 rfl rfl ?_
    refine x_callSW hE [.ref (σ 0), .int (xs (j + 1)), .int (xs (j + 2)), .ref (σ 145)] (rest := []) (v := some (.int (eB k))) (c1 := M) (d1 := N) rfl yowL_section ysL_section lkw_179 ⟨Nat.le_of_ble_eq_true rfl, Nat.le_of_ble_eq_true rfl⟩ ⟨by show cells + 2 ≤ 601024; omega, by show slots + 6 * 2 ≤ 7293034; omega⟩ rfl (Nat.le_of_ble_eq_true rfl) dL_law__698 (mL_section l hfl hx) ?_
    refine x_istore hE (L' := [(5, .int (eB k)), (0, .ref b), (1, .ref (σ 0)), (2, .ref (σ 127)), (3, .ref (σ 145)), (4, .int (nI j))]) dL_law__701 (by decide) rfl ?_
    refine x_aload_n hE 3 dL_law__703 rfl rfl ?_
    refine x_arg hE hX hb hj hn 1 (by decide) (by decide) 1 5 dL_law__704 dL_law__705 dL_law__707 dL_law__708 dL_law__709 rfl rfl ?_
    refine x_arg hE hX hb hj hn 2 (by decide) (by decide) 1 5 dL_law__710 dL_law__711 dL_law__713 dL_law__714 dL_law__715 rfl rfl ?_
    refine x_callV1 hE [.int (xs (j + 1)), .int (xs (j + 2))] (rest := []) (v := .int b1) (c1 := R1) (d1 := N) rfl yokX12_section yvX12_section lkw_181 rfl cl_12 (hE.kd kO_12) (by decide) rfl rfl ⟨Nat.le_of_ble_eq_true rfl, Nat.le_of_ble_eq_true rfl⟩ ⟨by show (cells + 2) ≤ 601024; omega, by show (slots + 6 * 2) ≤ 7293034; omega⟩ rfl (Nat.le_of_ble_eq_true rfl) dL_law__716 (mX12_section l hy) ?_
    refine x_istore hE (L' := [(6, .int b1), (5, .int (eB k)), (0, .ref b), (1, .ref (σ 0)), (2, .ref (σ 127)), (3, .ref (σ 145)), (4, .int (nI j))]) dL_law__719 (by decide) rfl ?_
    refine x_aload_n hE 4 dL_law__721 rfl rfl ?_
    refine x_callV1 hE [] (rest := []) (v := .int (R1 127 0)) (c1 := R1) (d1 := N) rfl yokX12_thrown yvX12_thrown lkw_157 rfl cl_12 (hE.kd kO_12) (by decide) rfl rfl ⟨Nat.le_of_ble_eq_true rfl, Nat.le_of_ble_eq_true rfl⟩ ⟨by show (cells + 2) ≤ 601024; omega, by show (slots + 6 * 2) ≤ 7293034; omega⟩ rfl (Nat.le_of_ble_eq_true rfl) dL_law__722 (mX12_thrown l rfl) ?_
    refine x_iload hE 1 dL_law__725 rfl ?_
    refine x_icmp_eq hE 732 dL_law__727 (by decide) (A := some ()) (B := none) (r := ()) (if_pos ht) (fun _ => ?_) (fun h => by cases h)
    refine x_iload hE 1 dL_law__732 rfl ?_
    refine x_if_ne hE 749 dL_law__734 (by decide) (A := some ()) (B := none) (r := ()) (if_neg he) (fun _ => ?_) (fun h => by cases h)
    refine x_goto hE 3277 dL_law__749 (by decide) ?_
    refine x_pick [2, 3, 4, 5, 6] (L' := Lb σ b j) rfl ?_
    exact hK σ np (cells + 2) (slots + 6 * 2) R1 N hE hg (by omega) (by omega)
  · refine x_aload_n hE 1 dL_law__684 rfl rfl ?_
    refine x_arg hE hX hb hj hn 1 (by decide) (by decide) 0 4 dL_law__685 dL_law__686 dL_law__688 dL_law__689 dL_law__690 rfl rfl ?_
    refine x_arg hE hX hb hj hn 2 (by decide) (by decide) 0 4 dL_law__691 dL_law__692 dL_law__694 dL_law__695 dL_law__696 rfl rfl ?_
    refine x_aload_n hE 3 dL_law__697 rfl rfl ?_
    refine x_callSW hE [.ref (σ 0), .int (xs (j + 1)), .int (xs (j + 2)), .ref (σ 145)] (rest := []) (v := some (.int 0)) (c1 := M) (d1 := (wrd N 145 0 b1.toInt64)) rfl yowL_section ysL_section lkw_179 ⟨Nat.le_of_ble_eq_true rfl, Nat.le_of_ble_eq_true rfl⟩ ⟨by show cells + 2 ≤ 601024; omega, by show slots + 6 * 2 ≤ 7293034; omega⟩ rfl (Nat.le_of_ble_eq_true rfl) dL_law__698 (mL_section l hfl hx) ?_
    refine x_istore hE (L' := [(5, .int 0), (0, .ref b), (1, .ref (σ 0)), (2, .ref (σ 127)), (3, .ref (σ 145)), (4, .int (nI j))]) dL_law__701 (by decide) rfl ?_
    refine x_aload_n hE 3 dL_law__703 rfl rfl ?_
    refine x_arg hE hX hb hj hn 1 (by decide) (by decide) 1 5 dL_law__704 dL_law__705 dL_law__707 dL_law__708 dL_law__709 rfl rfl ?_
    refine x_arg hE hX hb hj hn 2 (by decide) (by decide) 1 5 dL_law__710 dL_law__711 dL_law__713 dL_law__714 dL_law__715 rfl rfl ?_
    refine x_callV1 hE [.int (xs (j + 1)), .int (xs (j + 2))] (rest := []) (v := .int b1) (c1 := R1) (d1 := (wrd N 145 0 b1.toInt64)) rfl yokX12_section yvX12_section lkw_181 rfl cl_12 (hE.kd kO_12) (by decide) rfl rfl ⟨Nat.le_of_ble_eq_true rfl, Nat.le_of_ble_eq_true rfl⟩ ⟨by show (cells + 2) ≤ 601024; omega, by show (slots + 6 * 2) ≤ 7293034; omega⟩ rfl (Nat.le_of_ble_eq_true rfl) dL_law__716 (mX12_section l hy) ?_
    refine x_istore hE (L' := [(6, .int b1), (5, .int 0), (0, .ref b), (1, .ref (σ 0)), (2, .ref (σ 127)), (3, .ref (σ 145)), (4, .int (nI j))]) dL_law__719 (by decide) rfl ?_
    refine x_aload_n hE 4 dL_law__721 rfl rfl ?_
    refine x_callV1 hE [] (rest := []) (v := .int (R1 127 0)) (c1 := R1) (d1 := (wrd N 145 0 b1.toInt64)) rfl yokX12_thrown yvX12_thrown lkw_157 rfl cl_12 (hE.kd kO_12) (by decide) rfl rfl ⟨Nat.le_of_ble_eq_true rfl, Nat.le_of_ble_eq_true rfl⟩ ⟨by show (cells + 2) ≤ 601024; omega, by show (slots + 6 * 2) ≤ 7293034; omega⟩ rfl (Nat.le_of_ble_eq_true rfl) dL_law__722 (mX12_thrown l rfl) ?_
    refine x_iload hE 1 dL_law__725 rfl ?_
    refine x_icmp_eq hE 732 dL_law__727 (by decide) (A := some ()) (B := none) (r := ()) (if_pos ht) (fun _ => ?_) (fun h => by cases h)
    refine x_iload hE 1 dL_law__732 rfl ?_
    refine x_if_ne hE 749 dL_law__734 (by decide) (A := none) (B := some ()) (r := ()) (if_pos rfl) (fun h => by cases h) (fun _ => ?_)
    refine x_aload_n hE 5 dL_law__737 rfl rfl ?_
    refine x_iconst hE 0 dL_law__738 (by decide) ?_
    refine x_lald hE (hE.kd kA_145) dL_law__739 (B := some ()) (r := ()) (by decide) (fun _ => ?_)
    refine x_iload hE 0 dL_law__740 rfl ?_
    refine x_i2l hE dL_law__742 ?_
    refine x_lcmp hE dL_law__743 ?_
    refine x_if_eq hE 749 dL_law__744 (by decide) (A := some ()) (B := none) (r := ()) (if_pos cmp_out) (fun _ => ?_) (fun h => by cases h)
    refine x_goto hE 3277 dL_law__749 (by decide) ?_
    refine x_pick [2, 3, 4, 5, 6] (L' := Lb σ b j) rfl ?_
    exact hK σ np (cells + 2) (slots + 6 * 2) R1 (wrd N 145 0 b1.toInt64) hE (gi_w hg) (by omega) (by omega)
theorem wL_c7 {p : Program} {l : Launch} {e : Env} {s : State} {m : MethodId} {args : Array Value} {below : List Frame} {meth : Method} {c : Code} {Y : Nat → ClassId} {D : va_G} {σ : Nat → Nat} {np b0 cells slots : Nat} {Q : State → Prop} {M : Mc} {N : Md} {b nX j : Nat} {xs : Nat → Int32} (hfl : l.stackTraces = false) (hE : EOK p s m args meth c cL_law_ 7 "SettlerColonyLaw" Y D σ np b0) (hX : va_X b nX xs s s.heap) (hb : b < b0) (hj : j + 6 ≤ nX) (hn : nX ≤ 3072) (hG : GI np M N) (hc : cells ≤ 600000) (hs : slots ≤ 7000000) (hK : LK p l e s m args below meth c Y D b0 cells slots Q b j) : Xw p l e room_1 s m args below meth c 7 Y D σ np b0 cells slots Q 752 (Lb σ b j) [] M N := by
  unfold Lb
  obtain ⟨x1, hx, hq⟩ := st_R (e := eB) (y := fun R => fX12_is R (xs (j + 1)) (xs (j + 2))) hG (fun n t m h => c_is h (xs (j + 1)) (xs (j + 2)))
  rcases hq with ⟨k, b1, R1, rfl, he, hy, ht, hg⟩ | ⟨b1, R1, rfl, hy, ht, hg⟩
  · refine x_aload_n hE 1 dL_law__752 rfl rfl ?_
    refine x_arg hE hX hb hj hn 1 (by decide) (by decide) 0 4 dL_law__753 dL_law__754 dL_law__756 dL_law__757 dL_law__758 rfl rfl ?_
    refine x_arg hE hX hb hj hn 2 (by decide) (by decide) 0 4 dL_law__759 dL_law__760 dL_law__762 dL_law__763 dL_law__764 rfl rfl ?_
    refine x_aload_n hE 3 dL_law__765 rfl rfl ?_
    refine x_callSW hE [.ref (σ 0), .int (xs (j + 1)), .int (xs (j + 2)), .ref (σ 145)] (rest := []) (v := some (.int (eB k))) (c1 := M) (d1 := N) rfl yowL_is ysL_is lkw_182 ⟨Nat.le_of_ble_eq_true rfl, Nat.le_of_ble_eq_true rfl⟩ ⟨by show cells + 2 ≤ 601024; omega, by show slots + 6 * 2 ≤ 7293034; omega⟩ rfl (Nat.le_of_ble_eq_true rfl) dL_law__766 (mL_is l hfl hx) ?_
    refine x_istore hE (L' := [(5, .int (eB k)), (0, .ref b), (1, .ref (σ 0)), (2, .ref (σ 127)), (3, .ref (σ 145)), (4, .int (nI j))]) dL_law__769 (by decide) rfl ?_
    refine x_aload_n hE 3 dL_law__771 rfl rfl ?_
    refine x_arg hE hX hb hj hn 1 (by decide) (by decide) 1 5 dL_law__772 dL_law__773 dL_law__775 dL_law__776 dL_law__777 rfl rfl ?_
    refine x_arg hE hX hb hj hn 2 (by decide) (by decide) 1 5 dL_law__778 dL_law__779 dL_law__781 dL_law__782 dL_law__783 rfl rfl ?_
    refine x_callV1 hE [.int (xs (j + 1)), .int (xs (j + 2))] (rest := []) (v := .int b1) (c1 := R1) (d1 := N) rfl yokX12_is yvX12_is lkw_184 rfl cl_12 (hE.kd kO_12) (by decide) rfl rfl ⟨Nat.le_of_ble_eq_true rfl, Nat.le_of_ble_eq_true rfl⟩ ⟨by show (cells + 2) ≤ 601024; omega, by show (slots + 6 * 2) ≤ 7293034; omega⟩ rfl (Nat.le_of_ble_eq_true rfl) dL_law__784 (mX12_is l hy) ?_
    refine x_istore hE (L' := [(6, .int b1), (5, .int (eB k)), (0, .ref b), (1, .ref (σ 0)), (2, .ref (σ 127)), (3, .ref (σ 145)), (4, .int (nI j))]) dL_law__787 (by decide) rfl ?_
    refine x_aload_n hE 4 dL_law__789 rfl rfl ?_
    refine x_callV1 hE [] (rest := []) (v := .int (R1 127 0)) (c1 := R1) (d1 := N) rfl yokX12_thrown yvX12_thrown lkw_157 rfl cl_12 (hE.kd kO_12) (by decide) rfl rfl ⟨Nat.le_of_ble_eq_true rfl, Nat.le_of_ble_eq_true rfl⟩ ⟨by show (cells + 2) ≤ 601024; omega, by show (slots + 6 * 2) ≤ 7293034; omega⟩ rfl (Nat.le_of_ble_eq_true rfl) dL_law__790 (mX12_thrown l rfl) ?_
    refine x_iload hE 1 dL_law__793 rfl ?_
    refine x_icmp_eq hE 800 dL_law__795 (by decide) (A := some ()) (B := none) (r := ()) (if_pos ht) (fun _ => ?_) (fun h => by cases h)
    refine x_iload hE 1 dL_law__800 rfl ?_
    refine x_if_ne hE 824 dL_law__802 (by decide) (A := some ()) (B := none) (r := ()) (if_neg he) (fun _ => ?_) (fun h => by cases h)
    refine x_goto hE 3277 dL_law__824 (by decide) ?_
    refine x_pick [2, 3, 4, 5, 6] (L' := Lb σ b j) rfl ?_
    exact hK σ np (cells + 2) (slots + 6 * 2) R1 N hE hg (by omega) (by omega)
  · rcases z_is b1 hx with rfl | rfl
    · refine x_aload_n hE 1 dL_law__752 rfl rfl ?_
      refine x_arg hE hX hb hj hn 1 (by decide) (by decide) 0 4 dL_law__753 dL_law__754 dL_law__756 dL_law__757 dL_law__758 rfl rfl ?_
      refine x_arg hE hX hb hj hn 2 (by decide) (by decide) 0 4 dL_law__759 dL_law__760 dL_law__762 dL_law__763 dL_law__764 rfl rfl ?_
      refine x_aload_n hE 3 dL_law__765 rfl rfl ?_
      refine x_callSW hE [.ref (σ 0), .int (xs (j + 1)), .int (xs (j + 2)), .ref (σ 145)] (rest := []) (v := some (.int 0)) (c1 := M) (d1 := (wrd N 145 0 (0 : Int32).toInt64)) rfl yowL_is ysL_is lkw_182 ⟨Nat.le_of_ble_eq_true rfl, Nat.le_of_ble_eq_true rfl⟩ ⟨by show cells + 2 ≤ 601024; omega, by show slots + 6 * 2 ≤ 7293034; omega⟩ rfl (Nat.le_of_ble_eq_true rfl) dL_law__766 (mL_is l hfl hx) ?_
      refine x_istore hE (L' := [(5, .int 0), (0, .ref b), (1, .ref (σ 0)), (2, .ref (σ 127)), (3, .ref (σ 145)), (4, .int (nI j))]) dL_law__769 (by decide) rfl ?_
      refine x_aload_n hE 3 dL_law__771 rfl rfl ?_
      refine x_arg hE hX hb hj hn 1 (by decide) (by decide) 1 5 dL_law__772 dL_law__773 dL_law__775 dL_law__776 dL_law__777 rfl rfl ?_
      refine x_arg hE hX hb hj hn 2 (by decide) (by decide) 1 5 dL_law__778 dL_law__779 dL_law__781 dL_law__782 dL_law__783 rfl rfl ?_
      refine x_callV1 hE [.int (xs (j + 1)), .int (xs (j + 2))] (rest := []) (v := .int 0) (c1 := R1) (d1 := (wrd N 145 0 (0 : Int32).toInt64)) rfl yokX12_is yvX12_is lkw_184 rfl cl_12 (hE.kd kO_12) (by decide) rfl rfl ⟨Nat.le_of_ble_eq_true rfl, Nat.le_of_ble_eq_true rfl⟩ ⟨by show (cells + 2) ≤ 601024; omega, by show (slots + 6 * 2) ≤ 7293034; omega⟩ rfl (Nat.le_of_ble_eq_true rfl) dL_law__784 (mX12_is l hy) ?_
      refine x_istore hE (L' := [(6, .int 0), (5, .int 0), (0, .ref b), (1, .ref (σ 0)), (2, .ref (σ 127)), (3, .ref (σ 145)), (4, .int (nI j))]) dL_law__787 (by decide) rfl ?_
      refine x_aload_n hE 4 dL_law__789 rfl rfl ?_
      refine x_callV1 hE [] (rest := []) (v := .int (R1 127 0)) (c1 := R1) (d1 := (wrd N 145 0 (0 : Int32).toInt64)) rfl yokX12_thrown yvX12_thrown lkw_157 rfl cl_12 (hE.kd kO_12) (by decide) rfl rfl ⟨Nat.le_of_ble_eq_true rfl, Nat.le_of_ble_eq_true rfl⟩ ⟨by show (cells + 2) ≤ 601024; omega, by show (slots + 6 * 2) ≤ 7293034; omega⟩ rfl (Nat.le_of_ble_eq_true rfl) dL_law__790 (mX12_thrown l rfl) ?_
      refine x_iload hE 1 dL_law__793 rfl ?_
      refine x_icmp_eq hE 800 dL_law__795 (by decide) (A := some ()) (B := none) (r := ()) (if_pos ht) (fun _ => ?_) (fun h => by cases h)
      refine x_iload hE 1 dL_law__800 rfl ?_
      refine x_if_ne hE 824 dL_law__802 (by decide) (A := none) (B := some ()) (r := ()) (if_pos rfl) (fun h => by cases h) (fun _ => ?_)
      refine x_aload_n hE 5 dL_law__805 rfl rfl ?_
      refine x_iconst hE 0 dL_law__806 (by decide) ?_
      refine x_lald hE (hE.kd kA_145) dL_law__807 (B := some ()) (r := ()) (by decide) (fun _ => ?_)
      refine x_iload hE 0 dL_law__808 rfl ?_
      refine x_if_eq hE 817 dL_law__810 (by decide) (A := some ()) (B := none) (r := ()) (if_pos rfl) (fun _ => ?_) (fun h => by cases h)
      refine x_lconst hE (0 : Int32).toInt64 dL_law__817 (by decide) ?_
      refine x_lcmp hE dL_law__818 ?_
      refine x_if_eq hE 824 dL_law__819 (by decide) (A := some ()) (B := none) (r := ()) (if_pos cmp_out) (fun _ => ?_) (fun h => by cases h)
      refine x_goto hE 3277 dL_law__824 (by decide) ?_
      refine x_pick [2, 3, 4, 5, 6] (L' := Lb σ b j) rfl ?_
      exact hK σ np (cells + 2) (slots + 6 * 2) R1 (wrd N 145 0 (0 : Int32).toInt64) hE (gi_w hg) (by omega) (by omega)
    · refine x_aload_n hE 1 dL_law__752 rfl rfl ?_
      refine x_arg hE hX hb hj hn 1 (by decide) (by decide) 0 4 dL_law__753 dL_law__754 dL_law__756 dL_law__757 dL_law__758 rfl rfl ?_
      refine x_arg hE hX hb hj hn 2 (by decide) (by decide) 0 4 dL_law__759 dL_law__760 dL_law__762 dL_law__763 dL_law__764 rfl rfl ?_
      refine x_aload_n hE 3 dL_law__765 rfl rfl ?_
      refine x_callSW hE [.ref (σ 0), .int (xs (j + 1)), .int (xs (j + 2)), .ref (σ 145)] (rest := []) (v := some (.int 0)) (c1 := M) (d1 := (wrd N 145 0 (nI 1).toInt64)) rfl yowL_is ysL_is lkw_182 ⟨Nat.le_of_ble_eq_true rfl, Nat.le_of_ble_eq_true rfl⟩ ⟨by show cells + 2 ≤ 601024; omega, by show slots + 6 * 2 ≤ 7293034; omega⟩ rfl (Nat.le_of_ble_eq_true rfl) dL_law__766 (mL_is l hfl hx) ?_
      refine x_istore hE (L' := [(5, .int 0), (0, .ref b), (1, .ref (σ 0)), (2, .ref (σ 127)), (3, .ref (σ 145)), (4, .int (nI j))]) dL_law__769 (by decide) rfl ?_
      refine x_aload_n hE 3 dL_law__771 rfl rfl ?_
      refine x_arg hE hX hb hj hn 1 (by decide) (by decide) 1 5 dL_law__772 dL_law__773 dL_law__775 dL_law__776 dL_law__777 rfl rfl ?_
      refine x_arg hE hX hb hj hn 2 (by decide) (by decide) 1 5 dL_law__778 dL_law__779 dL_law__781 dL_law__782 dL_law__783 rfl rfl ?_
      refine x_callV1 hE [.int (xs (j + 1)), .int (xs (j + 2))] (rest := []) (v := .int (nI 1)) (c1 := R1) (d1 := (wrd N 145 0 (nI 1).toInt64)) rfl yokX12_is yvX12_is lkw_184 rfl cl_12 (hE.kd kO_12) (by decide) rfl rfl ⟨Nat.le_of_ble_eq_true rfl, Nat.le_of_ble_eq_true rfl⟩ ⟨by show (cells + 2) ≤ 601024; omega, by show (slots + 6 * 2) ≤ 7293034; omega⟩ rfl (Nat.le_of_ble_eq_true rfl) dL_law__784 (mX12_is l hy) ?_
      refine x_istore hE (L' := [(6, .int (nI 1)), (5, .int 0), (0, .ref b), (1, .ref (σ 0)), (2, .ref (σ 127)), (3, .ref (σ 145)), (4, .int (nI j))]) dL_law__787 (by decide) rfl ?_
      refine x_aload_n hE 4 dL_law__789 rfl rfl ?_
      refine x_callV1 hE [] (rest := []) (v := .int (R1 127 0)) (c1 := R1) (d1 := (wrd N 145 0 (nI 1).toInt64)) rfl yokX12_thrown yvX12_thrown lkw_157 rfl cl_12 (hE.kd kO_12) (by decide) rfl rfl ⟨Nat.le_of_ble_eq_true rfl, Nat.le_of_ble_eq_true rfl⟩ ⟨by show (cells + 2) ≤ 601024; omega, by show (slots + 6 * 2) ≤ 7293034; omega⟩ rfl (Nat.le_of_ble_eq_true rfl) dL_law__790 (mX12_thrown l rfl) ?_
      refine x_iload hE 1 dL_law__793 rfl ?_
      refine x_icmp_eq hE 800 dL_law__795 (by decide) (A := some ()) (B := none) (r := ()) (if_pos ht) (fun _ => ?_) (fun h => by cases h)
      refine x_iload hE 1 dL_law__800 rfl ?_
      refine x_if_ne hE 824 dL_law__802 (by decide) (A := none) (B := some ()) (r := ()) (if_pos rfl) (fun h => by cases h) (fun _ => ?_)
      refine x_aload_n hE 5 dL_law__805 rfl rfl ?_
      refine x_iconst hE 0 dL_law__806 (by decide) ?_
      refine x_lald hE (hE.kd kA_145) dL_law__807 (B := some ()) (r := ()) (by decide) (fun _ => ?_)
      refine x_iload hE 0 dL_law__808 rfl ?_
      refine x_if_eq hE 817 dL_law__810 (by decide) (A := none) (B := some ()) (r := ()) (if_neg (by decide)) (fun h => by cases h) (fun _ => ?_)
      refine x_lconst hE (nI 1).toInt64 dL_law__813 (by decide) ?_
      refine x_goto hE 818 dL_law__814 (by decide) ?_
      refine x_lcmp hE dL_law__818 ?_
      refine x_if_eq hE 824 dL_law__819 (by decide) (A := some ()) (B := none) (r := ()) (if_pos cmp_out) (fun _ => ?_) (fun h => by cases h)
      refine x_goto hE 3277 dL_law__824 (by decide) ?_
      refine x_pick [2, 3, 4, 5, 6] (L' := Lb σ b j) rfl ?_
      exact hK σ np (cells + 2) (slots + 6 * 2) R1 (wrd N 145 0 (nI 1).toInt64) hE (gi_w hg) (by omega) (by omega)
theorem wL_c8 {p : Program} {l : Launch} {e : Env} {s : State} {m : MethodId} {args : Array Value} {below : List Frame} {meth : Method} {c : Code} {Y : Nat → ClassId} {D : va_G} {σ : Nat → Nat} {np b0 cells slots : Nat} {Q : State → Prop} {M : Mc} {N : Md} {b nX j : Nat} {xs : Nat → Int32} (hfl : l.stackTraces = false) (hE : EOK p s m args meth c cL_law_ 7 "SettlerColonyLaw" Y D σ np b0) (hX : va_X b nX xs s s.heap) (hb : b < b0) (hj : j + 6 ≤ nX) (hn : nX ≤ 3072) (hG : GI np M N) (hc : cells ≤ 600000) (hs : slots ≤ 7000000) (hK : LK p l e s m args below meth c Y D b0 cells slots Q b j) : Xw p l e room_1 s m args below meth c 7 Y D σ np b0 cells slots Q 827 (Lb σ b j) [] M N := by
  unfold Lb
  obtain ⟨x1, hx, hq⟩ := st_M (e := eA) (y := fun R => fX12_people R (xs (j + 1)) (xs (j + 2)) (xs (j + 3))) hG (fun n t m R h _ => c_people h (xs (j + 1)) (xs (j + 2)) (xs (j + 3))) (hA_fX11_people ka_rf)
  rcases hq with ⟨k, b1, R1, rfl, he, hy, ht, hg⟩ | ⟨b1, C1, R1, rfl, hy, ht, hg⟩
  · refine x_aload_n hE 1 dL_law__827 rfl rfl ?_
    refine x_arg hE hX hb hj hn 1 (by decide) (by decide) 0 4 dL_law__828 dL_law__829 dL_law__831 dL_law__832 dL_law__833 rfl rfl ?_
    refine x_arg hE hX hb hj hn 2 (by decide) (by decide) 0 4 dL_law__834 dL_law__835 dL_law__837 dL_law__838 dL_law__839 rfl rfl ?_
    refine x_arg hE hX hb hj hn 3 (by decide) (by decide) 0 4 dL_law__840 dL_law__841 dL_law__843 dL_law__844 dL_law__845 rfl rfl ?_
    refine x_aload_n hE 3 dL_law__846 rfl rfl ?_
    refine x_callSW hE [.ref (σ 0), .int (xs (j + 1)), .int (xs (j + 2)), .int (xs (j + 3)), .ref (σ 145)] (rest := []) (v := some (.int (eA k))) (c1 := M) (d1 := N) rfl yowL_people ysL_people lkw_185 ⟨Nat.le_of_ble_eq_true rfl, Nat.le_of_ble_eq_true rfl⟩ ⟨by show cells + 1 ≤ 601024; omega, by show slots + 6 * 1 ≤ 7293034; omega⟩ rfl (Nat.le_of_ble_eq_true rfl) dL_law__847 (mL_people l hfl hx) ?_
    refine x_istore hE (L' := [(5, .int (eA k)), (0, .ref b), (1, .ref (σ 0)), (2, .ref (σ 127)), (3, .ref (σ 145)), (4, .int (nI j))]) dL_law__850 (by decide) rfl ?_
    refine x_aload_n hE 3 dL_law__852 rfl rfl ?_
    refine x_arg hE hX hb hj hn 1 (by decide) (by decide) 1 5 dL_law__853 dL_law__854 dL_law__856 dL_law__857 dL_law__858 rfl rfl ?_
    refine x_arg hE hX hb hj hn 2 (by decide) (by decide) 1 5 dL_law__859 dL_law__860 dL_law__862 dL_law__863 dL_law__864 rfl rfl ?_
    refine x_arg hE hX hb hj hn 3 (by decide) (by decide) 1 5 dL_law__865 dL_law__866 dL_law__868 dL_law__869 dL_law__870 rfl rfl ?_
    refine x_callV1 hE [.int (xs (j + 1)), .int (xs (j + 2)), .int (xs (j + 3))] (rest := []) (v := .int b1) (c1 := R1) (d1 := N) rfl yokX12_people yvX12_people lkw_187 rfl cl_12 (hE.kd kO_12) (by decide) rfl rfl ⟨Nat.le_of_ble_eq_true rfl, Nat.le_of_ble_eq_true rfl⟩ ⟨by show (cells + 1) ≤ 601024; omega, by show (slots + 6 * 1) ≤ 7293034; omega⟩ rfl (Nat.le_of_ble_eq_true rfl) dL_law__871 (mX12_people l hy) ?_
    refine x_istore hE (L' := [(6, .int b1), (5, .int (eA k)), (0, .ref b), (1, .ref (σ 0)), (2, .ref (σ 127)), (3, .ref (σ 145)), (4, .int (nI j))]) dL_law__874 (by decide) rfl ?_
    refine x_aload_n hE 4 dL_law__876 rfl rfl ?_
    refine x_callV1 hE [] (rest := []) (v := .int (R1 127 0)) (c1 := R1) (d1 := N) rfl yokX12_thrown yvX12_thrown lkw_157 rfl cl_12 (hE.kd kO_12) (by decide) rfl rfl ⟨Nat.le_of_ble_eq_true rfl, Nat.le_of_ble_eq_true rfl⟩ ⟨by show (cells + 1) ≤ 601024; omega, by show (slots + 6 * 1) ≤ 7293034; omega⟩ rfl (Nat.le_of_ble_eq_true rfl) dL_law__877 (mX12_thrown l rfl) ?_
    refine x_iload hE 1 dL_law__880 rfl ?_
    refine x_icmp_eq hE 887 dL_law__882 (by decide) (A := some ()) (B := none) (r := ()) (if_pos ht) (fun _ => ?_) (fun h => by cases h)
    refine x_iload hE 1 dL_law__887 rfl ?_
    refine x_if_ne hE 904 dL_law__889 (by decide) (A := some ()) (B := none) (r := ()) (if_neg he) (fun _ => ?_) (fun h => by cases h)
    refine x_goto hE 3277 dL_law__904 (by decide) ?_
    refine x_pick [2, 3, 4, 5, 6] (L' := Lb σ b j) rfl ?_
    exact hK σ np (cells + 1) (slots + 6 * 1) R1 N hE hg (by omega) (by omega)
  · refine x_aload_n hE 1 dL_law__827 rfl rfl ?_
    refine x_arg hE hX hb hj hn 1 (by decide) (by decide) 0 4 dL_law__828 dL_law__829 dL_law__831 dL_law__832 dL_law__833 rfl rfl ?_
    refine x_arg hE hX hb hj hn 2 (by decide) (by decide) 0 4 dL_law__834 dL_law__835 dL_law__837 dL_law__838 dL_law__839 rfl rfl ?_
    refine x_arg hE hX hb hj hn 3 (by decide) (by decide) 0 4 dL_law__840 dL_law__841 dL_law__843 dL_law__844 dL_law__845 rfl rfl ?_
    refine x_aload_n hE 3 dL_law__846 rfl rfl ?_
    refine x_callSW hE [.ref (σ 0), .int (xs (j + 1)), .int (xs (j + 2)), .int (xs (j + 3)), .ref (σ 145)] (rest := []) (v := some (.int 0)) (c1 := C1) (d1 := (wrd N 145 0 b1.toInt64)) rfl yowL_people ysL_people lkw_185 ⟨Nat.le_of_ble_eq_true rfl, Nat.le_of_ble_eq_true rfl⟩ ⟨by show cells + 1 ≤ 601024; omega, by show slots + 6 * 1 ≤ 7293034; omega⟩ rfl (Nat.le_of_ble_eq_true rfl) dL_law__847 (mL_people l hfl hx) ?_
    refine x_istore hE (L' := [(5, .int 0), (0, .ref b), (1, .ref (σ 0)), (2, .ref (σ 127)), (3, .ref (σ 145)), (4, .int (nI j))]) dL_law__850 (by decide) rfl ?_
    refine x_aload_n hE 3 dL_law__852 rfl rfl ?_
    refine x_arg hE hX hb hj hn 1 (by decide) (by decide) 1 5 dL_law__853 dL_law__854 dL_law__856 dL_law__857 dL_law__858 rfl rfl ?_
    refine x_arg hE hX hb hj hn 2 (by decide) (by decide) 1 5 dL_law__859 dL_law__860 dL_law__862 dL_law__863 dL_law__864 rfl rfl ?_
    refine x_arg hE hX hb hj hn 3 (by decide) (by decide) 1 5 dL_law__865 dL_law__866 dL_law__868 dL_law__869 dL_law__870 rfl rfl ?_
    refine x_callV1 hE [.int (xs (j + 1)), .int (xs (j + 2)), .int (xs (j + 3))] (rest := []) (v := .int b1) (c1 := R1) (d1 := (wrd N 145 0 b1.toInt64)) rfl yokX12_people yvX12_people lkw_187 rfl cl_12 (hE.kd kO_12) (by decide) rfl rfl ⟨Nat.le_of_ble_eq_true rfl, Nat.le_of_ble_eq_true rfl⟩ ⟨by show (cells + 1) ≤ 601024; omega, by show (slots + 6 * 1) ≤ 7293034; omega⟩ rfl (Nat.le_of_ble_eq_true rfl) dL_law__871 (mX12_people l hy) ?_
    refine x_istore hE (L' := [(6, .int b1), (5, .int 0), (0, .ref b), (1, .ref (σ 0)), (2, .ref (σ 127)), (3, .ref (σ 145)), (4, .int (nI j))]) dL_law__874 (by decide) rfl ?_
    refine x_aload_n hE 4 dL_law__876 rfl rfl ?_
    refine x_callV1 hE [] (rest := []) (v := .int (R1 127 0)) (c1 := R1) (d1 := (wrd N 145 0 b1.toInt64)) rfl yokX12_thrown yvX12_thrown lkw_157 rfl cl_12 (hE.kd kO_12) (by decide) rfl rfl ⟨Nat.le_of_ble_eq_true rfl, Nat.le_of_ble_eq_true rfl⟩ ⟨by show (cells + 1) ≤ 601024; omega, by show (slots + 6 * 1) ≤ 7293034; omega⟩ rfl (Nat.le_of_ble_eq_true rfl) dL_law__877 (mX12_thrown l rfl) ?_
    refine x_iload hE 1 dL_law__880 rfl ?_
    refine x_icmp_eq hE 887 dL_law__882 (by decide) (A := some ()) (B := none) (r := ()) (if_pos ht) (fun _ => ?_) (fun h => by cases h)
    refine x_iload hE 1 dL_law__887 rfl ?_
    refine x_if_ne hE 904 dL_law__889 (by decide) (A := none) (B := some ()) (r := ()) (if_pos rfl) (fun h => by cases h) (fun _ => ?_)
    refine x_aload_n hE 5 dL_law__892 rfl rfl ?_
    refine x_iconst hE 0 dL_law__893 (by decide) ?_
    refine x_lald hE (hE.kd kA_145) dL_law__894 (B := some ()) (r := ()) (by decide) (fun _ => ?_)
    refine x_iload hE 0 dL_law__895 rfl ?_
    refine x_i2l hE dL_law__897 ?_
    refine x_lcmp hE dL_law__898 ?_
    refine x_if_eq hE 904 dL_law__899 (by decide) (A := some ()) (B := none) (r := ()) (if_pos cmp_out) (fun _ => ?_) (fun h => by cases h)
    refine x_goto hE 3277 dL_law__904 (by decide) ?_
    refine x_pick [2, 3, 4, 5, 6] (L' := Lb σ b j) rfl ?_
    exact hK σ np (cells + 1) (slots + 6 * 1) R1 (wrd N 145 0 b1.toInt64) hE (gi_w hg) (by omega) (by omega)
