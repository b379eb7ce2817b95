theorem wL_c36 {p : Program} {l : Launch} {e : Env} {s : State} {m : MethodId} {args : Array Value} {below : List Frame} {meth : Method} {c : Code} {Y : Nat → ClassId} {D : va_G} {σ : Nat → Nat} {np b0 cells slots : Nat} {Q : State → Prop} {M : Mc} {N : Md} {b nX j : Nat} {xs : Nat → Int32} (hfl : l.stackTraces = false) (hE : EOK p s m args meth c cL_law_ 7 "SettlerColonyLaw" Y D σ np b0) (hX : va_X b nX xs s s.heap) (hb : b < b0) (hj : j + 6 ≤ nX) (hn : nX ≤ 3072) (hG : GI np M N) (hc : cells ≤ 600000) (hs : slots ≤ 7000000) (hK : LK p l e s m args below meth c Y D b0 cells slots Q b j) : Xw p l e room_1 s m args below meth c 7 Y D σ np b0 cells slots Q 2512 (Lb σ b j) [] M N := by
  unfold Lb
  obtain ⟨x1, hx, hq⟩ := st_M (e := eA) (y := fun R => fX12_fund R (xs (j + 1))) hG (fun n t m R h _ => c_fund h (xs (j + 1))) (hA_fX11_fund ka_rf)
  rcases hq with ⟨k, b1, R1, rfl, he, hy, ht, hg⟩ | ⟨b1, C1, R1, rfl, hy, ht, hg⟩
  · refine x_aload_n hE 1 dL_law__2512 rfl rfl ?_
    refine x_arg hE hX hb hj hn 1 (by decide) (by decide) 0 4 dL_law__2513 dL_law__2514 dL_law__2516 dL_law__2517 dL_law__2518 rfl rfl ?_
    refine x_aload_n hE 3 dL_law__2519 rfl rfl ?_
    refine x_callSW hE [.ref (σ 0), .int (xs (j + 1)), .ref (σ 145)] (rest := []) (v := some (.int (eA k))) (c1 := M) (d1 := N) rfl yowL_fund ysL_fund lkw_276 ⟨Nat.le_of_ble_eq_true rfl, Nat.le_of_ble_eq_true rfl⟩ ⟨by show cells + 1 ≤ 601024; omega, by show slots + 6 * 1 ≤ 7293034; omega⟩ rfl (Nat.le_of_ble_eq_true rfl) dL_law__2520 (mL_fund l hfl hx) ?_
    refine x_istore hE (L' := [(5, .int (eA k)), (0, .ref b), (1, .ref (σ 0)), (2, .ref (σ 127)), (3, .ref (σ 145)), (4, .int (nI j))]) dL_law__2523 (by decide) rfl ?_
    refine x_aload_n hE 3 dL_law__2525 rfl rfl ?_
    refine x_arg hE hX hb hj hn 1 (by decide) (by decide) 1 5 dL_law__2526 dL_law__2527 dL_law__2529 dL_law__2530 dL_law__2531 rfl rfl ?_
    refine x_callV1 hE [.int (xs (j + 1))] (rest := []) (v := .int b1) (c1 := R1) (d1 := N) rfl yokX12_fund yvX12_fund lkw_278 rfl cl_12 (hE.kd kO_12) (by decide) rfl rfl ⟨Nat.le_of_ble_eq_true rfl, Nat.le_of_ble_eq_true rfl⟩ ⟨by show (cells + 1) ≤ 601024; omega, by show (slots + 6 * 1) ≤ 7293034; omega⟩ rfl (Nat.le_of_ble_eq_true rfl) dL_law__2532 (mX12_fund l hy) ?_
    refine x_istore hE (L' := [(6, .int b1), (5, .int (eA k)), (0, .ref b), (1, .ref (σ 0)), (2, .ref (σ 127)), (3, .ref (σ 145)), (4, .int (nI j))]) dL_law__2535 (by decide) rfl ?_
    refine x_aload_n hE 4 dL_law__2537 rfl rfl ?_
    refine x_callV1 hE [] (rest := []) (v := .int (R1 127 0)) (c1 := R1) (d1 := N) rfl yokX12_thrown yvX12_thrown lkw_157 rfl cl_12 (hE.kd kO_12) (by decide) rfl rfl ⟨Nat.le_of_ble_eq_true rfl, Nat.le_of_ble_eq_true rfl⟩ ⟨by show (cells + 1) ≤ 601024; omega, by show (slots + 6 * 1) ≤ 7293034; omega⟩ rfl (Nat.le_of_ble_eq_true rfl) dL_law__2538 (mX12_thrown l rfl) ?_
    refine x_iload hE 1 dL_law__2541 rfl ?_
    refine x_icmp_eq hE 2548 dL_law__2543 (by decide) (A := some ()) (B := none) (r := ()) (if_pos ht) (fun _ => ?_) (fun h => by cases h)
    refine x_iload hE 1 dL_law__2548 rfl ?_
    refine x_if_ne hE 2565 dL_law__2550 (by decide) (A := some ()) (B := none) (r := ()) (if_neg he) (fun _ => ?_) (fun h => by cases h)
    refine x_goto hE 3277 dL_law__2565 (by decide) ?_
    refine x_pick [2, 3, 4, 5, 6] (L' := Lb σ b j) rfl ?_
    exact hK σ np (cells + 1) (slots + 6 * 1) R1 N hE hg (by omega) (by omega)
  · refine x_aload_n hE 1 dL_law__2512 rfl rfl ?_
    refine x_arg hE hX hb hj hn 1 (by decide) (by decide) 0 4 dL_law__2513 dL_law__2514 dL_law__2516 dL_law__2517 dL_law__2518 rfl rfl ?_
    refine x_aload_n hE 3 dL_law__2519 rfl rfl ?_
    refine x_callSW hE [.ref (σ 0), .int (xs (j + 1)), .ref (σ 145)] (rest := []) (v := some (.int 0)) (c1 := C1) (d1 := (wrd N 145 0 b1.toInt64)) rfl yowL_fund ysL_fund lkw_276 ⟨Nat.le_of_ble_eq_true rfl, Nat.le_of_ble_eq_true rfl⟩ ⟨by show cells + 1 ≤ 601024; omega, by show slots + 6 * 1 ≤ 7293034; omega⟩ rfl (Nat.le_of_ble_eq_true rfl) dL_law__2520 (mL_fund l hfl hx) ?_
    refine x_istore hE (L' := [(5, .int 0), (0, .ref b), (1, .ref (σ 0)), (2, .ref (σ 127)), (3, .ref (σ 145)), (4, .int (nI j))]) dL_law__2523 (by decide) rfl ?_
    refine x_aload_n hE 3 dL_law__2525 rfl rfl ?_
    refine x_arg hE hX hb hj hn 1 (by decide) (by decide) 1 5 dL_law__2526 dL_law__2527 dL_law__2529 dL_law__2530 dL_law__2531 rfl rfl ?_
    refine x_callV1 hE [.int (xs (j + 1))] (rest := []) (v := .int b1) (c1 := R1) (d1 := (wrd N 145 0 b1.toInt64)) rfl yokX12_fund yvX12_fund lkw_278 rfl cl_12 (hE.kd kO_12) (by decide) rfl rfl ⟨Nat.le_of_ble_eq_true rfl, Nat.le_of_ble_eq_true rfl⟩ ⟨by show (cells + 1) ≤ 601024; omega, by show (slots + 6 * 1) ≤ 7293034; omega⟩ rfl (Nat.le_of_ble_eq_true rfl) dL_law__2532 (mX12_fund l hy) ?_
    refine x_istore hE (L' := [(6, .int b1), (5, .int 0), (0, .ref b), (1, .ref (σ 0)), (2, .ref (σ 127)), (3, .ref (σ 145)), (4, .int (nI j))]) dL_law__2535 (by decide) rfl ?_
    refine x_aload_n hE 4 dL_law__2537 rfl rfl ?_
    refine x_callV1 hE [] (rest := []) (v := .int (R1 127 0)) (c1 := R1) (d1 := (wrd N 145 0 b1.toInt64)) rfl yokX12_thrown yvX12_thrown lkw_157 rfl cl_12 (hE.kd kO_12) (by decide) rfl rfl ⟨Nat.le_of_ble_eq_true rfl, Nat.le_of_ble_eq_true rfl⟩ ⟨by show (cells + 1) ≤ 601024; omega, by show (slots + 6 * 1) ≤ 7293034; omega⟩ rfl (Nat.le_of_ble_eq_true rfl) dL_law__2538 (mX12_thrown l rfl) ?_
    refine x_iload hE 1 dL_law__2541 rfl ?_
    refine x_icmp_eq hE 2548 dL_law__2543 (by decide) (A := some ()) (B := none) (r := ()) (if_pos ht) (fun _ => ?_) (fun h => by cases h)
    refine x_iload hE 1 dL_law__2548 rfl ?_
    refine x_if_ne hE 2565 dL_law__2550 (by decide) (A := none) (B := some ()) (r := ()) (if_pos rfl) (fun h => by cases h) (fun _ => ?_)
    refine x_aload_n hE 5 dL_law__2553 rfl rfl ?_
    refine x_iconst hE 0 dL_law__2554 (by decide) ?_
    refine x_lald hE (hE.kd kA_145) dL_law__2555 (B := some ()) (r := ()) (by decide) (fun _ => ?_)
    refine x_iload hE 0 dL_law__2556 rfl ?_
    refine x_i2l hE dL_law__2558 ?_
    refine x_lcmp hE dL_law__2559 ?_
    refine x_if_eq hE 2565 dL_law__2560 (by decide) (A := some ()) (B := none) (r := ()) (if_pos cmp_out) (fun _ => ?_) (fun h => by cases h)
    refine x_goto hE 3277 dL_law__2565 (by decide) ?_
    refine x_pick [2, 3, 4, 5, 6] (L' := Lb σ b j) rfl ?_
    exact hK σ np (cells + 1) (slots + 6 * 1) R1 (wrd N 145 0 b1.toInt64) hE (gi_w hg) (by omega) (by omega)
theorem wL_c37 {p : Program} {l : Launch} {e : Env} {s : State} {m : MethodId} {args : Array Value} {below : List Frame} {meth : Method} {c : Code} {Y : Nat → ClassId} {D : va_G} {σ : Nat → Nat} {np b0 cells slots : Nat} {Q : State → Prop} {M : Mc} {N : Md} {b nX j : Nat} {xs : Nat → Int32} (hfl : l.stackTraces = false) (hE : EOK p s m args meth c cL_law_ 7 "SettlerColonyLaw" Y D σ np b0) (hX : va_X b nX xs s s.heap) (hb : b < b0) (hj : j + 6 ≤ nX) (hn : nX ≤ 3072) (hG : GI np M N) (hc : cells ≤ 600000) (hs : slots ≤ 7000000) (hK : LK p l e s m args below meth c Y D b0 cells slots Q b j) : Xw p l e room_1 s m args below meth c 7 Y D σ np b0 cells slots Q 2568 (Lb σ b j) [] M N := by
  unfold Lb
  obtain ⟨x1, hx, hq⟩ := st_M (e := eA) (y := fun R => fX12_bill R (xs (j + 1))) hG (fun n t m R h _ => c_bill h (xs (j + 1))) (hA_fX11_bill ka_rf)
  rcases hq with ⟨k, b1, R1, rfl, he, hy, ht, hg⟩ | ⟨b1, C1, R1, rfl, hy, ht, hg⟩
  · refine x_aload_n hE 1 dL_law__2568 rfl rfl ?_
    refine x_arg hE hX hb hj hn 1 (by decide) (by decide) 0 4 dL_law__2569 dL_law__2570 dL_law__2572 dL_law__2573 dL_law__2574 rfl rfl ?_
    refine x_aload_n hE 3 dL_law__2575 rfl rfl ?_
    refine x_callSW hE [.ref (σ 0), .int (xs (j + 1)), .ref (σ 145)] (rest := []) (v := some (.int (eA k))) (c1 := M) (d1 := N) rfl yowL_bill ysL_bill lkw_279 ⟨Nat.le_of_ble_eq_true rfl, Nat.le_of_ble_eq_true rfl⟩ ⟨by show cells + 1 ≤ 601024; omega, by show slots + 6 * 1 ≤ 7293034; omega⟩ rfl (Nat.le_of_ble_eq_true rfl) dL_law__2576 (mL_bill l hfl hx) ?_
    refine x_istore hE (L' := [(5, .int (eA k)), (0, .ref b), (1, .ref (σ 0)), (2, .ref (σ 127)), (3, .ref (σ 145)), (4, .int (nI j))]) dL_law__2579 (by decide) rfl ?_
    refine x_aload_n hE 3 dL_law__2581 rfl rfl ?_
    refine x_arg hE hX hb hj hn 1 (by decide) (by decide) 1 5 dL_law__2582 dL_law__2583 dL_law__2585 dL_law__2586 dL_law__2587 rfl rfl ?_
    refine x_callV1 hE [.int (xs (j + 1))] (rest := []) (v := .int b1) (c1 := R1) (d1 := N) rfl yokX12_bill yvX12_bill lkw_281 rfl cl_12 (hE.kd kO_12) (by decide) rfl rfl ⟨Nat.le_of_ble_eq_true rfl, Nat.le_of_ble_eq_true rfl⟩ ⟨by show (cells + 1) ≤ 601024; omega, by show (slots + 6 * 1) ≤ 7293034; omega⟩ rfl (Nat.le_of_ble_eq_true rfl) dL_law__2588 (mX12_bill l hy) ?_
    refine x_istore hE (L' := [(6, .int b1), (5, .int (eA k)), (0, .ref b), (1, .ref (σ 0)), (2, .ref (σ 127)), (3, .ref (σ 145)), (4, .int (nI j))]) dL_law__2591 (by decide) rfl ?_
    refine x_aload_n hE 4 dL_law__2593 rfl rfl ?_
    refine x_callV1 hE [] (rest := []) (v := .int (R1 127 0)) (c1 := R1) (d1 := N) rfl yokX12_thrown yvX12_thrown lkw_157 rfl cl_12 (hE.kd kO_12) (by decide) rfl rfl ⟨Nat.le_of_ble_eq_true rfl, Nat.le_of_ble_eq_true rfl⟩ ⟨by show (cells + 1) ≤ 601024; omega, by show (slots + 6 * 1) ≤ 7293034; omega⟩ rfl (Nat.le_of_ble_eq_true rfl) dL_law__2594 (mX12_thrown l rfl) ?_
    refine x_iload hE 1 dL_law__2597 rfl ?_
    refine x_icmp_eq hE 2604 dL_law__2599 (by decide) (A := some ()) (B := none) (r := ()) (if_pos ht) (fun _ => ?_) (fun h => by cases h)
    refine x_iload hE 1 dL_law__2604 rfl ?_
    refine x_if_ne hE 2621 dL_law__2606 (by decide) (A := some ()) (B := none) (r := ()) (if_neg he) (fun _ => ?_) (fun h => by cases h)
    refine x_goto hE 3277 dL_law__2621 (by decide) ?_
    refine x_pick [2, 3, 4, 5, 6] (L' := Lb σ b j) rfl ?_
    exact hK σ np (cells + 1) (slots + 6 * 1) R1 N hE hg (by omega) (by omega)
  · refine x_aload_n hE 1 dL_law__2568 rfl rfl ?_
    refine x_arg hE hX hb hj hn 1 (by decide) (by decide) 0 4 dL_law__2569 dL_law__2570 dL_law__2572 dL_law__2573 dL_law__2574 rfl rfl ?_
    refine x_aload_n hE 3 dL_law__2575 rfl rfl ?_
    refine x_callSW hE [.ref (σ 0), .int (xs (j + 1)), .ref (σ 145)] (rest := []) (v := some (.int 0)) (c1 := C1) (d1 := (wrd N 145 0 b1.toInt64)) rfl yowL_bill ysL_bill lkw_279 ⟨Nat.le_of_ble_eq_true rfl, Nat.le_of_ble_eq_true rfl⟩ ⟨by show cells + 1 ≤ 601024; omega, by show slots + 6 * 1 ≤ 7293034; omega⟩ rfl (Nat.le_of_ble_eq_true rfl) dL_law__2576 (mL_bill l hfl hx) ?_
    refine x_istore hE (L' := [(5, .int 0), (0, .ref b), (1, .ref (σ 0)), (2, .ref (σ 127)), (3, .ref (σ 145)), (4, .int (nI j))]) dL_law__2579 (by decide) rfl ?_
    refine x_aload_n hE 3 dL_law__2581 rfl rfl ?_
    refine x_arg hE hX hb hj hn 1 (by decide) (by decide) 1 5 dL_law__2582 dL_law__2583 dL_law__2585 dL_law__2586 dL_law__2587 rfl rfl ?_
    refine x_callV1 hE [.int (xs (j + 1))] (rest := []) (v := .int b1) (c1 := R1) (d1 := (wrd N 145 0 b1.toInt64)) rfl yokX12_bill yvX12_bill lkw_281 rfl cl_12 (hE.kd kO_12) (by decide) rfl rfl ⟨Nat.le_of_ble_eq_true rfl, Nat.le_of_ble_eq_true rfl⟩ ⟨by show (cells + 1) ≤ 601024; omega, by show (slots + 6 * 1) ≤ 7293034; omega⟩ rfl (Nat.le_of_ble_eq_true rfl) dL_law__2588 (mX12_bill l hy) ?_
    refine x_istore hE (L' := [(6, .int b1), (5, .int 0), (0, .ref b), (1, .ref (σ 0)), (2, .ref (σ 127)), (3, .ref (σ 145)), (4, .int (nI j))]) dL_law__2591 (by decide) rfl ?_
    refine x_aload_n hE 4 dL_law__2593 rfl rfl ?_
    refine x_callV1 hE [] (rest := []) (v := .int (R1 127 0)) (c1 := R1) (d1 := (wrd N 145 0 b1.toInt64)) rfl yokX12_thrown yvX12_thrown lkw_157 rfl cl_12 (hE.kd kO_12) (by decide) rfl rfl ⟨Nat.le_of_ble_eq_true rfl, Nat.le_of_ble_eq_true rfl⟩ ⟨by show (cells + 1) ≤ 601024; omega, by show (slots + 6 * 1) ≤ 7293034; omega⟩ rfl (Nat.le_of_ble_eq_true rfl) dL_law__2594 (mX12_thrown l rfl) ?_
    refine x_iload hE 1 dL_law__2597 rfl ?_
    refine x_icmp_eq hE 2604 dL_law__2599 (by decide) (A := some ()) (B := none) (r := ()) (if_pos ht) (fun _ => ?_) (fun h => by cases h)
    refine x_iload hE 1 dL_law__2604 rfl ?_
    refine x_if_ne hE 2621 dL_law__2606 (by decide) (A := none) (B := some ()) (r := ()) (if_pos rfl) (fun h => by cases h) (fun _ => ?_)
    refine x_aload_n hE 5 dL_law__2609 rfl rfl ?_
    refine x_iconst hE 0 dL_law__2610 (by decide) ?_
    refine x_lald hE (hE.kd kA_145) dL_law__2611 (B := some ()) (r := ()) (by decide) (fun _ => ?_)
    refine x_iload hE 0 dL_law__2612 rfl ?_
    refine x_i2l hE dL_law__2614 ?_
    refine x_lcmp hE dL_law__2615 ?_
    refine x_if_eq hE 2621 dL_law__2616 (by decide) (A := some ()) (B := none) (r := ()) (if_pos cmp_out) (fun _ => ?_) (fun h => by cases h)
    refine x_goto hE 3277 dL_law__2621 (by decide) ?_
    refine x_pick [2, 3, 4, 5, 6] (L' := Lb σ b j) rfl ?_
    exact hK σ np (cells + 1) (slots + 6 * 1) R1 (wrd N 145 0 b1.toInt64) hE (gi_w hg) (by omega) (by omega)
theorem wL_c38 {p : Program} {l : Launch} {e : Env} {s : State} {m : MethodId} {args : Array Value} {below : List Frame} {meth : Method} {c : Code} {Y : Nat → ClassId} {D : va_G} {σ : Nat → Nat} {np b0 cells slots : Nat} {Q : State → Prop} {M : Mc} {N : Md} {b nX j : Nat} {xs : Nat → Int32} (hfl : l.stackTraces = false) (hE : EOK p s m args meth c cL_law_ 7 "SettlerColonyLaw" Y D σ np b0) (hX : va_X b nX xs s s.heap) (hb : b < b0) (hj : j + 6 ≤ nX) (hn : nX ≤ 3072) (hG : GI np M N) (hc : cells ≤ 600000) (hs : slots ≤ 7000000) (hK : LK p l e s m args below meth c Y D b0 cells slots Q b j) : Xw p l e room_1 s m args below meth c 7 Y D σ np b0 cells slots Q 2624 (Lb σ b j) [] M N := by
  unfold Lb
  obtain ⟨x1, hx, hq⟩ := st_M (e := eB) (y := fun R => fX12_pass R (xs (j + 1))) hG (fun n t m R h _ => c_pass h (xs (j + 1))) (hA_fX11_pass ka_rf)
  rcases hq with ⟨k, b1, R1, rfl, he, hy, ht, hg⟩ | ⟨b1, C1, R1, rfl, hy, ht, hg⟩
  · refine x_aload_n hE 1 dL_law__2624 rfl rfl ?_
    refine x_arg hE hX hb hj hn 1 (by decide) (by decide) 0 4 dL_law__2625 dL_law__2626 dL_law__2628 dL_law__2629 dL_law__2630 rfl rfl ?_
    refine x_aload_n hE 3 dL_law__2631 rfl rfl ?_
    refine x_callSW hE [.ref (σ 0), .int (xs (j + 1)), .ref (σ 145)] (rest := []) (v := some (.int (eB k))) (c1 := M) (d1 := N) rfl yowL_pass ysL_pass lkw_282 ⟨Nat.le_of_ble_eq_true rfl, Nat.le_of_ble_eq_true rfl⟩ ⟨by show cells + 1 ≤ 601024; omega, by show slots + 6 * 1 ≤ 7293034; omega⟩ rfl (Nat.le_of_ble_eq_true rfl) dL_law__2632 (mL_pass l hfl hx) ?_
    refine x_istore hE (L' := [(5, .int (eB k)), (0, .ref b), (1, .ref (σ 0)), (2, .ref (σ 127)), (3, .ref (σ 145)), (4, .int (nI j))]) dL_law__2635 (by decide) rfl ?_
    refine x_aload_n hE 3 dL_law__2637 rfl rfl ?_
    refine x_arg hE hX hb hj hn 1 (by decide) (by decide) 1 5 dL_law__2638 dL_law__2639 dL_law__2641 dL_law__2642 dL_law__2643 rfl rfl ?_
    refine x_callV1 hE [.int (xs (j + 1))] (rest := []) (v := .int b1) (c1 := R1) (d1 := N) rfl yokX12_pass yvX12_pass lkw_284 rfl cl_12 (hE.kd kO_12) (by decide) rfl rfl ⟨Nat.le_of_ble_eq_true rfl, Nat.le_of_ble_eq_true rfl⟩ ⟨by show (cells + 1) ≤ 601024; omega, by show (slots + 6 * 1) ≤ 7293034; omega⟩ rfl (Nat.le_of_ble_eq_true rfl) dL_law__2644 (mX12_pass l hy) ?_
    refine x_istore hE (L' := [(6, .int b1), (5, .int (eB k)), (0, .ref b), (1, .ref (σ 0)), (2, .ref (σ 127)), (3, .ref (σ 145)), (4, .int (nI j))]) dL_law__2647 (by decide) rfl ?_
    refine x_aload_n hE 4 dL_law__2649 rfl rfl ?_
    refine x_callV1 hE [] (rest := []) (v := .int (R1 127 0)) (c1 := R1) (d1 := N) rfl yokX12_thrown yvX12_thrown lkw_157 rfl cl_12 (hE.kd kO_12) (by decide) rfl rfl ⟨Nat.le_of_ble_eq_true rfl, Nat.le_of_ble_eq_true rfl⟩ ⟨by show (cells + 1) ≤ 601024; omega, by show (slots + 6 * 1) ≤ 7293034; omega⟩ rfl (Nat.le_of_ble_eq_true rfl) dL_law__2650 (mX12_thrown l rfl) ?_
    refine x_iload hE 1 dL_law__2653 rfl ?_
    refine x_icmp_eq hE 2660 dL_law__2655 (by decide) (A := some ()) (B := none) (r := ()) (if_pos ht) (fun _ => ?_) (fun h => by cases h)
    refine x_iload hE 1 dL_law__2660 rfl ?_
    refine x_if_ne hE 2677 dL_law__2662 (by decide) (A := some ()) (B := none) (r := ()) (if_neg he) (fun _ => ?_) (fun h => by cases h)
    refine x_goto hE 3277 dL_law__2677 (by decide) ?_
    refine x_pick [2, 3, 4, 5, 6] (L' := Lb σ b j) rfl ?_
    exact hK σ np (cells + 1) (slots + 6 * 1) R1 N hE hg (by omega) (by omega)
  · refine x_aload_n hE 1 dL_law__2624 rfl rfl ?_
    refine x_arg hE hX hb hj hn 1 (by decide) (by decide) 0 4 dL_law__2625 dL_law__2626 dL_law__2628 dL_law__2629 dL_law__2630 rfl rfl ?_
    refine x_aload_n hE 3 dL_law__2631 rfl rfl ?_
    refine x_callSW hE [.ref (σ 0), .int (xs (j + 1)), .ref (σ 145)] (rest := []) (v := some (.int 0)) (c1 := C1) (d1 := (wrd N 145 0 b1.toInt64)) rfl yowL_pass ysL_pass lkw_282 ⟨Nat.le_of_ble_eq_true rfl, Nat.le_of_ble_eq_true rfl⟩ ⟨by show cells + 1 ≤ 601024; omega, by show slots + 6 * 1 ≤ 7293034; omega⟩ rfl (Nat.le_of_ble_eq_true rfl) dL_law__2632 (mL_pass l hfl hx) ?_
    refine x_istore hE (L' := [(5, .int 0), (0, .ref b), (1, .ref (σ 0)), (2, .ref (σ 127)), (3, .ref (σ 145)), (4, .int (nI j))]) dL_law__2635 (by decide) rfl ?_
    refine x_aload_n hE 3 dL_law__2637 rfl rfl ?_
    refine x_arg hE hX hb hj hn 1 (by decide) (by decide) 1 5 dL_law__2638 dL_law__2639 dL_law__2641 dL_law__2642 dL_law__2643 rfl rfl ?_
    refine x_callV1 hE [.int (xs (j + 1))] (rest := []) (v := .int b1) (c1 := R1) (d1 := (wrd N 145 0 b1.toInt64)) rfl yokX12_pass yvX12_pass lkw_284 rfl cl_12 (hE.kd kO_12) (by decide) rfl rfl ⟨Nat.le_of_ble_eq_true rfl, Nat.le_of_ble_eq_true rfl⟩ ⟨by show (cells + 1) ≤ 601024; omega, by show (slots + 6 * 1) ≤ 7293034; omega⟩ rfl (Nat.le_of_ble_eq_true rfl) dL_law__2644 (mX12_pass l hy) ?_
    refine x_istore hE (L' := [(6, .int b1), (5, .int 0), (0, .ref b), (1, .ref (σ 0)), (2, .ref (σ 127)), (3, .ref (σ 145)), (4, .int (nI j))]) dL_law__2647 (by decide) rfl ?_
    refine x_aload_n hE 4 dL_law__2649 rfl rfl ?_
    refine x_callV1 hE [] (rest := []) (v := .int (R1 127 0)) (c1 := R1) (d1 := (wrd N 145 0 b1.toInt64)) rfl yokX12_thrown yvX12_thrown lkw_157 rfl cl_12 (hE.kd kO_12) (by decide) rfl rfl ⟨Nat.le_of_ble_eq_true rfl, Nat.le_of_ble_eq_true rfl⟩ ⟨by show (cells + 1) ≤ 601024; omega, by show (slots + 6 * 1) ≤ 7293034; omega⟩ rfl (Nat.le_of_ble_eq_true rfl) dL_law__2650 (mX12_thrown l rfl) ?_
    refine x_iload hE 1 dL_law__2653 rfl ?_
    refine x_icmp_eq hE 2660 dL_law__2655 (by decide) (A := some ()) (B := none) (r := ()) (if_pos ht) (fun _ => ?_) (fun h => by cases h)
    refine x_iload hE 1 dL_law__2660 rfl ?_
    refine x_if_ne hE 2677 dL_law__2662 (by decide) (A := none) (B := some ()) (r := ()) (if_pos rfl) (fun h => by cases h) (fun _ => ?_)
    refine x_aload_n hE 5 dL_law__2665 rfl rfl ?_
    refine x_iconst hE 0 dL_law__2666 (by decide) ?_
    refine x_lald hE (hE.kd kA_145) dL_law__2667 (B := some ()) (r := ()) (by decide) (fun _ => ?_)
    refine x_iload hE 0 dL_law__2668 rfl ?_
    refine x_i2l hE dL_law__2670 ?_
    refine x_lcmp hE dL_law__2671 ?_
    refine x_if_eq hE 2677 dL_law__2672 (by decide) (A := some ()) (B := none) (r := ()) (if_pos cmp_out) (fun _ => ?_) (fun h => by cases h)
    refine x_goto hE 3277 dL_law__2677 (by decide) ?_
    refine x_pick [2, 3, 4, 5, 6] (L' := Lb σ b j) rfl ?_
    exact hK σ np (cells + 1) (slots + 6 * 1) R1 (wrd N 145 0 b1.toInt64) hE (gi_w hg) (by omega) (by omega)
theorem wL_c39 {p : Program} {l : Launch} {e : Env} {s : State} {m : MethodId} {args : Array Value} {below : List Frame} {meth : Method} {c : Code} {Y : Nat → ClassId} {D : va_G} {σ : Nat → Nat} {np b0 cells slots : Nat} {Q : State → Prop} {M : Mc} {N : Md} {b nX j : Nat} {xs : Nat → Int32} (hfl : l.stackTraces = false) (hE : EOK p s m args meth c cL_law_ 7 "SettlerColonyLaw" Y D σ np b0) (hX : va_X b nX xs s s.heap) (hb : b < b0) (hj : j + 6 ≤ nX) (hn : nX ≤ 3072) (hG : GI np M N) (hc : cells ≤ 600000) (hs : slots ≤ 7000000) (hK : LK p l e s m args below meth c Y D b0 cells slots Q b j) : Xw p l e room_1 s m args below meth c 7 Y D σ np b0 cells slots Q 2680 (Lb σ b j) [] M N := by
  unfold Lb
  obtain ⟨x1, hx, hq⟩ := st_R (e := eB) (y := fun R => fX12_billed R (xs (j + 1))) hG (fun n t m h => c_billed h (xs (j + 1)))
  rcases hq with ⟨k, b1, R1, rfl, he, hy, ht, hg⟩ | ⟨b1, R1, rfl, hy, ht, hg⟩
  · refine x_aload_n hE 1 dL_law__2680 rfl rfl ?_
    refine x_arg hE hX hb hj hn 1 (by decide) (by decide) 0 4 dL_law__2681 dL_law__2682 dL_law__2684 dL_law__2685 dL_law__2686 rfl rfl ?_
    refine x_aload_n hE 3 dL_law__2687 rfl rfl ?_
    refine x_callSW hE [.ref (σ 0), .int (xs (j + 1)), .ref (σ 145)] (rest := []) (v := some (.int (eB k))) (c1 := M) (d1 := N) rfl yowL_billed ysL_billed lkw_285 ⟨Nat.le_of_ble_eq_true rfl, Nat.le_of_ble_eq_true rfl⟩ ⟨by show cells + 1 ≤ 601024; omega, by show slots + 6 * 1 ≤ 7293034; omega⟩ rfl (Nat.le_of_ble_eq_true rfl) dL_law__2688 (mL_billed l hfl hx) ?_
    refine x_istore hE (L' := [(5, .int (eB k)), (0, .ref b), (1, .ref (σ 0)), (2, .ref (σ 127)), (3, .ref (σ 145)), (4, .int (nI j))]) dL_law__2691 (by decide) rfl ?_
    refine x_aload_n hE 3 dL_law__2693 rfl rfl ?_
    refine x_arg hE hX hb hj hn 1 (by decide) (by decide) 1 5 dL_law__2694 dL_law__2695 dL_law__2697 dL_law__2698 dL_law__2699 rfl rfl ?_
    refine x_callV1 hE [.int (xs (j + 1))] (rest := []) (v := .int b1) (c1 := R1) (d1 := N) rfl yokX12_billed yvX12_billed lkw_287 rfl cl_12 (hE.kd kO_12) (by decide) rfl rfl ⟨Nat.le_of_ble_eq_true rfl, Nat.le_of_ble_eq_true rfl⟩ ⟨by show (cells + 1) ≤ 601024; omega, by show (slots + 6 * 1) ≤ 7293034; omega⟩ rfl (Nat.le_of_ble_eq_true rfl) dL_law__2700 (mX12_billed l hy) ?_
    refine x_istore hE (L' := [(6, .int b1), (5, .int (eB k)), (0, .ref b), (1, .ref (σ 0)), (2, .ref (σ 127)), (3, .ref (σ 145)), (4, .int (nI j))]) dL_law__2703 (by decide) rfl ?_
    refine x_aload_n hE 4 dL_law__2705 rfl rfl ?_
    refine x_callV1 hE [] (rest := []) (v := .int (R1 127 0)) (c1 := R1) (d1 := N) rfl yokX12_thrown yvX12_thrown lkw_157 rfl cl_12 (hE.kd kO_12) (by decide) rfl rfl ⟨Nat.le_of_ble_eq_true rfl, Nat.le_of_ble_eq_true rfl⟩ ⟨by show (cells + 1) ≤ 601024; omega, by show (slots + 6 * 1) ≤ 7293034; omega⟩ rfl (Nat.le_of_ble_eq_true rfl) dL_law__2706 (mX12_thrown l rfl) ?_
    refine x_iload hE 1 dL_law__2709 rfl ?_
    refine x_icmp_eq hE 2716 dL_law__2711 (by decide) (A := some ()) (B := none) (r := ()) (if_pos ht) (fun _ => ?_) (fun h => by cases h)
    refine x_iload hE 1 dL_law__2716 rfl ?_
    refine x_if_ne hE 2733 dL_law__2718 (by decide) (A := some ()) (B := none) (r := ()) (if_neg he) (fun _ => ?_) (fun h => by cases h)
    refine x_goto hE 3277 dL_law__2733 (by decide) ?_
    refine x_pick [2, 3, 4, 5, 6] (L' := Lb σ b j) rfl ?_
    exact hK σ np (cells + 1) (slots + 6 * 1) R1 N hE hg (by omega) (by omega)
  · refine x_aload_n hE 1 dL_law__2680 rfl rfl ?_
    refine x_arg hE hX hb hj hn 1 (by decide) (by decide) 0 4 dL_law__2681 dL_law__2682 dL_law__2684 dL_law__2685 dL_law__2686 rfl rfl ?_
    refine x_aload_n hE 3 dL_law__2687 rfl rfl ?_
    refine x_callSW hE [.ref (σ 0), .int (xs (j + 1)), .ref (σ 145)] (rest := []) (v := some (.int 0)) (c1 := M) (d1 := (wrd N 145 0 b1.toInt64)) rfl yowL_billed ysL_billed lkw_285 ⟨Nat.le_of_ble_eq_true rfl, Nat.le_of_ble_eq_true rfl⟩ ⟨by show cells + 1 ≤ 601024; omega, by show slots + 6 * 1 ≤ 7293034; omega⟩ rfl (Nat.le_of_ble_eq_true rfl) dL_law__2688 (mL_billed l hfl hx) ?_
    refine x_istore hE (L' := [(5, .int 0), (0, .ref b), (1, .ref (σ 0)), (2, .ref (σ 127)), (3, .ref (σ 145)), (4, .int (nI j))]) dL_law__2691 (by decide) rfl ?_
    refine x_aload_n hE 3 dL_law__2693 rfl rfl ?_
    refine x_arg hE hX hb hj hn 1 (by decide) (by decide) 1 5 dL_law__2694 dL_law__2695 dL_law__2697 dL_law__2698 dL_law__2699 rfl rfl ?_
    refine x_callV1 hE [.int (xs (j + 1))] (rest := []) (v := .int b1) (c1 := R1) (d1 := (wrd N 145 0 b1.toInt64)) rfl yokX12_billed yvX12_billed lkw_287 rfl cl_12 (hE.kd kO_12) (by decide) rfl rfl ⟨Nat.le_of_ble_eq_true rfl, Nat.le_of_ble_eq_true rfl⟩ ⟨by show (cells + 1) ≤ 601024; omega, by show (slots + 6 * 1) ≤ 7293034; omega⟩ rfl (Nat.le_of_ble_eq_true rfl) dL_law__2700 (mX12_billed l hy) ?_
    refine x_istore hE (L' := [(6, .int b1), (5, .int 0), (0, .ref b), (1, .ref (σ 0)), (2, .ref (σ 127)), (3, .ref (σ 145)), (4, .int (nI j))]) dL_law__2703 (by decide) rfl ?_
    refine x_aload_n hE 4 dL_law__2705 rfl rfl ?_
    refine x_callV1 hE [] (rest := []) (v := .int (R1 127 0)) (c1 := R1) (d1 := (wrd N 145 0 b1.toInt64)) rfl yokX12_thrown yvX12_thrown lkw_157 rfl cl_12 (hE.kd kO_12) (by decide) rfl rfl ⟨Nat.le_of_ble_eq_true rfl, Nat.le_of_ble_eq_true rfl⟩ ⟨by show (cells + 1) ≤ 601024; omega, by show (slots + 6 * 1) ≤ 7293034; omega⟩ rfl (Nat.le_of_ble_eq_true rfl) dL_law__2706 (mX12_thrown l rfl) ?_
    refine x_iload hE 1 dL_law__2709 rfl ?_
    refine x_icmp_eq hE 2716 dL_law__2711 (by decide) (A := some ()) (B := none) (r := ()) (if_pos ht) (fun _ => ?_) (fun h => by cases h)
    refine x_iload hE 1 dL_law__2716 rfl ?_
    refine x_if_ne hE 2733 dL_law__2718 (by decide) (A := none) (B := some ()) (r := ()) (if_pos rfl) (fun h => by cases h) (fun _ => ?_)
    refine x_aload_n hE 5 dL_law__2721 rfl rfl ?_
    refine x_iconst hE 0 dL_law__2722 (by decide) ?_
    refine x_lald hE (hE.kd kA_145) dL_law__2723 (B := some ()) (r := ()) (by decide) (fun _ => ?_)
    refine x_iload hE 0 dL_law__2724 rfl ?_
    refine x_i2l hE dL_law__2726 ?_
    refine x_lcmp hE dL_law__2727 ?_
    refine x_if_eq hE 2733 dL_law__2728 (by decide) (A := some ()) (B := none) (r := ()) (if_pos cmp_out) (fun _ => ?_) (fun h => by cases h)
    refine x_goto hE 3277 dL_law__2733 (by decide) ?_
    refine x_pick [2, 3, 4, 5, 6] (L' := Lb σ b j) rfl ?_
    exact hK σ np (cells + 1) (slots + 6 * 1) R1 (wrd N 145 0 b1.toInt64) hE (gi_w hg) (by omega) (by omega)
theorem wL_c40 {p : Program} {l : Launch} {e : Env} {s : State} {m : MethodId} {args : Array Value} {below : List Frame} {meth : Method} {c : Code} {Y : Nat → ClassId} {D : va_G} {σ : Nat → Nat} {np b0 cells slots : Nat} {Q : State → Prop} {M : Mc} {N : Md} {b nX j : Nat} {xs : Nat → Int32} (hfl : l.stackTraces = false) (hE : EOK p s m args meth c cL_law_ 7 "SettlerColonyLaw" Y D σ np b0) (hX : va_X b nX xs s s.heap) (hb : b < b0) (hj : j + 6 ≤ nX) (hn : nX ≤ 3072) (hG : GI np M N) (hc : cells ≤ 600000) (hs : slots ≤ 7000000) (hK : LK p l e s m args below meth c Y D b0 cells slots Q b j) : Xw p l e room_1 s m args below meth c 7 Y D σ np b0 cells slots Q 2736 (Lb σ b j) [] M N := by
  unfold Lb
  obtain ⟨x1, hx, hq⟩ := st_week (p0 := (xs (j + 1))) hG
  rcases hq with ⟨k, b1, R1, rfl, he, hy, ht, hg⟩ | ⟨b1, C1, R1, rfl, hy, ht, hg⟩
  · refine x_aload_n hE 1 dL_law__2736 rfl rfl ?_
    refine x_arg hE hX hb hj hn 1 (by decide) (by decide) 0 4 dL_law__2737 dL_law__2738 dL_law__2740 dL_law__2741 dL_law__2742 rfl rfl ?_
    refine x_aload_n hE 3 dL_law__2743 rfl rfl ?_
    refine x_callSW hE [.ref (σ 0), .int (xs (j + 1)), .ref (σ 145)] (rest := []) (v := some (.int (eA k))) (c1 := M) (d1 := N) rfl yowL_week ysL_week lkw_288 ⟨Nat.le_of_ble_eq_true rfl, Nat.le_of_ble_eq_true rfl⟩ ⟨by show cells + 2 ≤ 601024; omega, by show slots + 6 * 2 ≤ 7293034; omega⟩ rfl (Nat.le_of_ble_eq_true rfl) dL_law__2744 (mL_week l hfl hx) ?_
    refine x_istore hE (L' := [(5, .int (eA k)), (0, .ref b), (1, .ref (σ 0)), (2, .ref (σ 127)), (3, .ref (σ 145)), (4, .int (nI j))]) dL_law__2747 (by decide) rfl ?_
    refine x_aload_n hE 3 dL_law__2749 rfl rfl ?_
    refine x_arg hE hX hb hj hn 1 (by decide) (by decide) 1 5 dL_law__2750 dL_law__2751 dL_law__2753 dL_law__2754 dL_law__2755 rfl rfl ?_
    refine x_callV1 hE [.int (xs (j + 1))] (rest := []) (v := .int b1) (c1 := R1) (d1 := N) rfl yokX12_week yvX12_week lkw_290 rfl cl_12 (hE.kd kO_12) (by decide) rfl rfl ⟨Nat.le_of_ble_eq_true rfl, Nat.le_of_ble_eq_true rfl⟩ ⟨by show (cells + 2) ≤ 601024; omega, by show (slots + 6 * 2) ≤ 7293034; omega⟩ rfl (Nat.le_of_ble_eq_true rfl) dL_law__2756 (mX12_week l hy) ?_
    refine x_istore hE (L' := [(6, .int b1), (5, .int (eA k)), (0, .ref b), (1, .ref (σ 0)), (2, .ref (σ 127)), (3, .ref (σ 145)), (4, .int (nI j))]) dL_law__2759 (by decide) rfl ?_
    refine x_aload_n hE 4 dL_law__2761 rfl rfl ?_
    refine x_callV1 hE [] (rest := []) (v := .int (R1 127 0)) (c1 := R1) (d1 := N) rfl yokX12_thrown yvX12_thrown lkw_157 rfl cl_12 (hE.kd kO_12) (by decide) rfl rfl ⟨Nat.le_of_ble_eq_true rfl, Nat.le_of_ble_eq_true rfl⟩ ⟨by show (cells + 2) ≤ 601024; omega, by show (slots + 6 * 2) ≤ 7293034; omega⟩ rfl (Nat.le_of_ble_eq_true rfl) dL_law__2762 (mX12_thrown l rfl) ?_
    refine x_iload hE 1 dL_law__2765 rfl ?_
    refine x_icmp_eq hE 2772 dL_law__2767 (by decide) (A := some ()) (B := none) (r := ()) (if_pos ht) (fun _ => ?_) (fun h => by cases h)
    refine x_iload hE 1 dL_law__2772 rfl ?_
    refine x_if_ne hE 2789 dL_law__2774 (by decide) (A := some ()) (B := none) (r := ()) (if_neg he) (fun _ => ?_) (fun h => by cases h)
    refine x_goto hE 3277 dL_law__2789 (by decide) ?_
    refine x_pick [2, 3, 4, 5, 6] (L' := Lb σ b j) rfl ?_
    exact hK σ np (cells + 2) (slots + 6 * 2) R1 N hE hg (by omega) (by omega)
  · refine x_aload_n hE 1 dL_law__2736 rfl rfl ?_
    refine x_arg hE hX hb hj hn 1 (by decide) (by decide) 0 4 dL_law__2737 dL_law__2738 dL_law__2740 dL_law__2741 dL_law__2742 rfl rfl ?_
    refine x_aload_n hE 3 dL_law__2743 rfl rfl ?_
    refine x_callSW hE [.ref (σ 0), .int (xs (j + 1)), .ref (σ 145)] (rest := []) (v := some (.int 0)) (c1 := C1) (d1 := (wrd N 145 0 b1.toInt64)) rfl yowL_week ysL_week lkw_288 ⟨Nat.le_of_ble_eq_true rfl, Nat.le_of_ble_eq_true rfl⟩ ⟨by show cells + 2 ≤ 601024; omega, by show slots + 6 * 2 ≤ 7293034; omega⟩ rfl (Nat.le_of_ble_eq_true rfl) dL_law__2744 (mL_week l hfl hx) ?_
    refine x_istore hE (L' := [(5, .int 0), (0, .ref b), (1, .ref (σ 0)), (2, .ref (σ 127)), (3, .ref (σ 145)), (4, .int (nI j))]) dL_law__2747 (by decide) rfl ?_
    refine x_aload_n hE 3 dL_law__2749 rfl rfl ?_
    refine x_arg hE hX hb hj hn 1 (by decide) (by decide) 1 5 dL_law__2750 dL_law__2751 dL_law__2753 dL_law__2754 dL_law__2755 rfl rfl ?_
    refine x_callV1 hE [.int (xs (j + 1))] (rest := []) (v := .int b1) (c1 := R1) (d1 := (wrd N 145 0 b1.toInt64)) rfl yokX12_week yvX12_week lkw_290 rfl cl_12 (hE.kd kO_12) (by decide) rfl rfl ⟨Nat.le_of_ble_eq_true rfl, Nat.le_of_ble_eq_true rfl⟩ ⟨by show (cells + 2) ≤ 601024; omega, by show (slots + 6 * 2) ≤ 7293034; omega⟩ rfl (Nat.le_of_ble_eq_true rfl) dL_law__2756 (mX12_week l hy) ?_
    refine x_istore hE (L' := [(6, .int b1), (5, .int 0), (0, .ref b), (1, .ref (σ 0)), (2, .ref (σ 127)), (3, .ref (σ 145)), (4, .int (nI j))]) dL_law__2759 (by decide) rfl ?_
    refine x_aload_n hE 4 dL_law__2761 rfl rfl ?_
    refine x_callV1 hE [] (rest := []) (v := .int (R1 127 0)) (c1 := R1) (d1 := (wrd N 145 0 b1.toInt64)) rfl yokX12_thrown yvX12_thrown lkw_157 rfl cl_12 (hE.kd kO_12) (by decide) rfl rfl ⟨Nat.le_of_ble_eq_true rfl, Nat.le_of_ble_eq_true rfl⟩ ⟨by show (cells + 2) ≤ 601024; omega, by show (slots + 6 * 2) ≤ 7293034; omega⟩ rfl (Nat.le_of_ble_eq_true rfl) dL_law__2762 (mX12_thrown l rfl) ?_
    refine x_iload hE 1 dL_law__2765 rfl ?_
    refine x_icmp_eq hE 2772 dL_law__2767 (by decide) (A := some ()) (B := none) (r := ()) (if_pos ht) (fun _ => ?_) (fun h => by cases h)
    refine x_iload hE 1 dL_law__2772 rfl ?_
    refine x_if_ne hE 2789 dL_law__2774 (by decide) (A := none) (B := some ()) (r := ()) (if_pos rfl) (fun h => by cases h) (fun _ => ?_)
    refine x_aload_n hE 5 dL_law__2777 rfl rfl ?_
    refine x_iconst hE 0 dL_law__2778 (by decide) ?_
    refine x_lald hE (hE.kd kA_145) dL_law__2779 (B := some ()) (r := ()) (by decide) (fun _ => ?_)
    refine x_iload hE 0 dL_law__2780 rfl ?_
    refine x_i2l hE dL_law__2782 ?_
    refine x_lcmp hE dL_law__2783 ?_
    refine x_if_eq hE 2789 dL_law__2784 (by decide) (A := some ()) (B := none) (r := ()) (if_pos cmp_out) (fun _ => ?_) (fun h => by cases h)
    refine x_goto hE 3277 dL_law__2789 (by decide) ?_
    refine x_pick [2, 3, 4, 5, 6] (L' := Lb σ b j) rfl ?_
    exact hK σ np (cells + 2) (slots + 6 * 2) R1 (wrd N 145 0 b1.toInt64) hE (gi_w hg) (by omega) (by omega)
theorem wL_c41 {p : Program} {l : Launch} {e : Env} {s : State} {m : MethodId} {args : Array Value} {below : List Frame} {meth : Method} {c : Code} {Y : Nat → ClassId} {D : va_G} {σ : Nat → Nat} {np b0 cells slots : Nat} {Q : State → Prop} {M : Mc} {N : Md} {b nX j : Nat} {xs : Nat → Int32} (hfl : l.stackTraces = false) (hE : EOK p s m args meth c cL_law_ 7 "SettlerColonyLaw" Y D σ np b0) (hX : va_X b nX xs s s.heap) (hb : b < b0) (hj : j + 6 ≤ nX) (hn : nX ≤ 3072) (hG : GI np M N) (hc : cells ≤ 600000) (hs : slots ≤ 7000000) (hK : LK p l e s m args below meth c Y D b0 cells slots Q b j) : Xw p l e room_1 s m args below meth c 7 Y D σ np b0 cells slots Q 2792 (Lb σ b j) [] M N := by
  unfold Lb
  obtain ⟨x1, hx, hq⟩ := st_R (e := eA) (y := fun R => fX12_as R (xs (j + 1)) (xs (j + 2)) (xs (j + 3))) hG (fun n t m h => c_as h (xs (j + 1)) (xs (j + 2)) (xs (j + 3)))
  rcases hq with ⟨k, b1, R1, rfl, he, hy, ht, hg⟩ | ⟨b1, R1, rfl, hy, ht, hg⟩
  · refine x_aload_n hE 1 dL_law__2792 rfl rfl ?_
    refine x_arg hE hX hb hj hn 1 (by decide) (by decide) 0 4 dL_law__2793 dL_law__2794 dL_law__2796 dL_law__2797 dL_law__2798 rfl rfl ?_
    refine x_arg hE hX hb hj hn 2 (by decide) (by decide) 0 4 dL_law__2799 dL_law__2800 dL_law__2802 dL_law__2803 dL_law__2804 rfl rfl ?_
    refine x_arg hE hX hb hj hn 3 (by decide) (by decide) 0 4 dL_law__2805 dL_law__2806 dL_law__2808 dL_law__2809 dL_law__2810 rfl rfl ?_
    refine x_aload_n hE 3 dL_law__2811 rfl rfl ?_
    refine x_callSW hE [.ref (σ 0), .int (xs (j + 1)), .int (xs (j + 2)), .int (xs (j + 3)), .ref (σ 145)] (rest := []) (v := some (.int (eA k))) (c1 := M) (d1 := N) rfl yowL_as ysL_as lkw_291 ⟨Nat.le_of_ble_eq_true rfl, Nat.le_of_ble_eq_true rfl⟩ ⟨by show cells + 1 ≤ 601024; omega, by show slots + 6 * 1 ≤ 7293034; omega⟩ rfl (Nat.le_of_ble_eq_true rfl) dL_law__2812 (mL_as l hfl hx) ?_
    refine x_istore hE (L' := [(5, .int (eA k)), (0, .ref b), (1, .ref (σ 0)), (2, .ref (σ 127)), (3, .ref (σ 145)), (4, .int (nI j))]) dL_law__2815 (by decide) rfl ?_
    refine x_aload_n hE 3 dL_law__2817 rfl rfl ?_
    refine x_arg hE hX hb hj hn 1 (by decide) (by decide) 1 5 dL_law__2818 dL_law__2819 dL_law__2821 dL_law__2822 dL_law__2823 rfl rfl ?_
    refine x_arg hE hX hb hj hn 2 (by decide) (by decide) 1 5 dL_law__2824 dL_law__2825 dL_law__2827 dL_law__2828 dL_law__2829 rfl rfl ?_
    refine x_arg hE hX hb hj hn 3 (by decide) (by decide) 1 5 dL_law__2830 dL_law__2831 dL_law__2833 dL_law__2834 dL_law__2835 rfl rfl ?_
    refine x_callV1 hE [.int (xs (j + 1)), .int (xs (j + 2)), .int (xs (j + 3))] (rest := []) (v := .int b1) (c1 := R1) (d1 := N) rfl yokX12_as yvX12_as lkw_293 rfl cl_12 (hE.kd kO_12) (by decide) rfl rfl ⟨Nat.le_of_ble_eq_true rfl, Nat.le_of_ble_eq_true rfl⟩ ⟨by show (cells + 1) ≤ 601024; omega, by show (slots + 6 * 1) ≤ 7293034; omega⟩ rfl (Nat.le_of_ble_eq_true rfl) dL_law__2836 (mX12_as l hy) ?_
    refine x_istore hE (L' := [(6, .int b1), (5, .int (eA k)), (0, .ref b), (1, .ref (σ 0)), (2, .ref (σ 127)), (3, .ref (σ 145)), (4, .int (nI j))]) dL_law__2839 (by decide) rfl ?_
    refine x_aload_n hE 4 dL_law__2841 rfl rfl ?_
    refine x_callV1 hE [] (rest := []) (v := .int (R1 127 0)) (c1 := R1) (d1 := N) rfl yokX12_thrown yvX12_thrown lkw_157 rfl cl_12 (hE.kd kO_12) (by decide) rfl rfl ⟨Nat.le_of_ble_eq_true rfl, Nat.le_of_ble_eq_true rfl⟩ ⟨by show (cells + 1) ≤ 601024; omega, by show (slots + 6 * 1) ≤ 7293034; omega⟩ rfl (Nat.le_of_ble_eq_true rfl) dL_law__2842 (mX12_thrown l rfl) ?_
    refine x_iload hE 1 dL_law__2845 rfl ?_
    refine x_icmp_eq hE 2852 dL_law__2847 (by decide) (A := some ()) (B := none) (r := ()) (if_pos ht) (fun _ => ?_) (fun h => by cases h)
    refine x_iload hE 1 dL_law__2852 rfl ?_
    refine x_if_ne hE 2869 dL_law__2854 (by decide) (A := some ()) (B := none) (r := ()) (if_neg he) (fun _ => ?_) (fun h => by cases h)
    refine x_goto hE 3277 dL_law__2869 (by decide) ?_
    refine x_pick [2, 3, 4, 5, 6] (L' := Lb σ b j) rfl ?_
    exact hK σ np (cells + 1) (slots + 6 * 1) R1 N hE hg (by omega) (by omega)
  · refine x_aload_n hE 1 dL_law__2792 rfl rfl ?_
    refine x_arg hE hX hb hj hn 1 (by decide) (by decide) 0 4 dL_law__2793 dL_law__2794 dL_law__2796 dL_law__2797 dL_law__2798 rfl rfl ?_
    refine x_arg hE hX hb hj hn 2 (by decide) (by decide) 0 4 dL_law__2799 dL_law__2800 dL_law__2802 dL_law__2803 dL_law__2804 rfl rfl ?_
    refine x_arg hE hX hb hj hn 3 (by decide) (by decide) 0 4 dL_law__2805 dL_law__2806 dL_law__2808 dL_law__2809 dL_law__2810 rfl rfl ?_
    refine x_aload_n hE 3 dL_law__2811 rfl rfl ?_
    refine x_callSW hE [.ref (σ 0), .int (xs (j + 1)), .int (xs (j + 2)), .int (xs (j + 3)), .ref (σ 145)] (rest := []) (v := some (.int 0)) (c1 := M) (d1 := (wrd N 145 0 b1.toInt64)) rfl yowL_as ysL_as lkw_291 ⟨Nat.le_of_ble_eq_true rfl, Nat.le_of_ble_eq_true rfl⟩ ⟨by show cells + 1 ≤ 601024; omega, by show slots + 6 * 1 ≤ 7293034; omega⟩ rfl (Nat.le_of_ble_eq_true rfl) dL_law__2812 (mL_as l hfl hx) ?_
    refine x_istore hE (L' := [(5, .int 0), (0, .ref b), (1, .ref (σ 0)), (2, .ref (σ 127)), (3, .ref (σ 145)), (4, .int (nI j))]) dL_law__2815 (by decide) rfl ?_
    refine x_aload_n hE 3 dL_law__2817 rfl rfl ?_
    refine x_arg hE hX hb hj hn 1 (by decide) (by decide) 1 5 dL_law__2818 dL_law__2819 dL_law__2821 dL_law__2822 dL_law__2823 rfl rfl ?_
    refine x_arg hE hX hb hj hn 2 (by decide) (by decide) 1 5 dL_law__2824 dL_law__2825 dL_law__2827 dL_law__2828 dL_law__2829 rfl rfl ?_
    refine x_arg hE hX hb hj hn 3 (by decide) (by decide) 1 5 dL_law__2830 dL_law__2831 dL_law__2833 dL_law__2834 dL_law__2835 rfl rfl ?_
    refine x_callV1 hE [.int (xs (j + 1)), .int (xs (j + 2)), .int (xs (j + 3))] (rest := []) (v := .int b1) (c1 := R1) (d1 := (wrd N 145 0 b1.toInt64)) rfl yokX12_as yvX12_as lkw_293 rfl cl_12 (hE.kd kO_12) (by decide) rfl rfl ⟨Nat.le_of_ble_eq_true rfl, Nat.le_of_ble_eq_true rfl⟩ ⟨by show (cells + 1) ≤ 601024; omega, by show (slots + 6 * 1) ≤ 7293034; omega⟩ rfl (Nat.le_of_ble_eq_true rfl) dL_law__2836 (mX12_as l hy) ?_
    refine x_istore hE (L' := [(6, .int b1), (5, .int 0), (0, .ref b), (1, .ref (σ 0)), (2, .ref (σ 127)), (3, .ref (σ 145)), (4, .int (nI j))]) dL_law__2839 (by decide) rfl ?_
    refine x_aload_n hE 4 dL_law__2841 rfl rfl ?_
    refine x_callV1 hE [] (rest := []) (v := .int (R1 127 0)) (c1 := R1) (d1 := (wrd N 145 0 b1.toInt64)) rfl yokX12_thrown yvX12_thrown lkw_157 rfl cl_12 (hE.kd kO_12) (by decide) rfl rfl ⟨Nat.le_of_ble_eq_true rfl, Nat.le_of_ble_eq_true rfl⟩ ⟨by show (cells + 1) ≤ 601024; omega, by show (slots + 6 * 1) ≤ 7293034; omega⟩ rfl (Nat.le_of_ble_eq_true rfl) dL_law__2842 (mX12_thrown l rfl) ?_
    refine x_iload hE 1 dL_law__2845 rfl ?_
    refine x_icmp_eq hE 2852 dL_law__2847 (by decide) (A := some ()) (B := none) (r := ()) (if_pos ht) (fun _ => ?_) (fun h => by cases h)
    refine x_iload hE 1 dL_law__2852 rfl ?_
    refine x_if_ne hE 2869 dL_law__2854 (by decide) (A := none) (B := some ()) (r := ()) (if_pos rfl) (fun h => by cases h) (fun _ => ?_)
    refine x_aload_n hE 5 dL_law__2857 rfl rfl ?_
    refine x_iconst hE 0 dL_law__2858 (by decide) ?_
    refine x_lald hE (hE.kd kA_145) dL_law__2859 (B := some ()) (r := ()) (by decide) (fun _ => ?_)
    refine x_iload hE 0 dL_law__2860 rfl ?_
    refine x_i2l hE dL_law__2862 ?_
    refine x_lcmp hE dL_law__2863 ?_
    refine x_if_eq hE 2869 dL_law__2864 (by decide) (A := some ()) (B := none) (r := ()) (if_pos cmp_out) (fun _ => ?_) (fun h => by cases h)
    refine x_goto hE 3277 dL_law__2869 (by decide) ?_
    refine x_pick [2, 3, 4, 5, 6] (L' := Lb σ b j) rfl ?_
    exact hK σ np (cells + 1) (slots + 6 * 1) R1 (wrd N 145 0 b1.toInt64) hE (gi_w hg) (by omega) (by omega)
theorem wL_c42 {p : Program} {l : Launch} {e : Env} {s : State} {m : MethodId} {args : Array Value} {below : List Frame} {meth : Method} {c : Code} {Y : Nat → ClassId} {D : va_G} {σ : Nat → Nat} {np b0 cells slots : Nat} {Q : State → Prop} {M : Mc} {N : Md} {b nX j : Nat} {xs : Nat → Int32} (hfl : l.stackTraces = false) (hE : EOK p s m args meth c cL_law_ 7 "SettlerColonyLaw" Y D σ np b0) (hX : va_X b nX xs s s.heap) (hb : b < b0) (hj : j + 6 ≤ nX) (hn : nX ≤ 3072) (hG : GI np M N) (hc : cells ≤ 600000) (hs : slots ≤ 7000000) (hK : LK p l e s m args below meth c Y D b0 cells slots Q b j) : Xw p l e room_1 s m args below meth c 7 Y D σ np b0 cells slots Q 2872 (Lb σ b j) [] M N := by
  unfold Lb
  obtain ⟨x1, hx, hq⟩ := st_M (e := eA) (y := fun R => fX12_tried R (xs (j + 1)) (xs (j + 2)) (xs (j + 3)) (xs (j + 4))) hG (fun n t m R h _ => c_tried h (xs (j + 1)) (xs (j + 2)) (xs (j + 3)) (xs (j + 4))) (hA_fX11_tried ka_rf)
  rcases hq with ⟨k, b1, R1, rfl, he, hy, ht, hg⟩ | ⟨b1, C1, R1, rfl, hy, ht, hg⟩
  · refine x_aload_n hE 1 dL_law__2872 rfl rfl ?_
    refine x_arg hE hX hb hj hn 1 (by decide) (by decide) 0 4 dL_law__2873 dL_law__2874 dL_law__2876 dL_law__2877 dL_law__2878 rfl rfl ?_
    refine x_arg hE hX hb hj hn 2 (by decide) (by decide) 0 4 dL_law__2879 dL_law__2880 dL_law__2882 dL_law__2883 dL_law__2884 rfl rfl ?_
    refine x_arg hE hX hb hj hn 3 (by decide) (by decide) 0 4 dL_law__2885 dL_law__2886 dL_law__2888 dL_law__2889 dL_law__2890 rfl rfl ?_
    refine x_arg hE hX hb hj hn 4 (by decide) (by decide) 0 4 dL_law__2891 dL_law__2892 dL_law__2894 dL_law__2895 dL_law__2896 rfl rfl ?_
    refine x_aload_n hE 3 dL_law__2897 rfl rfl ?_
    refine x_callSW hE [.ref (σ 0), .int (xs (j + 1)), .int (xs (j + 2)), .int (xs (j + 3)), .int (xs (j + 4)), .ref (σ 145)] (rest := []) (v := some (.int (eA k))) (c1 := M) (d1 := N) rfl yowL_tried ysL_tried lkw_294 ⟨Nat.le_of_ble_eq_true rfl, Nat.le_of_ble_eq_true rfl⟩ ⟨by show cells + 3 ≤ 601024; omega, by show slots + 6 * 3 ≤ 7293034; omega⟩ rfl (Nat.le_of_ble_eq_true rfl) dL_law__2898 (mL_tried l hfl hx) ?_
    refine x_istore hE (L' := [(5, .int (eA k)), (0, .ref b), (1, .ref (σ 0)), (2, .ref (σ 127)), (3, .ref (σ 145)), (4, .int (nI j))]) dL_law__2901 (by decide) rfl ?_
    refine x_aload_n hE 3 dL_law__2903 rfl rfl ?_
    refine x_arg hE hX hb hj hn 1 (by decide) (by decide) 1 5 dL_law__2904 dL_law__2905 dL_law__2907 dL_law__2908 dL_law__2909 rfl rfl ?_
    refine x_arg hE hX hb hj hn 2 (by decide) (by decide) 1 5 dL_law__2910 dL_law__2911 dL_law__2913 dL_law__2914 dL_law__2915 rfl rfl ?_
    refine x_arg hE hX hb hj hn 3 (by decide) (by decide) 1 5 dL_law__2916 dL_law__2917 dL_law__2919 dL_law__2920 dL_law__2921 rfl rfl ?_
    refine x_arg hE hX hb hj hn 4 (by decide) (by decide) 1 5 dL_law__2922 dL_law__2923 dL_law__2925 dL_law__2926 dL_law__2927 rfl rfl ?_
    refine x_callV1 hE [.int (xs (j + 1)), .int (xs (j + 2)), .int (xs (j + 3)), .int (xs (j + 4))] (rest := []) (v := .int b1) (c1 := R1) (d1 := N) rfl yokX12_tried yvX12_tried lkw_297 rfl cl_12 (hE.kd kO_12) (by decide) rfl rfl ⟨Nat.le_of_ble_eq_true rfl, Nat.le_of_ble_eq_true rfl⟩ ⟨by show (cells + 3) ≤ 601024; omega, by show (slots + 6 * 3) ≤ 7293034; omega⟩ rfl (Nat.le_of_ble_eq_true rfl) dL_law__2928 (mX12_tried l hy) ?_
    refine x_istore hE (L' := [(6, .int b1), (5, .int (eA k)), (0, .ref b), (1, .ref (σ 0)), (2, .ref (σ 127)), (3, .ref (σ 145)), (4, .int (nI j))]) dL_law__2931 (by decide) rfl ?_
    refine x_aload_n hE 4 dL_law__2933 rfl rfl ?_
    refine x_callV1 hE [] (rest := []) (v := .int (R1 127 0)) (c1 := R1) (d1 := N) rfl yokX12_thrown yvX12_thrown lkw_157 rfl cl_12 (hE.kd kO_12) (by decide) rfl rfl ⟨Nat.le_of_ble_eq_true rfl, Nat.le_of_ble_eq_true rfl⟩ ⟨by show (cells + 3) ≤ 601024; omega, by show (slots + 6 * 3) ≤ 7293034; omega⟩ rfl (Nat.le_of_ble_eq_true rfl) dL_law__2934 (mX12_thrown l rfl) ?_
    refine x_iload hE 1 dL_law__2937 rfl ?_
    refine x_icmp_eq hE 2944 dL_law__2939 (by decide) (A := some ()) (B := none) (r := ()) (if_pos ht) (fun _ => ?_) (fun h => by cases h)
    refine x_iload hE 1 dL_law__2944 rfl ?_
    refine x_if_ne hE 2961 dL_law__2946 (by decide) (A := some ()) (B := none) (r := ()) (if_neg he) (fun _ => ?_) (fun h => by cases h)
    refine x_goto hE 3277 dL_law__2961 (by decide) ?_
    refine x_pick [2, 3, 4, 5, 6] (L' := Lb σ b j) rfl ?_
    exact hK σ np (cells + 3) (slots + 6 * 3) R1 N hE hg (by omega) (by omega)
  · refine x_aload_n hE 1 dL_law__2872 rfl rfl ?_
    refine x_arg hE hX hb hj hn 1 (by decide) (by decide) 0 4 dL_law__2873 dL_law__2874 dL_law__2876 dL_law__2877 dL_law__2878 rfl rfl ?_
    refine x_arg hE hX hb hj hn 2 (by decide) (by decide) 0 4 dL_law__2879 dL_law__2880 dL_law__2882 dL_law__2883 dL_law__2884 rfl rfl ?_
    refine x_arg hE hX hb hj hn 3 (by decide) (by decide) 0 4 dL_law__2885 dL_law__2886 dL_law__2888 dL_law__2889 dL_law__2890 rfl rfl ?_
    refine x_arg hE hX hb hj hn 4 (by decide) (by decide) 0 4 dL_law__2891 dL_law__2892 dL_law__2894 dL_law__2895 dL_law__2896 rfl rfl ?_
    refine x_aload_n hE 3 dL_law__2897 rfl rfl ?_
    refine x_callSW hE [.ref (σ 0), .int (xs (j + 1)), .int (xs (j + 2)), .int (xs (j + 3)), .int (xs (j + 4)), .ref (σ 145)] (rest := []) (v := some (.int 0)) (c1 := C1) (d1 := (wrd N 145 0 b1.toInt64)) rfl yowL_tried ysL_tried lkw_294 ⟨Nat.le_of_ble_eq_true rfl, Nat.le_of_ble_eq_true rfl⟩ ⟨by show cells + 3 ≤ 601024; omega, by show slots + 6 * 3 ≤ 7293034; omega⟩ rfl (Nat.le_of_ble_eq_true rfl) dL_law__2898 (mL_tried l hfl hx) ?_
    refine x_istore hE (L' := [(5, .int 0), (0, .ref b), (1, .ref (σ 0)), (2, .ref (σ 127)), (3, .ref (σ 145)), (4, .int (nI j))]) dL_law__2901 (by decide) rfl ?_
    refine x_aload_n hE 3 dL_law__2903 rfl rfl ?_
    refine x_arg hE hX hb hj hn 1 (by decide) (by decide) 1 5 dL_law__2904 dL_law__2905 dL_law__2907 dL_law__2908 dL_law__2909 rfl rfl ?_
    refine x_arg hE hX hb hj hn 2 (by decide) (by decide) 1 5 dL_law__2910 dL_law__2911 dL_law__2913 dL_law__2914 dL_law__2915 rfl rfl ?_
    refine x_arg hE hX hb hj hn 3 (by decide) (by decide) 1 5 dL_law__2916 dL_law__2917 dL_law__2919 dL_law__2920 dL_law__2921 rfl rfl ?_
    refine x_arg hE hX hb hj hn 4 (by decide) (by decide) 1 5 dL_law__2922 dL_law__2923 dL_law__2925 dL_law__2926 dL_law__2927 rfl rfl ?_
    refine x_callV1 hE [.int (xs (j + 1)), .int (xs (j + 2)), .int (xs (j + 3)), .int (xs (j + 4))] (rest := []) (v := .int b1) (c1 := R1) (d1 := (wrd N 145 0 b1.toInt64)) rfl yokX12_tried yvX12_tried lkw_297 rfl cl_12 (hE.kd kO_12) (by decide) rfl rfl ⟨Nat.le_of_ble_eq_true rfl, Nat.le_of_ble_eq_true rfl⟩ ⟨by show (cells + 3) ≤ 601024; omega, by show (slots + 6 * 3) ≤ 7293034; omega⟩ rfl (Nat.le_of_ble_eq_true rfl) dL_law__2928 (mX12_tried l hy) ?_
    refine x_istore hE (L' := [(6, .int b1), (5, .int 0), (0, .ref b), (1, .ref (σ 0)), (2, .ref (σ 127)), (3, .ref (σ 145)), (4, .int (nI j))]) dL_law__2931 (by decide) rfl ?_
    refine x_aload_n hE 4 dL_law__2933 rfl rfl ?_
    refine x_callV1 hE [] (rest := []) (v := .int (R1 127 0)) (c1 := R1) (d1 := (wrd N 145 0 b1.toInt64)) rfl yokX12_thrown yvX12_thrown lkw_157 rfl cl_12 (hE.kd kO_12) (by decide) rfl rfl ⟨Nat.le_of_ble_eq_true rfl, Nat.le_of_ble_eq_true rfl⟩ ⟨by show (cells + 3) ≤ 601024; omega, by show (slots + 6 * 3) ≤ 7293034; omega⟩ rfl (Nat.le_of_ble_eq_true rfl) dL_law__2934 (mX12_thrown l rfl) ?_
    refine x_iload hE 1 dL_law__2937 rfl ?_
    refine x_icmp_eq hE 2944 dL_law__2939 (by decide) (A := some ()) (B := none) (r := ()) (if_pos ht) (fun _ => ?_) (fun h => by cases h)
    refine x_iload hE 1 dL_law__2944 rfl ?_
    refine x_if_ne hE 2961 dL_law__2946 (by decide) (A := none) (B := some ()) (r := ()) (if_pos rfl) (fun h => by cases h) (fun _ => ?_)
    refine x_aload_n hE 5 dL_law__2949 rfl rfl ?_
    refine x_iconst hE 0 dL_law__2950 (by decide) ?_
    refine x_lald hE (hE.kd kA_145) dL_law__2951 (B := some ()) (r := ()) (by decide) (fun _ => ?_)
    refine x_iload hE 0 dL_law__2952 rfl ?_
    refine x_i2l hE dL_law__2954 ?_
    refine x_lcmp hE dL_law__2955 ?_
    refine x_if_eq hE 2961 dL_law__2956 (by decide) (A := some ()) (B := none) (r := ()) (if_pos cmp_out) (fun _ => ?_) (fun h => by cases h)
    refine x_goto hE 3277 dL_law__2961 (by decide) ?_
    refine x_pick [2, 3, 4, 5, 6] (L' := Lb σ b j) rfl ?_
    exact hK σ np (cells + 3) (slots + 6 * 3) R1 (wrd N 145 0 b1.toInt64) hE (gi_w hg) (by omega) (by omega)
theorem wL_c43 {p : Program} {l : Launch} {e : Env} {s : State} {m : MethodId} {args : Array Value} {below : List Frame} {meth : Method} {c : Code} {Y : Nat → ClassId} {D : va_G} {σ : Nat → Nat} {np b0 cells slots : Nat} {Q : State → Prop} {M : Mc} {N : Md} {b nX j : Nat} {xs : Nat → Int32} (hfl : l.stackTraces = false) (hE : EOK p s m args meth c cL_law_ 7 "SettlerColonyLaw" Y D σ np b0) (hX : va_X b nX xs s s.heap) (hb : b < b0) (hj : j + 6 ≤ nX) (hn : nX ≤ 3072) (hG : GI np M N) (hc : cells ≤ 600000) (hs : slots ≤ 7000000) (hK : LK p l e s m args below meth c Y D b0 cells slots Q b j) : Xw p l e room_1 s m args below meth c 7 Y D σ np b0 cells slots Q 2964 (Lb σ b j) [] M N := by
  unfold Lb
  obtain ⟨x1, hx, hq⟩ := st_S (e := eA) (y := fun R => fX12_prices R (xs (j + 1)) (xs (j + 2)) (xs (j + 3))) hG (fun n t m R h => c_prices h (xs (j + 1)) (xs (j + 2)) (xs (j + 3))) (hA_fX11_prices ka_rf)
  rcases hq with ⟨k, R1, rfl, he, hy, ht, hg⟩ | ⟨C1, R1, rfl, hy, ht, hg⟩
  · refine x_aload_n hE 1 dL_law__2964 rfl rfl ?_
    refine x_arg hE hX hb hj hn 1 (by decide) (by decide) 0 4 dL_law__2965 dL_law__2966 dL_law__2968 dL_law__2969 dL_law__2970 rfl rfl ?_
    refine x_arg hE hX hb hj hn 2 (by decide) (by decide) 0 4 dL_law__2971 dL_law__2972 dL_law__2974 dL_law__2975 dL_law__2976 rfl rfl ?_
    refine x_arg hE hX hb hj hn 3 (by decide) (by decide) 0 4 dL_law__2977 dL_law__2978 dL_law__2980 dL_law__2981 dL_law__2982 rfl rfl ?_
    refine x_callSW hE [.ref (σ 0), .int (xs (j + 1)), .int (xs (j + 2)), .int (xs (j + 3))] (rest := []) (v := some (.int (eA k))) (c1 := M) (d1 := N) rfl yowL_prices ysL_prices lkw_298 ⟨Nat.le_of_ble_eq_true rfl, Nat.le_of_ble_eq_true rfl⟩ ⟨by show cells + 1 ≤ 601024; omega, by show slots + 6 * 1 ≤ 7293034; omega⟩ rfl (Nat.le_of_ble_eq_true rfl) dL_law__2983 (mL_prices l hfl hx) ?_
    refine x_istore hE (L' := [(5, .int (eA k)), (0, .ref b), (1, .ref (σ 0)), (2, .ref (σ 127)), (3, .ref (σ 145)), (4, .int (nI j))]) dL_law__2986 (by decide) rfl ?_
    refine x_aload_n hE 3 dL_law__2988 rfl rfl ?_
    refine x_arg hE hX hb hj hn 1 (by decide) (by decide) 1 5 dL_law__2989 dL_law__2990 dL_law__2992 dL_law__2993 dL_law__2994 rfl rfl ?_
    refine x_arg hE hX hb hj hn 2 (by decide) (by decide) 1 5 dL_law__2995 dL_law__2996 dL_law__2998 dL_law__2999 dL_law__3000 rfl rfl ?_
    refine x_arg hE hX hb hj hn 3 (by decide) (by decide) 1 5 dL_law__3001 dL_law__3002 dL_law__3004 dL_law__3005 dL_law__3006 rfl rfl ?_
    refine x_callV0 hE [.int (xs (j + 1)), .int (xs (j + 2)), .int (xs (j + 3))] (rest := []) (c1 := R1) (d1 := N) rfl yokX12_prices yvX12_prices lkw_301 rfl cl_12 (hE.kd kO_12) (by decide) rfl rfl ⟨Nat.le_of_ble_eq_true rfl, Nat.le_of_ble_eq_true rfl⟩ ⟨by show (cells + 1) ≤ 601024; omega, by show (slots + 6 * 1) ≤ 7293034; omega⟩ rfl (Nat.le_of_ble_eq_true rfl) dL_law__3007 (mX12_prices l hy) ?_
    refine x_aload_n hE 3 dL_law__3010 rfl rfl ?_
    refine x_callV1 hE [] (rest := []) (v := .int (R1 127 0)) (c1 := R1) (d1 := N) rfl yokX12_thrown yvX12_thrown lkw_157 rfl cl_12 (hE.kd kO_12) (by decide) rfl rfl ⟨Nat.le_of_ble_eq_true rfl, Nat.le_of_ble_eq_true rfl⟩ ⟨by show (cells + 1) ≤ 601024; omega, by show (slots + 6 * 1) ≤ 7293034; omega⟩ rfl (Nat.le_of_ble_eq_true rfl) dL_law__3011 (mX12_thrown l rfl) ?_
    refine x_iload hE 0 dL_law__3014 rfl ?_
    refine x_icmp_eq hE 3021 dL_law__3016 (by decide) (A := some ()) (B := none) (r := ()) (if_pos ht) (fun _ => ?_) (fun h => by cases h)
    refine x_goto hE 3277 dL_law__3021 (by decide) ?_
    refine x_pick [1, 2, 3, 4, 5] (L' := Lb σ b j) rfl ?_
    exact hK σ np (cells + 1) (slots + 6 * 1) R1 N hE hg (by omega) (by omega)
  · refine x_aload_n hE 1 dL_law__2964 rfl rfl ?_
    refine x_arg hE hX hb hj hn 1 (by decide) (by decide) 0 4 dL_law__2965 dL_law__2966 dL_law__2968 dL_law__2969 dL_law__2970 rfl rfl ?_
    refine x_arg hE hX hb hj hn 2 (by decide) (by decide) 0 4 dL_law__2971 dL_law__2972 dL_law__2974 dL_law__2975 dL_law__2976 rfl rfl ?_
    refine x_arg hE hX hb hj hn 3 (by decide) (by decide) 0 4 dL_law__2977 dL_law__2978 dL_law__2980 dL_law__2981 dL_law__2982 rfl rfl ?_
    refine x_callSW hE [.ref (σ 0), .int (xs (j + 1)), .int (xs (j + 2)), .int (xs (j + 3))] (rest := []) (v := some (.int 0)) (c1 := C1) (d1 := N) rfl yowL_prices ysL_prices lkw_298 ⟨Nat.le_of_ble_eq_true rfl, Nat.le_of_ble_eq_true rfl⟩ ⟨by show cells + 1 ≤ 601024; omega, by show slots + 6 * 1 ≤ 7293034; omega⟩ rfl (Nat.le_of_ble_eq_true rfl) dL_law__2983 (mL_prices l hfl hx) ?_
    refine x_istore hE (L' := [(5, .int 0), (0, .ref b), (1, .ref (σ 0)), (2, .ref (σ 127)), (3, .ref (σ 145)), (4, .int (nI j))]) dL_law__2986 (by decide) rfl ?_
    refine x_aload_n hE 3 dL_law__2988 rfl rfl ?_
    refine x_arg hE hX hb hj hn 1 (by decide) (by decide) 1 5 dL_law__2989 dL_law__2990 dL_law__2992 dL_law__2993 dL_law__2994 rfl rfl ?_
    refine x_arg hE hX hb hj hn 2 (by decide) (by decide) 1 5 dL_law__2995 dL_law__2996 dL_law__2998 dL_law__2999 dL_law__3000 rfl rfl ?_
    refine x_arg hE hX hb hj hn 3 (by decide) (by decide) 1 5 dL_law__3001 dL_law__3002 dL_law__3004 dL_law__3005 dL_law__3006 rfl rfl ?_
    refine x_callV0 hE [.int (xs (j + 1)), .int (xs (j + 2)), .int (xs (j + 3))] (rest := []) (c1 := R1) (d1 := N) rfl yokX12_prices yvX12_prices lkw_301 rfl cl_12 (hE.kd kO_12) (by decide) rfl rfl ⟨Nat.le_of_ble_eq_true rfl, Nat.le_of_ble_eq_true rfl⟩ ⟨by show (cells + 1) ≤ 601024; omega, by show (slots + 6 * 1) ≤ 7293034; omega⟩ rfl (Nat.le_of_ble_eq_true rfl) dL_law__3007 (mX12_prices l hy) ?_
    refine x_aload_n hE 3 dL_law__3010 rfl rfl ?_
    refine x_callV1 hE [] (rest := []) (v := .int (R1 127 0)) (c1 := R1) (d1 := N) rfl yokX12_thrown yvX12_thrown lkw_157 rfl cl_12 (hE.kd kO_12) (by decide) rfl rfl ⟨Nat.le_of_ble_eq_true rfl, Nat.le_of_ble_eq_true rfl⟩ ⟨by show (cells + 1) ≤ 601024; omega, by show (slots + 6 * 1) ≤ 7293034; omega⟩ rfl (Nat.le_of_ble_eq_true rfl) dL_law__3011 (mX12_thrown l rfl) ?_
    refine x_iload hE 0 dL_law__3014 rfl ?_
    refine x_icmp_eq hE 3021 dL_law__3016 (by decide) (A := some ()) (B := none) (r := ()) (if_pos ht) (fun _ => ?_) (fun h => by cases h)
    refine x_goto hE 3277 dL_law__3021 (by decide) ?_
    refine x_pick [1, 2, 3, 4, 5] (L' := Lb σ b j) rfl ?_
    exact hK σ np (cells + 1) (slots + 6 * 1) R1 N hE hg (by omega) (by omega)
theorem wL_c44 {p : Program} {l : Launch} {e : Env} {s : State} {m : MethodId} {args : Array Value} {below : List Frame} {meth : Method} {c : Code} {Y : Nat → ClassId} {D : va_G} {σ : Nat → Nat} {np b0 cells slots : Nat} {Q : State → Prop} {M : Mc} {N : Md} {b nX j : Nat} {xs : Nat → Int32} (hfl : l.stackTraces = false) (hE : EOK p s m args meth c cL_law_ 7 "SettlerColonyLaw" Y D σ np b0) (hX : va_X b nX xs s s.heap) (hb : b < b0) (hj : j + 6 ≤ nX) (hn : nX ≤ 3072) (hG : GI np M N) (hc : cells ≤ 600000) (hs : slots ≤ 7000000) (hK : LK p l e s m args below meth c Y D b0 cells slots Q b j) : Xw p l e room_1 s m args below meth c 7 Y D σ np b0 cells slots Q 3024 (Lb σ b j) [] M N := by
  unfold Lb
  obtain ⟨x1, hx, hq⟩ := st_S (e := eA) (y := fun R => fX12_worst R (xs (j + 1)) (xs (j + 2)) (xs (j + 3)) (xs (j + 4))) hG (fun n t m R h => c_worst h (xs (j + 1)) (xs (j + 2)) (xs (j + 3)) (xs (j + 4))) (hA_fX11_worst ka_rf)
  rcases hq with ⟨k, R1, rfl, he, hy, ht, hg⟩ | ⟨C1, R1, rfl, hy, ht, hg⟩
  · refine x_aload_n hE 1 dL_law__3024 rfl rfl ?_
    refine x_arg hE hX hb hj hn 1 (by decide) (by decide) 0 4 dL_law__3025 dL_law__3026 dL_law__3028 dL_law__3029 dL_law__3030 rfl rfl ?_
    refine x_arg hE hX hb hj hn 2 (by decide) (by decide) 0 4 dL_law__3031 dL_law__3032 dL_law__3034 dL_law__3035 dL_law__3036 rfl rfl ?_
    refine x_arg hE hX hb hj hn 3 (by decide) (by decide) 0 4 dL_law__3037 dL_law__3038 dL_law__3040 dL_law__3041 dL_law__3042 rfl rfl ?_
    refine x_arg hE hX hb hj hn 4 (by decide) (by decide) 0 4 dL_law__3043 dL_law__3044 dL_law__3046 dL_law__3047 dL_law__3048 rfl rfl ?_
    refine x_callSW hE [.ref (σ 0), .int (xs (j + 1)), .int (xs (j + 2)), .int (xs (j + 3)), .int (xs (j + 4))] (rest := []) (v := some (.int (eA k))) (c1 := M) (d1 := N) rfl yowL_worst ysL_worst lkw_302 ⟨Nat.le_of_ble_eq_true rfl, Nat.le_of_ble_eq_true rfl⟩ ⟨by show cells + 1 ≤ 601024; omega, by show slots + 6 * 1 ≤ 7293034; omega⟩ rfl (Nat.le_of_ble_eq_true rfl) dL_law__3049 (mL_worst l hfl hx) ?_
    refine x_istore hE (L' := [(5, .int (eA k)), (0, .ref b), (1, .ref (σ 0)), (2, .ref (σ 127)), (3, .ref (σ 145)), (4, .int (nI j))]) dL_law__3052 (by decide) rfl ?_
    refine x_aload_n hE 3 dL_law__3054 rfl rfl ?_
    refine x_arg hE hX hb hj hn 1 (by decide) (by decide) 1 5 dL_law__3055 dL_law__3056 dL_law__3058 dL_law__3059 dL_law__3060 rfl rfl ?_
    refine x_arg hE hX hb hj hn 2 (by decide) (by decide) 1 5 dL_law__3061 dL_law__3062 dL_law__3064 dL_law__3065 dL_law__3066 rfl rfl ?_
    refine x_arg hE hX hb hj hn 3 (by decide) (by decide) 1 5 dL_law__3067 dL_law__3068 dL_law__3070 dL_law__3071 dL_law__3072 rfl rfl ?_
    refine x_arg hE hX hb hj hn 4 (by decide) (by decide) 1 5 dL_law__3073 dL_law__3074 dL_law__3076 dL_law__3077 dL_law__3078 rfl rfl ?_
    refine x_callV0 hE [.int (xs (j + 1)), .int (xs (j + 2)), .int (xs (j + 3)), .int (xs (j + 4))] (rest := []) (c1 := R1) (d1 := N) rfl yokX12_worst yvX12_worst lkw_305 rfl cl_12 (hE.kd kO_12) (by decide) rfl rfl ⟨Nat.le_of_ble_eq_true rfl, Nat.le_of_ble_eq_true rfl⟩ ⟨by show (cells + 1) ≤ 601024; omega, by show (slots + 6 * 1) ≤ 7293034; omega⟩ rfl (Nat.le_of_ble_eq_true rfl) dL_law__3079 (mX12_worst l hy) ?_
    refine x_aload_n hE 3 dL_law__3082 rfl rfl ?_
    refine x_callV1 hE [] (rest := []) (v := .int (R1 127 0)) (c1 := R1) (d1 := N) rfl yokX12_thrown yvX12_thrown lkw_157 rfl cl_12 (hE.kd kO_12) (by decide) rfl rfl ⟨Nat.le_of_ble_eq_true rfl, Nat.le_of_ble_eq_true rfl⟩ ⟨by show (cells + 1) ≤ 601024; omega, by show (slots + 6 * 1) ≤ 7293034; omega⟩ rfl (Nat.le_of_ble_eq_true rfl) dL_law__3083 (mX12_thrown l rfl) ?_
    refine x_iload hE 0 dL_law__3086 rfl ?_
    refine x_icmp_eq hE 3093 dL_law__3088 (by decide) (A := some ()) (B := none) (r := ()) (if_pos ht) (fun _ => ?_) (fun h => by cases h)
    refine x_goto hE 3277 dL_law__3093 (by decide) ?_
    refine x_pick [1, 2, 3, 4, 5] (L' := Lb σ b j) rfl ?_
    exact hK σ np (cells + 1) (slots + 6 * 1) R1 N hE hg (by omega) (by omega)
  · refine x_aload_n hE 1 dL_law__3024 rfl rfl ?_
    refine x_arg hE hX hb hj hn 1 (by decide) (by decide) 0 4 dL_law__3025 dL_law__3026 dL_law__3028 dL_law__3029 dL_law__3030 rfl rfl ?_
    refine x_arg hE hX hb hj hn 2 (by decide) (by decide) 0 4 dL_law__3031 dL_law__3032 dL_law__3034 dL_law__3035 dL_law__3036 rfl rfl ?_
    refine x_arg hE hX hb hj hn 3 (by decide) (by decide) 0 4 dL_law__3037 dL_law__3038 dL_law__3040 dL_law__3041 dL_law__3042 rfl rfl ?_
    refine x_arg hE hX hb hj hn 4 (by decide) (by decide) 0 4 dL_law__3043 dL_law__3044 dL_law__3046 dL_law__3047 dL_law__3048 rfl rfl ?_
    refine x_callSW hE [.ref (σ 0), .int (xs (j + 1)), .int (xs (j + 2)), .int (xs (j + 3)), .int (xs (j + 4))] (rest := []) (v := some (.int 0)) (c1 := C1) (d1 := N) rfl yowL_worst ysL_worst lkw_302 ⟨Nat.le_of_ble_eq_true rfl, Nat.le_of_ble_eq_true rfl⟩ ⟨by show cells + 1 ≤ 601024; omega, by show slots + 6 * 1 ≤ 7293034; omega⟩ rfl (Nat.le_of_ble_eq_true rfl) dL_law__3049 (mL_worst l hfl hx) ?_
    refine x_istore hE (L' := [(5, .int 0), (0, .ref b), (1, .ref (σ 0)), (2, .ref (σ 127)), (3, .ref (σ 145)), (4, .int (nI j))]) dL_law__3052 (by decide) rfl ?_
    refine x_aload_n hE 3 dL_law__3054 rfl rfl ?_
    refine x_arg hE hX hb hj hn 1 (by decide) (by decide) 1 5 dL_law__3055 dL_law__3056 dL_law__3058 dL_law__3059 dL_law__3060 rfl rfl ?_
    refine x_arg hE hX hb hj hn 2 (by decide) (by decide) 1 5 dL_law__3061 dL_law__3062 dL_law__3064 dL_law__3065 dL_law__3066 rfl rfl ?_
    refine x_arg hE hX hb hj hn 3 (by decide) (by decide) 1 5 dL_law__3067 dL_law__3068 dL_law__3070 dL_law__3071 dL_law__3072 rfl rfl ?_
    refine x_arg hE hX hb hj hn 4 (by decide) (by decide) 1 5 dL_law__3073 dL_law__3074 dL_law__3076 dL_law__3077 dL_law__3078 rfl rfl ?_
    refine x_callV0 hE [.int (xs (j + 1)), .int (xs (j + 2)), .int (xs (j + 3)), .int (xs (j + 4))] (rest := []) (c1 := R1) (d1 := N) rfl yokX12_worst yvX12_worst lkw_305 rfl cl_12 (hE.kd kO_12) (by decide) rfl rfl ⟨Nat.le_of_ble_eq_true rfl, Nat.le_of_ble_eq_true rfl⟩ ⟨by show (cells + 1) ≤ 601024; omega, by show (slots + 6 * 1) ≤ 7293034; omega⟩ rfl (Nat.le_of_ble_eq_true rfl) dL_law__3079 (mX12_worst l hy) ?_
    refine x_aload_n hE 3 dL_law__3082 rfl rfl ?_
    refine x_callV1 hE [] (rest := []) (v := .int (R1 127 0)) (c1 := R1) (d1 := N) rfl yokX12_thrown yvX12_thrown lkw_157 rfl cl_12 (hE.kd kO_12) (by decide) rfl rfl ⟨Nat.le_of_ble_eq_true rfl, Nat.le_of_ble_eq_true rfl⟩ ⟨by show (cells + 1) ≤ 601024; omega, by show (slots + 6 * 1) ≤ 7293034; omega⟩ rfl (Nat.le_of_ble_eq_true rfl) dL_law__3083 (mX12_thrown l rfl) ?_
    refine x_iload hE 0 dL_law__3086 rfl ?_
    refine x_icmp_eq hE 3093 dL_law__3088 (by decide) (A := some ()) (B := none) (r := ()) (if_pos ht) (fun _ => ?_) (fun h => by cases h)
    refine x_goto hE 3277 dL_law__3093 (by decide) ?_
    refine x_pick [1, 2, 3, 4, 5] (L' := Lb σ b j) rfl ?_
    exact hK σ np (cells + 1) (slots + 6 * 1) R1 N hE hg (by omega) (by omega)
