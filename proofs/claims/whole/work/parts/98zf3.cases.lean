theorem wL_c18 {p : Program} {l : Launch} {e : Env} {s : State} {m : MethodId} {args : Array Value} {below : List Frame} {meth : Method} {c : Code} {Y : Nat → ClassId} {D : va_G} {σ : Nat → Nat} {np b0 cells slots : Nat} {Q : State → Prop} {M : Mc} {N : Md} {b nX j : Nat} {xs : Nat → Int32} (hfl : l.stackTraces = false) (hE : EOK p s m args meth c cL_law_ 7 "SettlerColonyLaw" Y D σ np b0) (hX : va_X b nX xs s s.heap) (hb : b < b0) (hj : j + 6 ≤ nX) (hn : nX ≤ 3072) (hG : GI np M N) (hc : cells ≤ 600000) (hs : slots ≤ 7000000) (hK : LK p l e s m args below meth c Y D b0 cells slots Q b j) : Xw p l e room_1 s m args below meth c 7 Y D σ np b0 cells slots Q 1459 (Lb σ b j) [] M N := by
  unfold Lb
  obtain ⟨x1, hx, hq⟩ := st_M (e := eB) (y := fun R => fX12_order R (xs (j + 1))) hG (fun n t m R h _ => c_order h (xs (j + 1))) (hA_fX11_order ka_rf)
  rcases hq with ⟨k, b1, R1, rfl, he, hy, ht, hg⟩ | ⟨b1, C1, R1, rfl, hy, ht, hg⟩
  · refine x_aload_n hE 1 dL_law__1459 rfl rfl ?_
    refine x_arg hE hX hb hj hn 1 (by decide) (by decide) 0 4 dL_law__1460 dL_law__1461 dL_law__1463 dL_law__1464 dL_law__1465 rfl rfl ?_
    refine x_aload_n hE 3 dL_law__1466 rfl rfl ?_
    refine x_callSW hE [.ref (σ 0), .int (xs (j + 1)), .ref (σ 145)] (rest := []) (v := some (.int (eB k))) (c1 := M) (d1 := N) rfl yowL_order ysL_order lkw_215 ⟨Nat.le_of_ble_eq_true rfl, Nat.le_of_ble_eq_true rfl⟩ ⟨by show cells + 1 ≤ 601024; omega, by show slots + 6 * 1 ≤ 7293034; omega⟩ rfl (Nat.le_of_ble_eq_true rfl) dL_law__1467 (mL_order l hfl hx) ?_
    refine x_istore hE (L' := [(5, .int (eB k)), (0, .ref b), (1, .ref (σ 0)), (2, .ref (σ 127)), (3, .ref (σ 145)), (4, .int (nI j))]) dL_law__1470 (by decide) rfl ?_
    refine x_aload_n hE 3 dL_law__1472 rfl rfl ?_
    refine x_arg hE hX hb hj hn 1 (by decide) (by decide) 1 5 dL_law__1473 dL_law__1474 dL_law__1476 dL_law__1477 dL_law__1478 rfl rfl ?_
    refine x_callV1 hE [.int (xs (j + 1))] (rest := []) (v := .int b1) (c1 := R1) (d1 := N) rfl yokX12_order yvX12_order lkw_217 rfl cl_12 (hE.kd kO_12) (by decide) rfl rfl ⟨Nat.le_of_ble_eq_true rfl, Nat.le_of_ble_eq_true rfl⟩ ⟨by show (cells + 1) ≤ 601024; omega, by show (slots + 6 * 1) ≤ 7293034; omega⟩ rfl (Nat.le_of_ble_eq_true rfl) dL_law__1479 (mX12_order l hy) ?_
    refine x_istore hE (L' := [(6, .int b1), (5, .int (eB k)), (0, .ref b), (1, .ref (σ 0)), (2, .ref (σ 127)), (3, .ref (σ 145)), (4, .int (nI j))]) dL_law__1482 (by decide) rfl ?_
    refine x_aload_n hE 4 dL_law__1484 rfl rfl ?_
    refine x_callV1 hE [] (rest := []) (v := .int (R1 127 0)) (c1 := R1) (d1 := N) rfl yokX12_thrown yvX12_thrown lkw_157 rfl cl_12 (hE.kd kO_12) (by decide) rfl rfl ⟨Nat.le_of_ble_eq_true rfl, Nat.le_of_ble_eq_true rfl⟩ ⟨by show (cells + 1) ≤ 601024; omega, by show (slots + 6 * 1) ≤ 7293034; omega⟩ rfl (Nat.le_of_ble_eq_true rfl) dL_law__1485 (mX12_thrown l rfl) ?_
    refine x_iload hE 1 dL_law__1488 rfl ?_
    refine x_icmp_eq hE 1495 dL_law__1490 (by decide) (A := some ()) (B := none) (r := ()) (if_pos ht) (fun _ => ?_) (fun h => by cases h)
    refine x_iload hE 1 dL_law__1495 rfl ?_
    refine x_if_ne hE 1512 dL_law__1497 (by decide) (A := some ()) (B := none) (r := ()) (if_neg he) (fun _ => ?_) (fun h => by cases h)
    refine x_goto hE 3277 dL_law__1512 (by decide) ?_
    refine x_pick [2, 3, 4, 5, 6] (L' := Lb σ b j) rfl ?_
    exact hK σ np (cells + 1) (slots + 6 * 1) R1 N hE hg (by omega) (by omega)
  · refine x_aload_n hE 1 dL_law__1459 rfl rfl ?_
    refine x_arg hE hX hb hj hn 1 (by decide) (by decide) 0 4 dL_law__1460 dL_law__1461 dL_law__1463 dL_law__1464 dL_law__1465 rfl rfl ?_
    refine x_aload_n hE 3 dL_law__1466 rfl rfl ?_
    refine x_callSW hE [.ref (σ 0), .int (xs (j + 1)), .ref (σ 145)] (rest := []) (v := some (.int 0)) (c1 := C1) (d1 := (wrd N 145 0 b1.toInt64)) rfl yowL_order ysL_order lkw_215 ⟨Nat.le_of_ble_eq_true rfl, Nat.le_of_ble_eq_true rfl⟩ ⟨by show cells + 1 ≤ 601024; omega, by show slots + 6 * 1 ≤ 7293034; omega⟩ rfl (Nat.le_of_ble_eq_true rfl) dL_law__1467 (mL_order l hfl hx) ?_
    refine x_istore hE (L' := [(5, .int 0), (0, .ref b), (1, .ref (σ 0)), (2, .ref (σ 127)), (3, .ref (σ 145)), (4, .int (nI j))]) dL_law__1470 (by decide) rfl ?_
    refine x_aload_n hE 3 dL_law__1472 rfl rfl ?_
    refine x_arg hE hX hb hj hn 1 (by decide) (by decide) 1 5 dL_law__1473 dL_law__1474 dL_law__1476 dL_law__1477 dL_law__1478 rfl rfl ?_
    refine x_callV1 hE [.int (xs (j + 1))] (rest := []) (v := .int b1) (c1 := R1) (d1 := (wrd N 145 0 b1.toInt64)) rfl yokX12_order yvX12_order lkw_217 rfl cl_12 (hE.kd kO_12) (by decide) rfl rfl ⟨Nat.le_of_ble_eq_true rfl, Nat.le_of_ble_eq_true rfl⟩ ⟨by show (cells + 1) ≤ 601024; omega, by show (slots + 6 * 1) ≤ 7293034; omega⟩ rfl (Nat.le_of_ble_eq_true rfl) dL_law__1479 (mX12_order l hy) ?_
    refine x_istore hE (L' := [(6, .int b1), (5, .int 0), (0, .ref b), (1, .ref (σ 0)), (2, .ref (σ 127)), (3, .ref (σ 145)), (4, .int (nI j))]) dL_law__1482 (by decide) rfl ?_
    refine x_aload_n hE 4 dL_law__1484 rfl rfl ?_
    refine x_callV1 hE [] (rest := []) (v := .int (R1 127 0)) (c1 := R1) (d1 := (wrd N 145 0 b1.toInt64)) rfl yokX12_thrown yvX12_thrown lkw_157 rfl cl_12 (hE.kd kO_12) (by decide) rfl rfl ⟨Nat.le_of_ble_eq_true rfl, Nat.le_of_ble_eq_true rfl⟩ ⟨by show (cells + 1) ≤ 601024; omega, by show (slots + 6 * 1) ≤ 7293034; omega⟩ rfl (Nat.le_of_ble_eq_true rfl) dL_law__1485 (mX12_thrown l rfl) ?_
    refine x_iload hE 1 dL_law__1488 rfl ?_
    refine x_icmp_eq hE 1495 dL_law__1490 (by decide) (A := some ()) (B := none) (r := ()) (if_pos ht) (fun _ => ?_) (fun h => by cases h)
    refine x_iload hE 1 dL_law__1495 rfl ?_
    refine x_if_ne hE 1512 dL_law__1497 (by decide) (A := none) (B := some ()) (r := ()) (if_pos rfl) (fun h => by cases h) (fun _ => ?_)
    refine x_aload_n hE 5 dL_law__1500 rfl rfl ?_
    refine x_iconst hE 0 dL_law__1501 (by decide) ?_
    refine x_lald hE (hE.kd kA_145) dL_law__1502 (B := some ()) (r := ()) (by decide) (fun _ => ?_)
    refine x_iload hE 0 dL_law__1503 rfl ?_
    refine x_i2l hE dL_law__1505 ?_
    refine x_lcmp hE dL_law__1506 ?_
    refine x_if_eq hE 1512 dL_law__1507 (by decide) (A := some ()) (B := none) (r := ()) (if_pos cmp_out) (fun _ => ?_) (fun h => by cases h)
    refine x_goto hE 3277 dL_law__1512 (by decide) ?_
    refine x_pick [2, 3, 4, 5, 6] (L' := Lb σ b j) rfl ?_
    exact hK σ np (cells + 1) (slots + 6 * 1) R1 (wrd N 145 0 b1.toInt64) hE (gi_w hg) (by omega) (by omega)
theorem wL_c19 {p : Program} {l : Launch} {e : Env} {s : State} {m : MethodId} {args : Array Value} {below : List Frame} {meth : Method} {c : Code} {Y : Nat → ClassId} {D : va_G} {σ : Nat → Nat} {np b0 cells slots : Nat} {Q : State → Prop} {M : Mc} {N : Md} {b nX j : Nat} {xs : Nat → Int32} (hfl : l.stackTraces = false) (hE : EOK p s m args meth c cL_law_ 7 "SettlerColonyLaw" Y D σ np b0) (hX : va_X b nX xs s s.heap) (hb : b < b0) (hj : j + 6 ≤ nX) (hn : nX ≤ 3072) (hG : GI np M N) (hc : cells ≤ 600000) (hs : slots ≤ 7000000) (hK : LK p l e s m args below meth c Y D b0 cells slots Q b j) : Xw p l e room_1 s m args below meth c 7 Y D σ np b0 cells slots Q 1515 (Lb σ b j) [] M N := by
  unfold Lb
  obtain ⟨x1, hx, hq⟩ := st_M (e := eB) (y := fun R => fX12_choose R (xs (j + 1)) (xs (j + 2))) hG (fun n t m R h _ => c_choose h (xs (j + 1)) (xs (j + 2))) (hA_fX11_choose ka_rf)
  rcases hq with ⟨k, b1, R1, rfl, he, hy, ht, hg⟩ | ⟨b1, C1, R1, rfl, hy, ht, hg⟩
  · refine x_aload_n hE 1 dL_law__1515 rfl rfl ?_
    refine x_arg hE hX hb hj hn 1 (by decide) (by decide) 0 4 dL_law__1516 dL_law__1517 dL_law__1519 dL_law__1520 dL_law__1521 rfl rfl ?_
    refine x_arg hE hX hb hj hn 2 (by decide) (by decide) 0 4 dL_law__1522 dL_law__1523 dL_law__1525 dL_law__1526 dL_law__1527 rfl rfl ?_
    refine x_aload_n hE 3 dL_law__1528 rfl rfl ?_
    refine x_callSW hE [.ref (σ 0), .int (xs (j + 1)), .int (xs (j + 2)), .ref (σ 145)] (rest := []) (v := some (.int (eB k))) (c1 := M) (d1 := N) rfl yowL_choose ysL_choose lkw_218 ⟨Nat.le_of_ble_eq_true rfl, Nat.le_of_ble_eq_true rfl⟩ ⟨by show cells + 2 ≤ 601024; omega, by show slots + 6 * 2 ≤ 7293034; omega⟩ rfl (Nat.le_of_ble_eq_true rfl) dL_law__1529 (mL_choose l hfl hx) ?_
    refine x_istore hE (L' := [(5, .int (eB k)), (0, .ref b), (1, .ref (σ 0)), (2, .ref (σ 127)), (3, .ref (σ 145)), (4, .int (nI j))]) dL_law__1532 (by decide) rfl ?_
    refine x_aload_n hE 3 dL_law__1534 rfl rfl ?_
    refine x_arg hE hX hb hj hn 1 (by decide) (by decide) 1 5 dL_law__1535 dL_law__1536 dL_law__1538 dL_law__1539 dL_law__1540 rfl rfl ?_
    refine x_arg hE hX hb hj hn 2 (by decide) (by decide) 1 5 dL_law__1541 dL_law__1542 dL_law__1544 dL_law__1545 dL_law__1546 rfl rfl ?_
    refine x_callV1 hE [.int (xs (j + 1)), .int (xs (j + 2))] (rest := []) (v := .int b1) (c1 := R1) (d1 := N) rfl yokX12_choose yvX12_choose lkw_220 rfl cl_12 (hE.kd kO_12) (by decide) rfl rfl ⟨Nat.le_of_ble_eq_true rfl, Nat.le_of_ble_eq_true rfl⟩ ⟨by show (cells + 2) ≤ 601024; omega, by show (slots + 6 * 2) ≤ 7293034; omega⟩ rfl (Nat.le_of_ble_eq_true rfl) dL_law__1547 (mX12_choose l hy) ?_
    refine x_istore hE (L' := [(6, .int b1), (5, .int (eB k)), (0, .ref b), (1, .ref (σ 0)), (2, .ref (σ 127)), (3, .ref (σ 145)), (4, .int (nI j))]) dL_law__1550 (by decide) rfl ?_
    refine x_aload_n hE 4 dL_law__1552 rfl rfl ?_
    refine x_callV1 hE [] (rest := []) (v := .int (R1 127 0)) (c1 := R1) (d1 := N) rfl yokX12_thrown yvX12_thrown lkw_157 rfl cl_12 (hE.kd kO_12) (by decide) rfl rfl ⟨Nat.le_of_ble_eq_true rfl, Nat.le_of_ble_eq_true rfl⟩ ⟨by show (cells + 2) ≤ 601024; omega, by show (slots + 6 * 2) ≤ 7293034; omega⟩ rfl (Nat.le_of_ble_eq_true rfl) dL_law__1553 (mX12_thrown l rfl) ?_
    refine x_iload hE 1 dL_law__1556 rfl ?_
    refine x_icmp_eq hE 1563 dL_law__1558 (by decide) (A := some ()) (B := none) (r := ()) (if_pos ht) (fun _ => ?_) (fun h => by cases h)
    refine x_iload hE 1 dL_law__1563 rfl ?_
    refine x_if_ne hE 1580 dL_law__1565 (by decide) (A := some ()) (B := none) (r := ()) (if_neg he) (fun _ => ?_) (fun h => by cases h)
    refine x_goto hE 3277 dL_law__1580 (by decide) ?_
    refine x_pick [2, 3, 4, 5, 6] (L' := Lb σ b j) rfl ?_
    exact hK σ np (cells + 2) (slots + 6 * 2) R1 N hE hg (by omega) (by omega)
  · refine x_aload_n hE 1 dL_law__1515 rfl rfl ?_
    refine x_arg hE hX hb hj hn 1 (by decide) (by decide) 0 4 dL_law__1516 dL_law__1517 dL_law__1519 dL_law__1520 dL_law__1521 rfl rfl ?_
    refine x_arg hE hX hb hj hn 2 (by decide) (by decide) 0 4 dL_law__1522 dL_law__1523 dL_law__1525 dL_law__1526 dL_law__1527 rfl rfl ?_
    refine x_aload_n hE 3 dL_law__1528 rfl rfl ?_
    refine x_callSW hE [.ref (σ 0), .int (xs (j + 1)), .int (xs (j + 2)), .ref (σ 145)] (rest := []) (v := some (.int 0)) (c1 := C1) (d1 := (wrd N 145 0 b1.toInt64)) rfl yowL_choose ysL_choose lkw_218 ⟨Nat.le_of_ble_eq_true rfl, Nat.le_of_ble_eq_true rfl⟩ ⟨by show cells + 2 ≤ 601024; omega, by show slots + 6 * 2 ≤ 7293034; omega⟩ rfl (Nat.le_of_ble_eq_true rfl) dL_law__1529 (mL_choose l hfl hx) ?_
    refine x_istore hE (L' := [(5, .int 0), (0, .ref b), (1, .ref (σ 0)), (2, .ref (σ 127)), (3, .ref (σ 145)), (4, .int (nI j))]) dL_law__1532 (by decide) rfl ?_
    refine x_aload_n hE 3 dL_law__1534 rfl rfl ?_
    refine x_arg hE hX hb hj hn 1 (by decide) (by decide) 1 5 dL_law__1535 dL_law__1536 dL_law__1538 dL_law__1539 dL_law__1540 rfl rfl ?_
    refine x_arg hE hX hb hj hn 2 (by decide) (by decide) 1 5 dL_law__1541 dL_law__1542 dL_law__1544 dL_law__1545 dL_law__1546 rfl rfl ?_
    refine x_callV1 hE [.int (xs (j + 1)), .int (xs (j + 2))] (rest := []) (v := .int b1) (c1 := R1) (d1 := (wrd N 145 0 b1.toInt64)) rfl yokX12_choose yvX12_choose lkw_220 rfl cl_12 (hE.kd kO_12) (by decide) rfl rfl ⟨Nat.le_of_ble_eq_true rfl, Nat.le_of_ble_eq_true rfl⟩ ⟨by show (cells + 2) ≤ 601024; omega, by show (slots + 6 * 2) ≤ 7293034; omega⟩ rfl (Nat.le_of_ble_eq_true rfl) dL_law__1547 (mX12_choose l hy) ?_
    refine x_istore hE (L' := [(6, .int b1), (5, .int 0), (0, .ref b), (1, .ref (σ 0)), (2, .ref (σ 127)), (3, .ref (σ 145)), (4, .int (nI j))]) dL_law__1550 (by decide) rfl ?_
    refine x_aload_n hE 4 dL_law__1552 rfl rfl ?_
    refine x_callV1 hE [] (rest := []) (v := .int (R1 127 0)) (c1 := R1) (d1 := (wrd N 145 0 b1.toInt64)) rfl yokX12_thrown yvX12_thrown lkw_157 rfl cl_12 (hE.kd kO_12) (by decide) rfl rfl ⟨Nat.le_of_ble_eq_true rfl, Nat.le_of_ble_eq_true rfl⟩ ⟨by show (cells + 2) ≤ 601024; omega, by show (slots + 6 * 2) ≤ 7293034; omega⟩ rfl (Nat.le_of_ble_eq_true rfl) dL_law__1553 (mX12_thrown l rfl) ?_
    refine x_iload hE 1 dL_law__1556 rfl ?_
    refine x_icmp_eq hE 1563 dL_law__1558 (by decide) (A := some ()) (B := none) (r := ()) (if_pos ht) (fun _ => ?_) (fun h => by cases h)
    refine x_iload hE 1 dL_law__1563 rfl ?_
    refine x_if_ne hE 1580 dL_law__1565 (by decide) (A := none) (B := some ()) (r := ()) (if_pos rfl) (fun h => by cases h) (fun _ => ?_)
    refine x_aload_n hE 5 dL_law__1568 rfl rfl ?_
    refine x_iconst hE 0 dL_law__1569 (by decide) ?_
    refine x_lald hE (hE.kd kA_145) dL_law__1570 (B := some ()) (r := ()) (by decide) (fun _ => ?_)
    refine x_iload hE 0 dL_law__1571 rfl ?_
    refine x_i2l hE dL_law__1573 ?_
    refine x_lcmp hE dL_law__1574 ?_
    refine x_if_eq hE 1580 dL_law__1575 (by decide) (A := some ()) (B := none) (r := ()) (if_pos cmp_out) (fun _ => ?_) (fun h => by cases h)
    refine x_goto hE 3277 dL_law__1580 (by decide) ?_
    refine x_pick [2, 3, 4, 5, 6] (L' := Lb σ b j) rfl ?_
    exact hK σ np (cells + 2) (slots + 6 * 2) R1 (wrd N 145 0 b1.toInt64) hE (gi_w hg) (by omega) (by omega)
theorem wL_c20 {p : Program} {l : Launch} {e : Env} {s : State} {m : MethodId} {args : Array Value} {below : List Frame} {meth : Method} {c : Code} {Y : Nat → ClassId} {D : va_G} {σ : Nat → Nat} {np b0 cells slots : Nat} {Q : State → Prop} {M : Mc} {N : Md} {b nX j : Nat} {xs : Nat → Int32} (hfl : l.stackTraces = false) (hE : EOK p s m args meth c cL_law_ 7 "SettlerColonyLaw" Y D σ np b0) (hX : va_X b nX xs s s.heap) (hb : b < b0) (hj : j + 6 ≤ nX) (hn : nX ≤ 3072) (hG : GI np M N) (hc : cells ≤ 600000) (hs : slots ≤ 7000000) (hK : LK p l e s m args below meth c Y D b0 cells slots Q b j) : Xw p l e room_1 s m args below meth c 7 Y D σ np b0 cells slots Q 1583 (Lb σ b j) [] M N := by
  unfold Lb
  obtain ⟨x1, hx, hq⟩ := st_M (e := eB) (y := fun R => fX12_run R (xs (j + 1)) (xs (j + 2))) hG (fun n t m R h _ => c_run h (xs (j + 1)) (xs (j + 2))) (hA_fX11_run ka_rf)
  rcases hq with ⟨k, b1, R1, rfl, he, hy, ht, hg⟩ | ⟨b1, C1, R1, rfl, hy, ht, hg⟩
  · refine x_aload_n hE 1 dL_law__1583 rfl rfl ?_
    refine x_arg hE hX hb hj hn 1 (by decide) (by decide) 0 4 dL_law__1584 dL_law__1585 dL_law__1587 dL_law__1588 dL_law__1589 rfl rfl ?_
    refine x_arg hE hX hb hj hn 2 (by decide) (by decide) 0 4 dL_law__1590 dL_law__1591 dL_law__1593 dL_law__1594 dL_law__1595 rfl rfl ?_
    refine x_aload_n hE 3 dL_law__1596 rfl rfl ?_
    refine x_callSW hE [.ref (σ 0), .int (xs (j + 1)), .int (xs (j + 2)), .ref (σ 145)] (rest := []) (v := some (.int (eB k))) (c1 := M) (d1 := N) rfl yowL_run ysL_run lkw_221 ⟨Nat.le_of_ble_eq_true rfl, Nat.le_of_ble_eq_true rfl⟩ ⟨by show cells + 2 ≤ 601024; omega, by show slots + 6 * 2 ≤ 7293034; omega⟩ rfl (Nat.le_of_ble_eq_true rfl) dL_law__1597 (mL_run l hfl hx) ?_
    refine x_istore hE (L' := [(5, .int (eB k)), (0, .ref b), (1, .ref (σ 0)), (2, .ref (σ 127)), (3, .ref (σ 145)), (4, .int (nI j))]) dL_law__1600 (by decide) rfl ?_
    refine x_aload_n hE 3 dL_law__1602 rfl rfl ?_
    refine x_arg hE hX hb hj hn 1 (by decide) (by decide) 1 5 dL_law__1603 dL_law__1604 dL_law__1606 dL_law__1607 dL_law__1608 rfl rfl ?_
    refine x_arg hE hX hb hj hn 2 (by decide) (by decide) 1 5 dL_law__1609 dL_law__1610 dL_law__1612 dL_law__1613 dL_law__1614 rfl rfl ?_
    refine x_callV1 hE [.int (xs (j + 1)), .int (xs (j + 2))] (rest := []) (v := .int b1) (c1 := R1) (d1 := N) rfl yokX12_run yvX12_run lkw_223 rfl cl_12 (hE.kd kO_12) (by decide) rfl rfl ⟨Nat.le_of_ble_eq_true rfl, Nat.le_of_ble_eq_true rfl⟩ ⟨by show (cells + 2) ≤ 601024; omega, by show (slots + 6 * 2) ≤ 7293034; omega⟩ rfl (Nat.le_of_ble_eq_true rfl) dL_law__1615 (mX12_run l hy) ?_
    refine x_istore hE (L' := [(6, .int b1), (5, .int (eB k)), (0, .ref b), (1, .ref (σ 0)), (2, .ref (σ 127)), (3, .ref (σ 145)), (4, .int (nI j))]) dL_law__1618 (by decide) rfl ?_
    refine x_aload_n hE 4 dL_law__1620 rfl rfl ?_
    refine x_callV1 hE [] (rest := []) (v := .int (R1 127 0)) (c1 := R1) (d1 := N) rfl yokX12_thrown yvX12_thrown lkw_157 rfl cl_12 (hE.kd kO_12) (by decide) rfl rfl ⟨Nat.le_of_ble_eq_true rfl, Nat.le_of_ble_eq_true rfl⟩ ⟨by show (cells + 2) ≤ 601024; omega, by show (slots + 6 * 2) ≤ 7293034; omega⟩ rfl (Nat.le_of_ble_eq_true rfl) dL_law__1621 (mX12_thrown l rfl) ?_
    refine x_iload hE 1 dL_law__1624 rfl ?_
    refine x_icmp_eq hE 1631 dL_law__1626 (by decide) (A := some ()) (B := none) (r := ()) (if_pos ht) (fun _ => ?_) (fun h => by cases h)
    refine x_iload hE 1 dL_law__1631 rfl ?_
    refine x_if_ne hE 1648 dL_law__1633 (by decide) (A := some ()) (B := none) (r := ()) (if_neg he) (fun _ => ?_) (fun h => by cases h)
    refine x_goto hE 3277 dL_law__1648 (by decide) ?_
    refine x_pick [2, 3, 4, 5, 6] (L' := Lb σ b j) rfl ?_
    exact hK σ np (cells + 2) (slots + 6 * 2) R1 N hE hg (by omega) (by omega)
  · refine x_aload_n hE 1 dL_law__1583 rfl rfl ?_
    refine x_arg hE hX hb hj hn 1 (by decide) (by decide) 0 4 dL_law__1584 dL_law__1585 dL_law__1587 dL_law__1588 dL_law__1589 rfl rfl ?_
    refine x_arg hE hX hb hj hn 2 (by decide) (by decide) 0 4 dL_law__1590 dL_law__1591 dL_law__1593 dL_law__1594 dL_law__1595 rfl rfl ?_
    refine x_aload_n hE 3 dL_law__1596 rfl rfl ?_
    refine x_callSW hE [.ref (σ 0), .int (xs (j + 1)), .int (xs (j + 2)), .ref (σ 145)] (rest := []) (v := some (.int 0)) (c1 := C1) (d1 := (wrd N 145 0 b1.toInt64)) rfl yowL_run ysL_run lkw_221 ⟨Nat.le_of_ble_eq_true rfl, Nat.le_of_ble_eq_true rfl⟩ ⟨by show cells + 2 ≤ 601024; omega, by show slots + 6 * 2 ≤ 7293034; omega⟩ rfl (Nat.le_of_ble_eq_true rfl) dL_law__1597 (mL_run l hfl hx) ?_
    refine x_istore hE (L' := [(5, .int 0), (0, .ref b), (1, .ref (σ 0)), (2, .ref (σ 127)), (3, .ref (σ 145)), (4, .int (nI j))]) dL_law__1600 (by decide) rfl ?_
    refine x_aload_n hE 3 dL_law__1602 rfl rfl ?_
    refine x_arg hE hX hb hj hn 1 (by decide) (by decide) 1 5 dL_law__1603 dL_law__1604 dL_law__1606 dL_law__1607 dL_law__1608 rfl rfl ?_
    refine x_arg hE hX hb hj hn 2 (by decide) (by decide) 1 5 dL_law__1609 dL_law__1610 dL_law__1612 dL_law__1613 dL_law__1614 rfl rfl ?_
    refine x_callV1 hE [.int (xs (j + 1)), .int (xs (j + 2))] (rest := []) (v := .int b1) (c1 := R1) (d1 := (wrd N 145 0 b1.toInt64)) rfl yokX12_run yvX12_run lkw_223 rfl cl_12 (hE.kd kO_12) (by decide) rfl rfl ⟨Nat.le_of_ble_eq_true rfl, Nat.le_of_ble_eq_true rfl⟩ ⟨by show (cells + 2) ≤ 601024; omega, by show (slots + 6 * 2) ≤ 7293034; omega⟩ rfl (Nat.le_of_ble_eq_true rfl) dL_law__1615 (mX12_run l hy) ?_
    refine x_istore hE (L' := [(6, .int b1), (5, .int 0), (0, .ref b), (1, .ref (σ 0)), (2, .ref (σ 127)), (3, .ref (σ 145)), (4, .int (nI j))]) dL_law__1618 (by decide) rfl ?_
    refine x_aload_n hE 4 dL_law__1620 rfl rfl ?_
    refine x_callV1 hE [] (rest := []) (v := .int (R1 127 0)) (c1 := R1) (d1 := (wrd N 145 0 b1.toInt64)) rfl yokX12_thrown yvX12_thrown lkw_157 rfl cl_12 (hE.kd kO_12) (by decide) rfl rfl ⟨Nat.le_of_ble_eq_true rfl, Nat.le_of_ble_eq_true rfl⟩ ⟨by show (cells + 2) ≤ 601024; omega, by show (slots + 6 * 2) ≤ 7293034; omega⟩ rfl (Nat.le_of_ble_eq_true rfl) dL_law__1621 (mX12_thrown l rfl) ?_
    refine x_iload hE 1 dL_law__1624 rfl ?_
    refine x_icmp_eq hE 1631 dL_law__1626 (by decide) (A := some ()) (B := none) (r := ()) (if_pos ht) (fun _ => ?_) (fun h => by cases h)
    refine x_iload hE 1 dL_law__1631 rfl ?_
    refine x_if_ne hE 1648 dL_law__1633 (by decide) (A := none) (B := some ()) (r := ()) (if_pos rfl) (fun h => by cases h) (fun _ => ?_)
    refine x_aload_n hE 5 dL_law__1636 rfl rfl ?_
    refine x_iconst hE 0 dL_law__1637 (by decide) ?_
    refine x_lald hE (hE.kd kA_145) dL_law__1638 (B := some ()) (r := ()) (by decide) (fun _ => ?_)
    refine x_iload hE 0 dL_law__1639 rfl ?_
    refine x_i2l hE dL_law__1641 ?_
    refine x_lcmp hE dL_law__1642 ?_
    refine x_if_eq hE 1648 dL_law__1643 (by decide) (A := some ()) (B := none) (r := ()) (if_pos cmp_out) (fun _ => ?_) (fun h => by cases h)
    refine x_goto hE 3277 dL_law__1648 (by decide) ?_
    refine x_pick [2, 3, 4, 5, 6] (L' := Lb σ b j) rfl ?_
    exact hK σ np (cells + 2) (slots + 6 * 2) R1 (wrd N 145 0 b1.toInt64) hE (gi_w hg) (by omega) (by omega)
theorem wL_c21 {p : Program} {l : Launch} {e : Env} {s : State} {m : MethodId} {args : Array Value} {below : List Frame} {meth : Method} {c : Code} {Y : Nat → ClassId} {D : va_G} {σ : Nat → Nat} {np b0 cells slots : Nat} {Q : State → Prop} {M : Mc} {N : Md} {b nX j : Nat} {xs : Nat → Int32} (hfl : l.stackTraces = false) (hE : EOK p s m args meth c cL_law_ 7 "SettlerColonyLaw" Y D σ np b0) (hX : va_X b nX xs s s.heap) (hb : b < b0) (hj : j + 6 ≤ nX) (hn : nX ≤ 3072) (hG : GI np M N) (hc : cells ≤ 600000) (hs : slots ≤ 7000000) (hK : LK p l e s m args below meth c Y D b0 cells slots Q b j) : Xw p l e room_1 s m args below meth c 7 Y D σ np b0 cells slots Q 1651 (Lb σ b j) [] M N := by
  unfold Lb
  obtain ⟨x1, hx, hq⟩ := st_M (e := eB) (y := fun R => fX12_squat R (xs (j + 1)) (xs (j + 2))) hG (fun n t m R h _ => c_squat h (xs (j + 1)) (xs (j + 2))) (hA_fX11_squat ka_rf)
  rcases hq with ⟨k, b1, R1, rfl, he, hy, ht, hg⟩ | ⟨b1, C1, R1, rfl, hy, ht, hg⟩
  · refine x_aload_n hE 1 dL_law__1651 rfl rfl ?_
    refine x_arg hE hX hb hj hn 1 (by decide) (by decide) 0 4 dL_law__1652 dL_law__1653 dL_law__1655 dL_law__1656 dL_law__1657 rfl rfl ?_
    refine x_arg hE hX hb hj hn 2 (by decide) (by decide) 0 4 dL_law__1658 dL_law__1659 dL_law__1661 dL_law__1662 dL_law__1663 rfl rfl ?_
    refine x_aload_n hE 3 dL_law__1664 rfl rfl ?_
    refine x_callSW hE [.ref (σ 0), .int (xs (j + 1)), .int (xs (j + 2)), .ref (σ 145)] (rest := []) (v := some (.int (eB k))) (c1 := M) (d1 := N) rfl yowL_squat ysL_squat lkw_224 ⟨Nat.le_of_ble_eq_true rfl, Nat.le_of_ble_eq_true rfl⟩ ⟨by show cells + 2 ≤ 601024; omega, by show slots + 6 * 2 ≤ 7293034; omega⟩ rfl (Nat.le_of_ble_eq_true rfl) dL_law__1665 (mL_squat l hfl hx) ?_
    refine x_istore hE (L' := [(5, .int (eB k)), (0, .ref b), (1, .ref (σ 0)), (2, .ref (σ 127)), (3, .ref (σ 145)), (4, .int (nI j))]) dL_law__1668 (by decide) rfl ?_
    refine x_aload_n hE 3 dL_law__1670 rfl rfl ?_
    refine x_arg hE hX hb hj hn 1 (by decide) (by decide) 1 5 dL_law__1671 dL_law__1672 dL_law__1674 dL_law__1675 dL_law__1676 rfl rfl ?_
    refine x_arg hE hX hb hj hn 2 (by decide) (by decide) 1 5 dL_law__1677 dL_law__1678 dL_law__1680 dL_law__1681 dL_law__1682 rfl rfl ?_
    refine x_callV1 hE [.int (xs (j + 1)), .int (xs (j + 2))] (rest := []) (v := .int b1) (c1 := R1) (d1 := N) rfl yokX12_squat yvX12_squat lkw_226 rfl cl_12 (hE.kd kO_12) (by decide) rfl rfl ⟨Nat.le_of_ble_eq_true rfl, Nat.le_of_ble_eq_true rfl⟩ ⟨by show (cells + 2) ≤ 601024; omega, by show (slots + 6 * 2) ≤ 7293034; omega⟩ rfl (Nat.le_of_ble_eq_true rfl) dL_law__1683 (mX12_squat l hy) ?_
    refine x_istore hE (L' := [(6, .int b1), (5, .int (eB k)), (0, .ref b), (1, .ref (σ 0)), (2, .ref (σ 127)), (3, .ref (σ 145)), (4, .int (nI j))]) dL_law__1686 (by decide) rfl ?_
    refine x_aload_n hE 4 dL_law__1688 rfl rfl ?_
    refine x_callV1 hE [] (rest := []) (v := .int (R1 127 0)) (c1 := R1) (d1 := N) rfl yokX12_thrown yvX12_thrown lkw_157 rfl cl_12 (hE.kd kO_12) (by decide) rfl rfl ⟨Nat.le_of_ble_eq_true rfl, Nat.le_of_ble_eq_true rfl⟩ ⟨by show (cells + 2) ≤ 601024; omega, by show (slots + 6 * 2) ≤ 7293034; omega⟩ rfl (Nat.le_of_ble_eq_true rfl) dL_law__1689 (mX12_thrown l rfl) ?_
    refine x_iload hE 1 dL_law__1692 rfl ?_
    refine x_icmp_eq hE 1699 dL_law__1694 (by decide) (A := some ()) (B := none) (r := ()) (if_pos ht) (fun _ => ?_) (fun h => by cases h)
    refine x_iload hE 1 dL_law__1699 rfl ?_
    refine x_if_ne hE 1716 dL_law__1701 (by decide) (A := some ()) (B := none) (r := ()) (if_neg he) (fun _ => ?_) (fun h => by cases h)
    refine x_goto hE 3277 dL_law__1716 (by decide) ?_
    refine x_pick [2, 3, 4, 5, 6] (L' := Lb σ b j) rfl ?_
    exact hK σ np (cells + 2) (slots + 6 * 2) R1 N hE hg (by omega) (by omega)
  · refine x_aload_n hE 1 dL_law__1651 rfl rfl ?_
    refine x_arg hE hX hb hj hn 1 (by decide) (by decide) 0 4 dL_law__1652 dL_law__1653 dL_law__1655 dL_law__1656 dL_law__1657 rfl rfl ?_
    refine x_arg hE hX hb hj hn 2 (by decide) (by decide) 0 4 dL_law__1658 dL_law__1659 dL_law__1661 dL_law__1662 dL_law__1663 rfl rfl ?_
    refine x_aload_n hE 3 dL_law__1664 rfl rfl ?_
    refine x_callSW hE [.ref (σ 0), .int (xs (j + 1)), .int (xs (j + 2)), .ref (σ 145)] (rest := []) (v := some (.int 0)) (c1 := C1) (d1 := (wrd N 145 0 b1.toInt64)) rfl yowL_squat ysL_squat lkw_224 ⟨Nat.le_of_ble_eq_true rfl, Nat.le_of_ble_eq_true rfl⟩ ⟨by show cells + 2 ≤ 601024; omega, by show slots + 6 * 2 ≤ 7293034; omega⟩ rfl (Nat.le_of_ble_eq_true rfl) dL_law__1665 (mL_squat l hfl hx) ?_
    refine x_istore hE (L' := [(5, .int 0), (0, .ref b), (1, .ref (σ 0)), (2, .ref (σ 127)), (3, .ref (σ 145)), (4, .int (nI j))]) dL_law__1668 (by decide) rfl ?_
    refine x_aload_n hE 3 dL_law__1670 rfl rfl ?_
    refine x_arg hE hX hb hj hn 1 (by decide) (by decide) 1 5 dL_law__1671 dL_law__1672 dL_law__1674 dL_law__1675 dL_law__1676 rfl rfl ?_
    refine x_arg hE hX hb hj hn 2 (by decide) (by decide) 1 5 dL_law__1677 dL_law__1678 dL_law__1680 dL_law__1681 dL_law__1682 rfl rfl ?_
    refine x_callV1 hE [.int (xs (j + 1)), .int (xs (j + 2))] (rest := []) (v := .int b1) (c1 := R1) (d1 := (wrd N 145 0 b1.toInt64)) rfl yokX12_squat yvX12_squat lkw_226 rfl cl_12 (hE.kd kO_12) (by decide) rfl rfl ⟨Nat.le_of_ble_eq_true rfl, Nat.le_of_ble_eq_true rfl⟩ ⟨by show (cells + 2) ≤ 601024; omega, by show (slots + 6 * 2) ≤ 7293034; omega⟩ rfl (Nat.le_of_ble_eq_true rfl) dL_law__1683 (mX12_squat l hy) ?_
    refine x_istore hE (L' := [(6, .int b1), (5, .int 0), (0, .ref b), (1, .ref (σ 0)), (2, .ref (σ 127)), (3, .ref (σ 145)), (4, .int (nI j))]) dL_law__1686 (by decide) rfl ?_
    refine x_aload_n hE 4 dL_law__1688 rfl rfl ?_
    refine x_callV1 hE [] (rest := []) (v := .int (R1 127 0)) (c1 := R1) (d1 := (wrd N 145 0 b1.toInt64)) rfl yokX12_thrown yvX12_thrown lkw_157 rfl cl_12 (hE.kd kO_12) (by decide) rfl rfl ⟨Nat.le_of_ble_eq_true rfl, Nat.le_of_ble_eq_true rfl⟩ ⟨by show (cells + 2) ≤ 601024; omega, by show (slots + 6 * 2) ≤ 7293034; omega⟩ rfl (Nat.le_of_ble_eq_true rfl) dL_law__1689 (mX12_thrown l rfl) ?_
    refine x_iload hE 1 dL_law__1692 rfl ?_
    refine x_icmp_eq hE 1699 dL_law__1694 (by decide) (A := some ()) (B := none) (r := ()) (if_pos ht) (fun _ => ?_) (fun h => by cases h)
    refine x_iload hE 1 dL_law__1699 rfl ?_
    refine x_if_ne hE 1716 dL_law__1701 (by decide) (A := none) (B := some ()) (r := ()) (if_pos rfl) (fun h => by cases h) (fun _ => ?_)
    refine x_aload_n hE 5 dL_law__1704 rfl rfl ?_
    refine x_iconst hE 0 dL_law__1705 (by decide) ?_
    refine x_lald hE (hE.kd kA_145) dL_law__1706 (B := some ()) (r := ()) (by decide) (fun _ => ?_)
    refine x_iload hE 0 dL_law__1707 rfl ?_
    refine x_i2l hE dL_law__1709 ?_
    refine x_lcmp hE dL_law__1710 ?_
    refine x_if_eq hE 1716 dL_law__1711 (by decide) (A := some ()) (B := none) (r := ()) (if_pos cmp_out) (fun _ => ?_) (fun h => by cases h)
    refine x_goto hE 3277 dL_law__1716 (by decide) ?_
    refine x_pick [2, 3, 4, 5, 6] (L' := Lb σ b j) rfl ?_
    exact hK σ np (cells + 2) (slots + 6 * 2) R1 (wrd N 145 0 b1.toInt64) hE (gi_w hg) (by omega) (by omega)
theorem wL_c22 {p : Program} {l : Launch} {e : Env} {s : State} {m : MethodId} {args : Array Value} {below : List Frame} {meth : Method} {c : Code} {Y : Nat → ClassId} {D : va_G} {σ : Nat → Nat} {np b0 cells slots : Nat} {Q : State → Prop} {M : Mc} {N : Md} {b nX j : Nat} {xs : Nat → Int32} (hfl : l.stackTraces = false) (hE : EOK p s m args meth c cL_law_ 7 "SettlerColonyLaw" Y D σ np b0) (hX : va_X b nX xs s s.heap) (hb : b < b0) (hj : j + 6 ≤ nX) (hn : nX ≤ 3072) (hG : GI np M N) (hc : cells ≤ 600000) (hs : slots ≤ 7000000) (hK : LK p l e s m args below meth c Y D b0 cells slots Q b j) : Xw p l e room_1 s m args below meth c 7 Y D σ np b0 cells slots Q 1719 (Lb σ b j) [] M N := by
  unfold Lb
  obtain ⟨x1, hx, hq⟩ := st_M (e := eB) (y := fun R => fX12_stock R (xs (j + 1)) (xs (j + 2)) (xs (j + 3))) hG (fun n t m R h _ => c_stock h (xs (j + 1)) (xs (j + 2)) (xs (j + 3))) (hA_fX11_stock ka_rf)
  rcases hq with ⟨k, b1, R1, rfl, he, hy, ht, hg⟩ | ⟨b1, C1, R1, rfl, hy, ht, hg⟩
  · refine x_aload_n hE 1 dL_law__1719 rfl rfl ?_
    refine x_arg hE hX hb hj hn 1 (by decide) (by decide) 0 4 dL_law__1720 dL_law__1721 dL_law__1723 dL_law__1724 dL_law__1725 rfl rfl ?_
    refine x_arg hE hX hb hj hn 2 (by decide) (by decide) 0 4 dL_law__1726 dL_law__1727 dL_law__1729 dL_law__1730 dL_law__1731 rfl rfl ?_
    refine x_arg hE hX hb hj hn 3 (by decide) (by decide) 0 4 dL_law__1732 dL_law__1733 dL_law__1735 dL_law__1736 dL_law__1737 rfl rfl ?_
    refine x_aload_n hE 3 dL_law__1738 rfl rfl ?_
    refine x_callSW hE [.ref (σ 0), .int (xs (j + 1)), .int (xs (j + 2)), .int (xs (j + 3)), .ref (σ 145)] (rest := []) (v := some (.int (eB k))) (c1 := M) (d1 := N) rfl yowL_stock ysL_stock lkw_227 ⟨Nat.le_of_ble_eq_true rfl, Nat.le_of_ble_eq_true rfl⟩ ⟨by show cells + 3 ≤ 601024; omega, by show slots + 6 * 3 ≤ 7293034; omega⟩ rfl (Nat.le_of_ble_eq_true rfl) dL_law__1739 (mL_stock l hfl hx) ?_
    refine x_istore hE (L' := [(5, .int (eB k)), (0, .ref b), (1, .ref (σ 0)), (2, .ref (σ 127)), (3, .ref (σ 145)), (4, .int (nI j))]) dL_law__1742 (by decide) rfl ?_
    refine x_aload_n hE 3 dL_law__1744 rfl rfl ?_
    refine x_arg hE hX hb hj hn 1 (by decide) (by decide) 1 5 dL_law__1745 dL_law__1746 dL_law__1748 dL_law__1749 dL_law__1750 rfl rfl ?_
    refine x_arg hE hX hb hj hn 2 (by decide) (by decide) 1 5 dL_law__1751 dL_law__1752 dL_law__1754 dL_law__1755 dL_law__1756 rfl rfl ?_
    refine x_arg hE hX hb hj hn 3 (by decide) (by decide) 1 5 dL_law__1757 dL_law__1758 dL_law__1760 dL_law__1761 dL_law__1762 rfl rfl ?_
    refine x_callV1 hE [.int (xs (j + 1)), .int (xs (j + 2)), .int (xs (j + 3))] (rest := []) (v := .int b1) (c1 := R1) (d1 := N) rfl yokX12_stock yvX12_stock lkw_229 rfl cl_12 (hE.kd kO_12) (by decide) rfl rfl ⟨Nat.le_of_ble_eq_true rfl, Nat.le_of_ble_eq_true rfl⟩ ⟨by show (cells + 3) ≤ 601024; omega, by show (slots + 6 * 3) ≤ 7293034; omega⟩ rfl (Nat.le_of_ble_eq_true rfl) dL_law__1763 (mX12_stock l hy) ?_
    refine x_istore hE (L' := [(6, .int b1), (5, .int (eB k)), (0, .ref b), (1, .ref (σ 0)), (2, .ref (σ 127)), (3, .ref (σ 145)), (4, .int (nI j))]) dL_law__1766 (by decide) rfl ?_
    refine x_aload_n hE 4 dL_law__1768 rfl rfl ?_
    refine x_callV1 hE [] (rest := []) (v := .int (R1 127 0)) (c1 := R1) (d1 := N) rfl yokX12_thrown yvX12_thrown lkw_157 rfl cl_12 (hE.kd kO_12) (by decide) rfl rfl ⟨Nat.le_of_ble_eq_true rfl, Nat.le_of_ble_eq_true rfl⟩ ⟨by show (cells + 3) ≤ 601024; omega, by show (slots + 6 * 3) ≤ 7293034; omega⟩ rfl (Nat.le_of_ble_eq_true rfl) dL_law__1769 (mX12_thrown l rfl) ?_
    refine x_iload hE 1 dL_law__1772 rfl ?_
    refine x_icmp_eq hE 1779 dL_law__1774 (by decide) (A := some ()) (B := none) (r := ()) (if_pos ht) (fun _ => ?_) (fun h => by cases h)
    refine x_iload hE 1 dL_law__1779 rfl ?_
    refine x_if_ne hE 1796 dL_law__1781 (by decide) (A := some ()) (B := none) (r := ()) (if_neg he) (fun _ => ?_) (fun h => by cases h)
    refine x_goto hE 3277 dL_law__1796 (by decide) ?_
    refine x_pick [2, 3, 4, 5, 6] (L' := Lb σ b j) rfl ?_
    exact hK σ np (cells + 3) (slots + 6 * 3) R1 N hE hg (by omega) (by omega)
  · refine x_aload_n hE 1 dL_law__1719 rfl rfl ?_
    refine x_arg hE hX hb hj hn 1 (by decide) (by decide) 0 4 dL_law__1720 dL_law__1721 dL_law__1723 dL_law__1724 dL_law__1725 rfl rfl ?_
    refine x_arg hE hX hb hj hn 2 (by decide) (by decide) 0 4 dL_law__1726 dL_law__1727 dL_law__1729 dL_law__1730 dL_law__1731 rfl rfl ?_
    refine x_arg hE hX hb hj hn 3 (by decide) (by decide) 0 4 dL_law__1732 dL_law__1733 dL_law__1735 dL_law__1736 dL_law__1737 rfl rfl ?_
    refine x_aload_n hE 3 dL_law__1738 rfl rfl ?_
    refine x_callSW hE [.ref (σ 0), .int (xs (j + 1)), .int (xs (j + 2)), .int (xs (j + 3)), .ref (σ 145)] (rest := []) (v := some (.int 0)) (c1 := C1) (d1 := (wrd N 145 0 b1.toInt64)) rfl yowL_stock ysL_stock lkw_227 ⟨Nat.le_of_ble_eq_true rfl, Nat.le_of_ble_eq_true rfl⟩ ⟨by show cells + 3 ≤ 601024; omega, by show slots + 6 * 3 ≤ 7293034; omega⟩ rfl (Nat.le_of_ble_eq_true rfl) dL_law__1739 (mL_stock l hfl hx) ?_
    refine x_istore hE (L' := [(5, .int 0), (0, .ref b), (1, .ref (σ 0)), (2, .ref (σ 127)), (3, .ref (σ 145)), (4, .int (nI j))]) dL_law__1742 (by decide) rfl ?_
    refine x_aload_n hE 3 dL_law__1744 rfl rfl ?_
    refine x_arg hE hX hb hj hn 1 (by decide) (by decide) 1 5 dL_law__1745 dL_law__1746 dL_law__1748 dL_law__1749 dL_law__1750 rfl rfl ?_
    refine x_arg hE hX hb hj hn 2 (by decide) (by decide) 1 5 dL_law__1751 dL_law__1752 dL_law__1754 dL_law__1755 dL_law__1756 rfl rfl ?_
    refine x_arg hE hX hb hj hn 3 (by decide) (by decide) 1 5 dL_law__1757 dL_law__1758 dL_law__1760 dL_law__1761 dL_law__1762 rfl rfl ?_
    refine x_callV1 hE [.int (xs (j + 1)), .int (xs (j + 2)), .int (xs (j + 3))] (rest := []) (v := .int b1) (c1 := R1) (d1 := (wrd N 145 0 b1.toInt64)) rfl yokX12_stock yvX12_stock lkw_229 rfl cl_12 (hE.kd kO_12) (by decide) rfl rfl ⟨Nat.le_of_ble_eq_true rfl, Nat.le_of_ble_eq_true rfl⟩ ⟨by show (cells + 3) ≤ 601024; omega, by show (slots + 6 * 3) ≤ 7293034; omega⟩ rfl (Nat.le_of_ble_eq_true rfl) dL_law__1763 (mX12_stock l hy) ?_
    refine x_istore hE (L' := [(6, .int b1), (5, .int 0), (0, .ref b), (1, .ref (σ 0)), (2, .ref (σ 127)), (3, .ref (σ 145)), (4, .int (nI j))]) dL_law__1766 (by decide) rfl ?_
    refine x_aload_n hE 4 dL_law__1768 rfl rfl ?_
    refine x_callV1 hE [] (rest := []) (v := .int (R1 127 0)) (c1 := R1) (d1 := (wrd N 145 0 b1.toInt64)) rfl yokX12_thrown yvX12_thrown lkw_157 rfl cl_12 (hE.kd kO_12) (by decide) rfl rfl ⟨Nat.le_of_ble_eq_true rfl, Nat.le_of_ble_eq_true rfl⟩ ⟨by show (cells + 3) ≤ 601024; omega, by show (slots + 6 * 3) ≤ 7293034; omega⟩ rfl (Nat.le_of_ble_eq_true rfl) dL_law__1769 (mX12_thrown l rfl) ?_
    refine x_iload hE 1 dL_law__1772 rfl ?_
    refine x_icmp_eq hE 1779 dL_law__1774 (by decide) (A := some ()) (B := none) (r := ()) (if_pos ht) (fun _ => ?_) (fun h => by cases h)
    refine x_iload hE 1 dL_law__1779 rfl ?_
    refine x_if_ne hE 1796 dL_law__1781 (by decide) (A := none) (B := some ()) (r := ()) (if_pos rfl) (fun h => by cases h) (fun _ => ?_)
    refine x_aload_n hE 5 dL_law__1784 rfl rfl ?_
    refine x_iconst hE 0 dL_law__1785 (by decide) ?_
    refine x_lald hE (hE.kd kA_145) dL_law__1786 (B := some ()) (r := ()) (by decide) (fun _ => ?_)
    refine x_iload hE 0 dL_law__1787 rfl ?_
    refine x_i2l hE dL_law__1789 ?_
    refine x_lcmp hE dL_law__1790 ?_
    refine x_if_eq hE 1796 dL_law__1791 (by decide) (A := some ()) (B := none) (r := ()) (if_pos cmp_out) (fun _ => ?_) (fun h => by cases h)
    refine x_goto hE 3277 dL_law__1796 (by decide) ?_
    refine x_pick [2, 3, 4, 5, 6] (L' := Lb σ b j) rfl ?_
    exact hK σ np (cells + 3) (slots + 6 * 3) R1 (wrd N 145 0 b1.toInt64) hE (gi_w hg) (by omega) (by omega)
theorem wL_c23 {p : Program} {l : Launch} {e : Env} {s : State} {m : MethodId} {args : Array Value} {below : List Frame} {meth : Method} {c : Code} {Y : Nat → ClassId} {D : va_G} {σ : Nat → Nat} {np b0 cells slots : Nat} {Q : State → Prop} {M : Mc} {N : Md} {b nX j : Nat} {xs : Nat → Int32} (hfl : l.stackTraces = false) (hE : EOK p s m args meth c cL_law_ 7 "SettlerColonyLaw" Y D σ np b0) (hX : va_X b nX xs s s.heap) (hb : b < b0) (hj : j + 6 ≤ nX) (hn : nX ≤ 3072) (hG : GI np M N) (hc : cells ≤ 600000) (hs : slots ≤ 7000000) (hK : LK p l e s m args below meth c Y D b0 cells slots Q b j) : Xw p l e room_1 s m args below meth c 7 Y D σ np b0 cells slots Q 1799 (Lb σ b j) [] M N := by
  unfold Lb
  obtain ⟨x1, hx, hq⟩ := st_M (e := eB) (y := fun R => fX12_fence R (xs (j + 1)) (xs (j + 2))) hG (fun n t m R h _ => c_fence h (xs (j + 1)) (xs (j + 2))) (hA_fX11_fence ka_rf)
  rcases hq with ⟨k, b1, R1, rfl, he, hy, ht, hg⟩ | ⟨b1, C1, R1, rfl, hy, ht, hg⟩
  · refine x_aload_n hE 1 dL_law__1799 rfl rfl ?_
    refine x_arg hE hX hb hj hn 1 (by decide) (by decide) 0 4 dL_law__1800 dL_law__1801 dL_law__1803 dL_law__1804 dL_law__1805 rfl rfl ?_
    refine x_arg hE hX hb hj hn 2 (by decide) (by decide) 0 4 dL_law__1806 dL_law__1807 dL_law__1809 dL_law__1810 dL_law__1811 rfl rfl ?_
    refine x_aload_n hE 3 dL_law__1812 rfl rfl ?_
    refine x_callSW hE [.ref (σ 0), .int (xs (j + 1)), .int (xs (j + 2)), .ref (σ 145)] (rest := []) (v := some (.int (eB k))) (c1 := M) (d1 := N) rfl yowL_fence ysL_fence lkw_230 ⟨Nat.le_of_ble_eq_true rfl, Nat.le_of_ble_eq_true rfl⟩ ⟨by show cells + 2 ≤ 601024; omega, by show slots + 6 * 2 ≤ 7293034; omega⟩ rfl (Nat.le_of_ble_eq_true rfl) dL_law__1813 (mL_fence l hfl hx) ?_
    refine x_istore hE (L' := [(5, .int (eB k)), (0, .ref b), (1, .ref (σ 0)), (2, .ref (σ 127)), (3, .ref (σ 145)), (4, .int (nI j))]) dL_law__1816 (by decide) rfl ?_
    refine x_aload_n hE 3 dL_law__1818 rfl rfl ?_
    refine x_arg hE hX hb hj hn 1 (by decide) (by decide) 1 5 dL_law__1819 dL_law__1820 dL_law__1822 dL_law__1823 dL_law__1824 rfl rfl ?_
    refine x_arg hE hX hb hj hn 2 (by decide) (by decide) 1 5 dL_law__1825 dL_law__1826 dL_law__1828 dL_law__1829 dL_law__1830 rfl rfl ?_
    refine x_callV1 hE [.int (xs (j + 1)), .int (xs (j + 2))] (rest := []) (v := .int b1) (c1 := R1) (d1 := N) rfl yokX12_fence yvX12_fence lkw_232 rfl cl_12 (hE.kd kO_12) (by decide) rfl rfl ⟨Nat.le_of_ble_eq_true rfl, Nat.le_of_ble_eq_true rfl⟩ ⟨by show (cells + 2) ≤ 601024; omega, by show (slots + 6 * 2) ≤ 7293034; omega⟩ rfl (Nat.le_of_ble_eq_true rfl) dL_law__1831 (mX12_fence l hy) ?_
    refine x_istore hE (L' := [(6, .int b1), (5, .int (eB k)), (0, .ref b), (1, .ref (σ 0)), (2, .ref (σ 127)), (3, .ref (σ 145)), (4, .int (nI j))]) dL_law__1834 (by decide) rfl ?_
    refine x_aload_n hE 4 dL_law__1836 rfl rfl ?_
    refine x_callV1 hE [] (rest := []) (v := .int (R1 127 0)) (c1 := R1) (d1 := N) rfl yokX12_thrown yvX12_thrown lkw_157 rfl cl_12 (hE.kd kO_12) (by decide) rfl rfl ⟨Nat.le_of_ble_eq_true rfl, Nat.le_of_ble_eq_true rfl⟩ ⟨by show (cells + 2) ≤ 601024; omega, by show (slots + 6 * 2) ≤ 7293034; omega⟩ rfl (Nat.le_of_ble_eq_true rfl) dL_law__1837 (mX12_thrown l rfl) ?_
    refine x_iload hE 1 dL_law__1840 rfl ?_
    refine x_icmp_eq hE 1847 dL_law__1842 (by decide) (A := some ()) (B := none) (r := ()) (if_pos ht) (fun _ => ?_) (fun h => by cases h)
    refine x_iload hE 1 dL_law__1847 rfl ?_
    refine x_if_ne hE 1864 dL_law__1849 (by decide) (A := some ()) (B := none) (r := ()) (if_neg he) (fun _ => ?_) (fun h => by cases h)
    refine x_goto hE 3277 dL_law__1864 (by decide) ?_
    refine x_pick [2, 3, 4, 5, 6] (L' := Lb σ b j) rfl ?_
    exact hK σ np (cells + 2) (slots + 6 * 2) R1 N hE hg (by omega) (by omega)
  · refine x_aload_n hE 1 dL_law__1799 rfl rfl ?_
    refine x_arg hE hX hb hj hn 1 (by decide) (by decide) 0 4 dL_law__1800 dL_law__1801 dL_law__1803 dL_law__1804 dL_law__1805 rfl rfl ?_
    refine x_arg hE hX hb hj hn 2 (by decide) (by decide) 0 4 dL_law__1806 dL_law__1807 dL_law__1809 dL_law__1810 dL_law__1811 rfl rfl ?_
    refine x_aload_n hE 3 dL_law__1812 rfl rfl ?_
    refine x_callSW hE [.ref (σ 0), .int (xs (j + 1)), .int (xs (j + 2)), .ref (σ 145)] (rest := []) (v := some (.int 0)) (c1 := C1) (d1 := (wrd N 145 0 b1.toInt64)) rfl yowL_fence ysL_fence lkw_230 ⟨Nat.le_of_ble_eq_true rfl, Nat.le_of_ble_eq_true rfl⟩ ⟨by show cells + 2 ≤ 601024; omega, by show slots + 6 * 2 ≤ 7293034; omega⟩ rfl (Nat.le_of_ble_eq_true rfl) dL_law__1813 (mL_fence l hfl hx) ?_
    refine x_istore hE (L' := [(5, .int 0), (0, .ref b), (1, .ref (σ 0)), (2, .ref (σ 127)), (3, .ref (σ 145)), (4, .int (nI j))]) dL_law__1816 (by decide) rfl ?_
    refine x_aload_n hE 3 dL_law__1818 rfl rfl ?_
    refine x_arg hE hX hb hj hn 1 (by decide) (by decide) 1 5 dL_law__1819 dL_law__1820 dL_law__1822 dL_law__1823 dL_law__1824 rfl rfl ?_
    refine x_arg hE hX hb hj hn 2 (by decide) (by decide) 1 5 dL_law__1825 dL_law__1826 dL_law__1828 dL_law__1829 dL_law__1830 rfl rfl ?_
    refine x_callV1 hE [.int (xs (j + 1)), .int (xs (j + 2))] (rest := []) (v := .int b1) (c1 := R1) (d1 := (wrd N 145 0 b1.toInt64)) rfl yokX12_fence yvX12_fence lkw_232 rfl cl_12 (hE.kd kO_12) (by decide) rfl rfl ⟨Nat.le_of_ble_eq_true rfl, Nat.le_of_ble_eq_true rfl⟩ ⟨by show (cells + 2) ≤ 601024; omega, by show (slots + 6 * 2) ≤ 7293034; omega⟩ rfl (Nat.le_of_ble_eq_true rfl) dL_law__1831 (mX12_fence l hy) ?_
    refine x_istore hE (L' := [(6, .int b1), (5, .int 0), (0, .ref b), (1, .ref (σ 0)), (2, .ref (σ 127)), (3, .ref (σ 145)), (4, .int (nI j))]) dL_law__1834 (by decide) rfl ?_
    refine x_aload_n hE 4 dL_law__1836 rfl rfl ?_
    refine x_callV1 hE [] (rest := []) (v := .int (R1 127 0)) (c1 := R1) (d1 := (wrd N 145 0 b1.toInt64)) rfl yokX12_thrown yvX12_thrown lkw_157 rfl cl_12 (hE.kd kO_12) (by decide) rfl rfl ⟨Nat.le_of_ble_eq_true rfl, Nat.le_of_ble_eq_true rfl⟩ ⟨by show (cells + 2) ≤ 601024; omega, by show (slots + 6 * 2) ≤ 7293034; omega⟩ rfl (Nat.le_of_ble_eq_true rfl) dL_law__1837 (mX12_thrown l rfl) ?_
    refine x_iload hE 1 dL_law__1840 rfl ?_
    refine x_icmp_eq hE 1847 dL_law__1842 (by decide) (A := some ()) (B := none) (r := ()) (if_pos ht) (fun _ => ?_) (fun h => by cases h)
    refine x_iload hE 1 dL_law__1847 rfl ?_
    refine x_if_ne hE 1864 dL_law__1849 (by decide) (A := none) (B := some ()) (r := ()) (if_pos rfl) (fun h => by cases h) (fun _ => ?_)
    refine x_aload_n hE 5 dL_law__1852 rfl rfl ?_
    refine x_iconst hE 0 dL_law__1853 (by decide) ?_
    refine x_lald hE (hE.kd kA_145) dL_law__1854 (B := some ()) (r := ()) (by decide) (fun _ => ?_)
    refine x_iload hE 0 dL_law__1855 rfl ?_
    refine x_i2l hE dL_law__1857 ?_
    refine x_lcmp hE dL_law__1858 ?_
    refine x_if_eq hE 1864 dL_law__1859 (by decide) (A := some ()) (B := none) (r := ()) (if_pos cmp_out) (fun _ => ?_) (fun h => by cases h)
    refine x_goto hE 3277 dL_law__1864 (by decide) ?_
    refine x_pick [2, 3, 4, 5, 6] (L' := Lb σ b j) rfl ?_
    exact hK σ np (cells + 2) (slots + 6 * 2) R1 (wrd N 145 0 b1.toInt64) hE (gi_w hg) (by omega) (by omega)
theorem wL_c24 {p : Program} {l : Launch} {e : Env} {s : State} {m : MethodId} {args : Array Value} {below : List Frame} {meth : Method} {c : Code} {Y : Nat → ClassId} {D : va_G} {σ : Nat → Nat} {np b0 cells slots : Nat} {Q : State → Prop} {M : Mc} {N : Md} {b nX j : Nat} {xs : Nat → Int32} (hfl : l.stackTraces = false) (hE : EOK p s m args meth c cL_law_ 7 "SettlerColonyLaw" Y D σ np b0) (hX : va_X b nX xs s s.heap) (hb : b < b0) (hj : j + 6 ≤ nX) (hn : nX ≤ 3072) (hG : GI np M N) (hc : cells ≤ 600000) (hs : slots ≤ 7000000) (hK : LK p l e s m args below meth c Y D b0 cells slots Q b j) : Xw p l e room_1 s m args below meth c 7 Y D σ np b0 cells slots Q 1867 (Lb σ b j) [] M N := by
  unfold Lb
  obtain ⟨b1, C1, R1, hx, hy, ht, hg⟩ := st_V (y := fun R => fX12_feed R (xs (j + 1)) (xs (j + 2)) (xs (j + 3)) (xs (j + 4)) (xs (j + 5))) hG (fun n t m R h => c_feed h (xs (j + 1)) (xs (j + 2)) (xs (j + 3)) (xs (j + 4)) (xs (j + 5))) (hA_fX11_feed ka_rf)
  refine x_aload_n hE 1 dL_law__1867 rfl rfl ?_
  refine x_arg hE hX hb hj hn 1 (by decide) (by decide) 0 4 dL_law__1868 dL_law__1869 dL_law__1871 dL_law__1872 dL_law__1873 rfl rfl ?_
  refine x_arg hE hX hb hj hn 2 (by decide) (by decide) 0 4 dL_law__1874 dL_law__1875 dL_law__1877 dL_law__1878 dL_law__1879 rfl rfl ?_
  refine x_arg hE hX hb hj hn 3 (by decide) (by decide) 0 4 dL_law__1880 dL_law__1881 dL_law__1883 dL_law__1884 dL_law__1885 rfl rfl ?_
  refine x_arg hE hX hb hj hn 4 (by decide) (by decide) 0 4 dL_law__1886 dL_law__1887 dL_law__1889 dL_law__1890 dL_law__1891 rfl rfl ?_
  refine x_arg hE hX hb hj hn 5 (by decide) (by decide) 0 4 dL_law__1892 dL_law__1893 dL_law__1895 dL_law__1896 dL_law__1897 rfl rfl ?_
  refine x_callV1 hE [.int (xs (j + 1)), .int (xs (j + 2)), .int (xs (j + 3)), .int (xs (j + 4)), .int (xs (j + 5))] (rest := []) (v := .int b1) (c1 := C1) (d1 := N) rfl yokX11_feed yvX11_feed lkw_233 rfl cl_11 (hE.kd kO_11) (by decide) rfl rfl ⟨Nat.le_of_ble_eq_true rfl, Nat.le_of_ble_eq_true rfl⟩ ⟨by show cells ≤ 601024; omega, by show slots ≤ 7293034; omega⟩ rfl (Nat.le_of_ble_eq_true rfl) dL_law__1898 (mX11_feed l hx) ?_
  refine x_aload_n hE 2 dL_law__1901 rfl rfl ?_
  refine x_arg hE hX hb hj hn 1 (by decide) (by decide) 0 4 dL_law__1902 dL_law__1903 dL_law__1905 dL_law__1906 dL_law__1907 rfl rfl ?_
  refine x_arg hE hX hb hj hn 2 (by decide) (by decide) 0 4 dL_law__1908 dL_law__1909 dL_law__1911 dL_law__1912 dL_law__1913 rfl rfl ?_
  refine x_arg hE hX hb hj hn 3 (by decide) (by decide) 0 4 dL_law__1914 dL_law__1915 dL_law__1917 dL_law__1918 dL_law__1919 rfl rfl ?_
  refine x_arg hE hX hb hj hn 4 (by decide) (by decide) 0 4 dL_law__1920 dL_law__1921 dL_law__1923 dL_law__1924 dL_law__1925 rfl rfl ?_
  refine x_arg hE hX hb hj hn 5 (by decide) (by decide) 0 4 dL_law__1926 dL_law__1927 dL_law__1929 dL_law__1930 dL_law__1931 rfl rfl ?_
  refine x_callV1 hE [.int (xs (j + 1)), .int (xs (j + 2)), .int (xs (j + 3)), .int (xs (j + 4)), .int (xs (j + 5))] (rest := [.int b1]) (v := .int b1) (c1 := R1) (d1 := N) rfl yokX12_feed yvX12_feed lkw_237 rfl cl_12 (hE.kd kO_12) (by decide) rfl rfl ⟨Nat.le_of_ble_eq_true rfl, Nat.le_of_ble_eq_true rfl⟩ ⟨by show cells ≤ 601024; omega, by show slots ≤ 7293034; omega⟩ rfl (Nat.le_of_ble_eq_true rfl) dL_law__1932 (mX12_feed l hy) ?_
  refine x_icmp_eq hE 3277 dL_law__1935 (by decide) (A := some ()) (B := none) (r := ()) (if_pos rfl) (fun _ => ?_) (fun h => by cases h)
  refine x_pick [0, 1, 2, 3, 4] (L' := Lb σ b j) rfl ?_
  exact hK σ np cells slots R1 N hE hg (by omega) (by omega)
theorem wL_c25 {p : Program} {l : Launch} {e : Env} {s : State} {m : MethodId} {args : Array Value} {below : List Frame} {meth : Method} {c : Code} {Y : Nat → ClassId} {D : va_G} {σ : Nat → Nat} {np b0 cells slots : Nat} {Q : State → Prop} {M : Mc} {N : Md} {b nX j : Nat} {xs : Nat → Int32} (hfl : l.stackTraces = false) (hE : EOK p s m args meth c cL_law_ 7 "SettlerColonyLaw" Y D σ np b0) (hX : va_X b nX xs s s.heap) (hb : b < b0) (hj : j + 6 ≤ nX) (hn : nX ≤ 3072) (hG : GI np M N) (hc : cells ≤ 600000) (hs : slots ≤ 7000000) (hK : LK p l e s m args below meth c Y D b0 cells slots Q b j) : Xw p l e room_1 s m args below meth c 7 Y D σ np b0 cells slots Q 1940 (Lb σ b j) [] M N := by
  unfold Lb
  obtain ⟨x1, hx, hq⟩ := st_L (p0 := (xs (j + 1))) hG
  rcases hq with ⟨b1, R1, rfl, hy, ht, hg⟩ | ⟨b1, C1, R1, np1, rfl, hle, hy, ht, hg⟩
  · refine x_aload_n hE 1 dL_law__1940 rfl rfl ?_
    refine x_arg hE hX hb hj hn 1 (by decide) (by decide) 0 4 dL_law__1941 dL_law__1942 dL_law__1944 dL_law__1945 dL_law__1946 rfl rfl ?_
    refine x_aload_n hE 3 dL_law__1947 rfl rfl ?_
    refine x_callSWL hE [.ref (σ 0), .int (xs (j + 1)), .ref (σ 145)] (rest := []) (v := some (.int (nI 1))) (c1 := M) (np1 := np) (d1 := N) rfl (Nat.le_refl _) yowL_law ysL_law lkw_238 ⟨Nat.le_of_ble_eq_true rfl, Nat.le_of_ble_eq_true rfl⟩ ⟨by show cells + 55 ≤ 601024; omega, by show slots + 6 * 55 ≤ 7293034; omega⟩ rfl (Nat.le_of_ble_eq_true rfl) dL_law__1948 (mL_law l hfl (gi_al hG) hx (fun k q => (Sum.inl.inj q).symm) (fun a q => by cases q)) (fun σ' hs' hE' => ?_)
    rw [← hs' 0 (hE.kd kO_11).1, ← hs' 127 (hE.kd kO_12).1, ← hs' 145 (hE.kd kA_145).1]
    refine x_istore hE' (L' := [(5, .int (nI 1)), (0, .ref b), (1, .ref (σ' 0)), (2, .ref (σ' 127)), (3, .ref (σ' 145)), (4, .int (nI j))]) dL_law__1951 (by decide) rfl ?_
    refine x_aload_n hE' 3 dL_law__1953 rfl rfl ?_
    refine x_arg hE' hX hb hj hn 1 (by decide) (by decide) 1 5 dL_law__1954 dL_law__1955 dL_law__1957 dL_law__1958 dL_law__1959 rfl rfl ?_
    refine x_callV1 hE' [.int (xs (j + 1))] (rest := []) (v := .int b1) (c1 := R1) (d1 := N) rfl yokX12_law yvX12_law lkw_240 rfl cl_12 (hE'.kd kO_12) (by decide) rfl rfl ⟨Nat.le_of_ble_eq_true rfl, Nat.le_of_ble_eq_true rfl⟩ ⟨by show (cells + 55) ≤ 601024; omega, by show (slots + 6 * 55) ≤ 7293034; omega⟩ rfl (Nat.le_of_ble_eq_true rfl) dL_law__1960 (mX12_law l hy) ?_
    refine x_istore hE' (L' := [(6, .int b1), (5, .int (nI 1)), (0, .ref b), (1, .ref (σ' 0)), (2, .ref (σ' 127)), (3, .ref (σ' 145)), (4, .int (nI j))]) dL_law__1963 (by decide) rfl ?_
    refine x_aload_n hE' 4 dL_law__1965 rfl rfl ?_
    refine x_callV1 hE' [] (rest := []) (v := .int (R1 127 0)) (c1 := R1) (d1 := N) rfl yokX12_thrown yvX12_thrown lkw_157 rfl cl_12 (hE'.kd kO_12) (by decide) rfl rfl ⟨Nat.le_of_ble_eq_true rfl, Nat.le_of_ble_eq_true rfl⟩ ⟨by show (cells + 55) ≤ 601024; omega, by show (slots + 6 * 55) ≤ 7293034; omega⟩ rfl (Nat.le_of_ble_eq_true rfl) dL_law__1966 (mX12_thrown l rfl) ?_
    refine x_iload hE' 1 dL_law__1969 rfl ?_
    refine x_icmp_eq hE' 1976 dL_law__1971 (by decide) (A := some ()) (B := none) (r := ()) (if_pos ht) (fun _ => ?_) (fun h => by cases h)
    refine x_iload hE' 1 dL_law__1976 rfl ?_
    refine x_if_ne hE' 1993 dL_law__1978 (by decide) (A := some ()) (B := none) (r := ()) (if_neg (by decide)) (fun _ => ?_) (fun h => by cases h)
    refine x_goto hE' 3277 dL_law__1993 (by decide) ?_
    refine x_pick [2, 3, 4, 5, 6] (L' := Lb σ' b j) rfl ?_
    exact hK σ' np (cells + 55) (slots + 6 * 55) R1 N hE' hg (by omega) (by omega)
  · refine x_aload_n hE 1 dL_law__1940 rfl rfl ?_
    refine x_arg hE hX hb hj hn 1 (by decide) (by decide) 0 4 dL_law__1941 dL_law__1942 dL_law__1944 dL_law__1945 dL_law__1946 rfl rfl ?_
    refine x_aload_n hE 3 dL_law__1947 rfl rfl ?_
    refine x_callSWL hE [.ref (σ 0), .int (xs (j + 1)), .ref (σ 145)] (rest := []) (v := some (.int 0)) (c1 := C1) (np1 := np1) (d1 := wrd N 145 0 b1.toInt64) rfl hle yowL_law ysL_law lkw_238 ⟨Nat.le_of_ble_eq_true rfl, Nat.le_of_ble_eq_true rfl⟩ ⟨by show cells + 55 ≤ 601024; omega, by show slots + 6 * 55 ≤ 7293034; omega⟩ rfl (Nat.le_of_ble_eq_true rfl) dL_law__1948 (mL_law l hfl (gi_al hG) hx (fun k q => by cases q) (fun a q => by cases q; exact hle)) (fun σ' hs' hE' => ?_)
    rw [← hs' 0 (hE.kd kO_11).1, ← hs' 127 (hE.kd kO_12).1, ← hs' 145 (hE.kd kA_145).1]
    refine x_istore hE' (L' := [(5, .int 0), (0, .ref b), (1, .ref (σ' 0)), (2, .ref (σ' 127)), (3, .ref (σ' 145)), (4, .int (nI j))]) dL_law__1951 (by decide) rfl ?_
    refine x_aload_n hE' 3 dL_law__1953 rfl rfl ?_
    refine x_arg hE' hX hb hj hn 1 (by decide) (by decide) 1 5 dL_law__1954 dL_law__1955 dL_law__1957 dL_law__1958 dL_law__1959 rfl rfl ?_
    refine x_callV1 hE' [.int (xs (j + 1))] (rest := []) (v := .int b1) (c1 := R1) (d1 := (wrd N 145 0 b1.toInt64)) rfl yokX12_law yvX12_law lkw_240 rfl cl_12 (hE'.kd kO_12) (by decide) rfl rfl ⟨Nat.le_of_ble_eq_true rfl, Nat.le_of_ble_eq_true rfl⟩ ⟨by show (cells + 55) ≤ 601024; omega, by show (slots + 6 * 55) ≤ 7293034; omega⟩ rfl (Nat.le_of_ble_eq_true rfl) dL_law__1960 (mX12_law l hy) ?_
    refine x_istore hE' (L' := [(6, .int b1), (5, .int 0), (0, .ref b), (1, .ref (σ' 0)), (2, .ref (σ' 127)), (3, .ref (σ' 145)), (4, .int (nI j))]) dL_law__1963 (by decide) rfl ?_
    refine x_aload_n hE' 4 dL_law__1965 rfl rfl ?_
    refine x_callV1 hE' [] (rest := []) (v := .int (R1 127 0)) (c1 := R1) (d1 := (wrd N 145 0 b1.toInt64)) rfl yokX12_thrown yvX12_thrown lkw_157 rfl cl_12 (hE'.kd kO_12) (by decide) rfl rfl ⟨Nat.le_of_ble_eq_true rfl, Nat.le_of_ble_eq_true rfl⟩ ⟨by show (cells + 55) ≤ 601024; omega, by show (slots + 6 * 55) ≤ 7293034; omega⟩ rfl (Nat.le_of_ble_eq_true rfl) dL_law__1966 (mX12_thrown l rfl) ?_
    refine x_iload hE' 1 dL_law__1969 rfl ?_
    refine x_icmp_eq hE' 1976 dL_law__1971 (by decide) (A := some ()) (B := none) (r := ()) (if_pos ht) (fun _ => ?_) (fun h => by cases h)
    refine x_iload hE' 1 dL_law__1976 rfl ?_
    refine x_if_ne hE' 1993 dL_law__1978 (by decide) (A := none) (B := some ()) (r := ()) (if_pos rfl) (fun h => by cases h) (fun _ => ?_)
    refine x_aload_n hE' 5 dL_law__1981 rfl rfl ?_
    refine x_iconst hE' 0 dL_law__1982 (by decide) ?_
    refine x_lald hE' (hE'.kd kA_145) dL_law__1983 (B := some ()) (r := ()) (by decide) (fun _ => ?_)
    refine x_iload hE' 0 dL_law__1984 rfl ?_
    refine x_i2l hE' dL_law__1986 ?_
    refine x_lcmp hE' dL_law__1987 ?_
    refine x_if_eq hE' 1993 dL_law__1988 (by decide) (A := some ()) (B := none) (r := ()) (if_pos cmp_out) (fun _ => ?_) (fun h => by cases h)
    refine x_goto hE' 3277 dL_law__1993 (by decide) ?_
    refine x_pick [2, 3, 4, 5, 6] (L' := Lb σ' b j) rfl ?_
    exact hK σ' np1 (cells + 55) (slots + 6 * 55) R1 (wrd N 145 0 b1.toInt64) hE' (gi_w hg) (by omega) (by omega)
theorem wL_c26 {p : Program} {l : Launch} {e : Env} {s : State} {m : MethodId} {args : Array Value} {below : List Frame} {meth : Method} {c : Code} {Y : Nat → ClassId} {D : va_G} {σ : Nat → Nat} {np b0 cells slots : Nat} {Q : State → Prop} {M : Mc} {N : Md} {b nX j : Nat} {xs : Nat → Int32} (hfl : l.stackTraces = false) (hE : EOK p s m args meth c cL_law_ 7 "SettlerColonyLaw" Y D σ np b0) (hX : va_X b nX xs s s.heap) (hb : b < b0) (hj : j + 6 ≤ nX) (hn : nX ≤ 3072) (hG : GI np M N) (hc : cells ≤ 600000) (hs : slots ≤ 7000000) (hK : LK p l e s m args below meth c Y D b0 cells slots Q b j) : Xw p l e room_1 s m args below meth c 7 Y D σ np b0 cells slots Q 1996 (Lb σ b j) [] M N := by
  unfold Lb
  obtain ⟨b1, R1, hx, hy, ht, hg⟩ := st_W (y := fun R => fX12_fault R ) hG (fun n t m h => c_fault h )
  refine x_aload_n hE 1 dL_law__1996 rfl rfl ?_
  refine x_callV1 hE [] (rest := []) (v := .int b1) (c1 := M) (d1 := N) rfl yokX11_fault yvX11_fault lkw_241 rfl cl_11 (hE.kd kO_11) (by decide) rfl rfl ⟨Nat.le_of_ble_eq_true rfl, Nat.le_of_ble_eq_true rfl⟩ ⟨by show cells ≤ 601024; omega, by show slots ≤ 7293034; omega⟩ rfl (Nat.le_of_ble_eq_true rfl) dL_law__1997 (mX11_fault l hx) ?_
  refine x_aload_n hE 2 dL_law__2000 rfl rfl ?_
  refine x_callV1 hE [] (rest := [.int b1]) (v := .int b1) (c1 := R1) (d1 := N) rfl yokX12_fault yvX12_fault lkw_244 rfl cl_12 (hE.kd kO_12) (by decide) rfl rfl ⟨Nat.le_of_ble_eq_true rfl, Nat.le_of_ble_eq_true rfl⟩ ⟨by show cells ≤ 601024; omega, by show slots ≤ 7293034; omega⟩ rfl (Nat.le_of_ble_eq_true rfl) dL_law__2001 (mX12_fault l hy) ?_
  refine x_icmp_eq hE 3277 dL_law__2004 (by decide) (A := some ()) (B := none) (r := ()) (if_pos rfl) (fun _ => ?_) (fun h => by cases h)
  refine x_pick [0, 1, 2, 3, 4] (L' := Lb σ b j) rfl ?_
  exact hK σ np cells slots R1 N hE hg (by omega) (by omega)
