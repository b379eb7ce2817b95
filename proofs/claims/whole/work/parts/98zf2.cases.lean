theorem wL_c9 {p : Program} {l : Launch} {e : Env} {s : State} {m : MethodId} {args : Array Value} {below : List Frame} {meth : Method} {c : Code} {Y : Nat → ClassId} {D : va_G} {σ : Nat → Nat} {np b0 cells slots : Nat} {Q : State → Prop} {M : Mc} {N : Md} {b nX j : Nat} {xs : Nat → Int32} (hfl : l.stackTraces = false) (hE : EOK p s m args meth c cL_law_ 7 "SettlerColonyLaw" Y D σ np b0) (hX : va_X b nX xs s s.heap) (hb : b < b0) (hj : j + 6 ≤ nX) (hn : nX ≤ 3072) (hG : GI np M N) (hc : cells ≤ 600000) (hs : slots ≤ 7000000) (hK : LK p l e s m args below meth c Y D b0 cells slots Q b j) : Xw p l e room_1 s m args below meth c 7 Y D σ np b0 cells slots Q 907 (Lb σ b j) [] M N := by
  unfold Lb
  obtain ⟨x1, hx, hq⟩ := st_R (e := eB) (y := fun R => fX12_person R (xs (j + 1)) (xs (j + 2))) hG (fun n t m h => c_person h (xs (j + 1)) (xs (j + 2)))
  rcases hq with ⟨k, b1, R1, rfl, he, hy, ht, hg⟩ | ⟨b1, R1, rfl, hy, ht, hg⟩
  · refine x_aload_n hE 1 dL_law__907 rfl rfl ?_
    refine x_arg hE hX hb hj hn 1 (by decide) (by decide) 0 4 dL_law__908 dL_law__909 dL_law__911 dL_law__912 dL_law__913 rfl rfl ?_
    refine x_arg hE hX hb hj hn 2 (by decide) (by decide) 0 4 dL_law__914 dL_law__915 dL_law__917 dL_law__918 dL_law__919 rfl rfl ?_
    refine x_aload_n hE 3 dL_law__920 rfl rfl ?_
    refine x_callSW hE [.ref (σ 0), .int (xs (j + 1)), .int (xs (j + 2)), .ref (σ 145)] (rest := []) (v := some (.int (eB k))) (c1 := M) (d1 := N) rfl yowL_person ysL_person lkw_188 ⟨Nat.le_of_ble_eq_true rfl, Nat.le_of_ble_eq_true rfl⟩ ⟨by show cells + 2 ≤ 601024; omega, by show slots + 6 * 2 ≤ 7293034; omega⟩ rfl (Nat.le_of_ble_eq_true rfl) dL_law__921 (mL_person l hfl hx) ?_
    refine x_istore hE (L' := [(5, .int (eB k)), (0, .ref b), (1, .ref (σ 0)), (2, .ref (σ 127)), (3, .ref (σ 145)), (4, .int (nI j))]) dL_law__924 (by decide) rfl ?_
    refine x_aload_n hE 3 dL_law__926 rfl rfl ?_
    refine x_arg hE hX hb hj hn 1 (by decide) (by decide) 1 5 dL_law__927 dL_law__928 dL_law__930 dL_law__931 dL_law__932 rfl rfl ?_
    refine x_arg hE hX hb hj hn 2 (by decide) (by decide) 1 5 dL_law__933 dL_law__934 dL_law__936 dL_law__937 dL_law__938 rfl rfl ?_
    refine x_callV1 hE [.int (xs (j + 1)), .int (xs (j + 2))] (rest := []) (v := .int b1) (c1 := R1) (d1 := N) rfl yokX12_person yvX12_person lkw_190 rfl cl_12 (hE.kd kO_12) (by decide) rfl rfl ⟨Nat.le_of_ble_eq_true rfl, Nat.le_of_ble_eq_true rfl⟩ ⟨by show (cells + 2) ≤ 601024; omega, by show (slots + 6 * 2) ≤ 7293034; omega⟩ rfl (Nat.le_of_ble_eq_true rfl) dL_law__939 (mX12_person l hy) ?_
    refine x_istore hE (L' := [(6, .int b1), (5, .int (eB k)), (0, .ref b), (1, .ref (σ 0)), (2, .ref (σ 127)), (3, .ref (σ 145)), (4, .int (nI j))]) dL_law__942 (by decide) rfl ?_
    refine x_aload_n hE 4 dL_law__944 rfl rfl ?_
    refine x_callV1 hE [] (rest := []) (v := .int (R1 127 0)) (c1 := R1) (d1 := N) rfl yokX12_thrown yvX12_thrown lkw_157 rfl cl_12 (hE.kd kO_12) (by decide) rfl rfl ⟨Nat.le_of_ble_eq_true rfl, Nat.le_of_ble_eq_true rfl⟩ ⟨by show (cells + 2) ≤ 601024; omega, by show (slots + 6 * 2) ≤ 7293034; omega⟩ rfl (Nat.le_of_ble_eq_true rfl) dL_law__945 (mX12_thrown l rfl) ?_
    refine x_iload hE 1 dL_law__948 rfl ?_
    refine x_icmp_eq hE 955 dL_law__950 (by decide) (A := some ()) (B := none) (r := ()) (if_pos ht) (fun _ => ?_) (fun h => by cases h)
    refine x_iload hE 1 dL_law__955 rfl ?_
    refine x_if_ne hE 972 dL_law__957 (by decide) (A := some ()) (B := none) (r := ()) (if_neg he) (fun _ => ?_) (fun h => by cases h)
    refine x_goto hE 3277 dL_law__972 (by decide) ?_
    refine x_pick [2, 3, 4, 5, 6] (L' := Lb σ b j) rfl ?_
    exact hK σ np (cells + 2) (slots + 6 * 2) R1 N hE hg (by omega) (by omega)
  · refine x_aload_n hE 1 dL_law__907 rfl rfl ?_
    refine x_arg hE hX hb hj hn 1 (by decide) (by decide) 0 4 dL_law__908 dL_law__909 dL_law__911 dL_law__912 dL_law__913 rfl rfl ?_
    refine x_arg hE hX hb hj hn 2 (by decide) (by decide) 0 4 dL_law__914 dL_law__915 dL_law__917 dL_law__918 dL_law__919 rfl rfl ?_
    refine x_aload_n hE 3 dL_law__920 rfl rfl ?_
    refine x_callSW hE [.ref (σ 0), .int (xs (j + 1)), .int (xs (j + 2)), .ref (σ 145)] (rest := []) (v := some (.int 0)) (c1 := M) (d1 := (wrd N 145 0 b1.toInt64)) rfl yowL_person ysL_person lkw_188 ⟨Nat.le_of_ble_eq_true rfl, Nat.le_of_ble_eq_true rfl⟩ ⟨by show cells + 2 ≤ 601024; omega, by show slots + 6 * 2 ≤ 7293034; omega⟩ rfl (Nat.le_of_ble_eq_true rfl) dL_law__921 (mL_person l hfl hx) ?_
    refine x_istore hE (L' := [(5, .int 0), (0, .ref b), (1, .ref (σ 0)), (2, .ref (σ 127)), (3, .ref (σ 145)), (4, .int (nI j))]) dL_law__924 (by decide) rfl ?_
    refine x_aload_n hE 3 dL_law__926 rfl rfl ?_
    refine x_arg hE hX hb hj hn 1 (by decide) (by decide) 1 5 dL_law__927 dL_law__928 dL_law__930 dL_law__931 dL_law__932 rfl rfl ?_
    refine x_arg hE hX hb hj hn 2 (by decide) (by decide) 1 5 dL_law__933 dL_law__934 dL_law__936 dL_law__937 dL_law__938 rfl rfl ?_
    refine x_callV1 hE [.int (xs (j + 1)), .int (xs (j + 2))] (rest := []) (v := .int b1) (c1 := R1) (d1 := (wrd N 145 0 b1.toInt64)) rfl yokX12_person yvX12_person lkw_190 rfl cl_12 (hE.kd kO_12) (by decide) rfl rfl ⟨Nat.le_of_ble_eq_true rfl, Nat.le_of_ble_eq_true rfl⟩ ⟨by show (cells + 2) ≤ 601024; omega, by show (slots + 6 * 2) ≤ 7293034; omega⟩ rfl (Nat.le_of_ble_eq_true rfl) dL_law__939 (mX12_person l hy) ?_
    refine x_istore hE (L' := [(6, .int b1), (5, .int 0), (0, .ref b), (1, .ref (σ 0)), (2, .ref (σ 127)), (3, .ref (σ 145)), (4, .int (nI j))]) dL_law__942 (by decide) rfl ?_
    refine x_aload_n hE 4 dL_law__944 rfl rfl ?_
    refine x_callV1 hE [] (rest := []) (v := .int (R1 127 0)) (c1 := R1) (d1 := (wrd N 145 0 b1.toInt64)) rfl yokX12_thrown yvX12_thrown lkw_157 rfl cl_12 (hE.kd kO_12) (by decide) rfl rfl ⟨Nat.le_of_ble_eq_true rfl, Nat.le_of_ble_eq_true rfl⟩ ⟨by show (cells + 2) ≤ 601024; omega, by show (slots + 6 * 2) ≤ 7293034; omega⟩ rfl (Nat.le_of_ble_eq_true rfl) dL_law__945 (mX12_thrown l rfl) ?_
    refine x_iload hE 1 dL_law__948 rfl ?_
    refine x_icmp_eq hE 955 dL_law__950 (by decide) (A := some ()) (B := none) (r := ()) (if_pos ht) (fun _ => ?_) (fun h => by cases h)
    refine x_iload hE 1 dL_law__955 rfl ?_
    refine x_if_ne hE 972 dL_law__957 (by decide) (A := none) (B := some ()) (r := ()) (if_pos rfl) (fun h => by cases h) (fun _ => ?_)
    refine x_aload_n hE 5 dL_law__960 rfl rfl ?_
    refine x_iconst hE 0 dL_law__961 (by decide) ?_
    refine x_lald hE (hE.kd kA_145) dL_law__962 (B := some ()) (r := ()) (by decide) (fun _ => ?_)
    refine x_iload hE 0 dL_law__963 rfl ?_
    refine x_i2l hE dL_law__965 ?_
    refine x_lcmp hE dL_law__966 ?_
    refine x_if_eq hE 972 dL_law__967 (by decide) (A := some ()) (B := none) (r := ()) (if_pos cmp_out) (fun _ => ?_) (fun h => by cases h)
    refine x_goto hE 3277 dL_law__972 (by decide) ?_
    refine x_pick [2, 3, 4, 5, 6] (L' := Lb σ b j) rfl ?_
    exact hK σ np (cells + 2) (slots + 6 * 2) R1 (wrd N 145 0 b1.toInt64) hE (gi_w hg) (by omega) (by omega)
theorem wL_c10 {p : Program} {l : Launch} {e : Env} {s : State} {m : MethodId} {args : Array Value} {below : List Frame} {meth : Method} {c : Code} {Y : Nat → ClassId} {D : va_G} {σ : Nat → Nat} {np b0 cells slots : Nat} {Q : State → Prop} {M : Mc} {N : Md} {b nX j : Nat} {xs : Nat → Int32} (hfl : l.stackTraces = false) (hE : EOK p s m args meth c cL_law_ 7 "SettlerColonyLaw" Y D σ np b0) (hX : va_X b nX xs s s.heap) (hb : b < b0) (hj : j + 6 ≤ nX) (hn : nX ≤ 3072) (hG : GI np M N) (hc : cells ≤ 600000) (hs : slots ≤ 7000000) (hK : LK p l e s m args below meth c Y D b0 cells slots Q b j) : Xw p l e room_1 s m args below meth c 7 Y D σ np b0 cells slots Q 975 (Lb σ b j) [] M N := by
  unfold Lb
  obtain ⟨x1, hx, hq⟩ := st_M (e := eA) (y := fun R => fX12_party R (xs (j + 1))) hG (fun n t m R h _ => c_party h (xs (j + 1))) (hA_fX11_party ka_rf)
  rcases hq with ⟨k, b1, R1, rfl, he, hy, ht, hg⟩ | ⟨b1, C1, R1, rfl, hy, ht, hg⟩
  · refine x_aload_n hE 1 dL_law__975 rfl rfl ?_
    refine x_arg hE hX hb hj hn 1 (by decide) (by decide) 0 4 dL_law__976 dL_law__977 dL_law__979 dL_law__980 dL_law__981 rfl rfl ?_
    refine x_aload_n hE 3 dL_law__982 rfl rfl ?_
    refine x_callSW hE [.ref (σ 0), .int (xs (j + 1)), .ref (σ 145)] (rest := []) (v := some (.int (eA k))) (c1 := M) (d1 := N) rfl yowL_party ysL_party lkw_191 ⟨Nat.le_of_ble_eq_true rfl, Nat.le_of_ble_eq_true rfl⟩ ⟨by show cells + 1 ≤ 601024; omega, by show slots + 6 * 1 ≤ 7293034; omega⟩ rfl (Nat.le_of_ble_eq_true rfl) dL_law__983 (mL_party l hfl hx) ?_
    refine x_istore hE (L' := [(5, .int (eA k)), (0, .ref b), (1, .ref (σ 0)), (2, .ref (σ 127)), (3, .ref (σ 145)), (4, .int (nI j))]) dL_law__986 (by decide) rfl ?_
    refine x_aload_n hE 3 dL_law__988 rfl rfl ?_
    refine x_arg hE hX hb hj hn 1 (by decide) (by decide) 1 5 dL_law__989 dL_law__990 dL_law__992 dL_law__993 dL_law__994 rfl rfl ?_
    refine x_callV1 hE [.int (xs (j + 1))] (rest := []) (v := .int b1) (c1 := R1) (d1 := N) rfl yokX12_party yvX12_party lkw_193 rfl cl_12 (hE.kd kO_12) (by decide) rfl rfl ⟨Nat.le_of_ble_eq_true rfl, Nat.le_of_ble_eq_true rfl⟩ ⟨by show (cells + 1) ≤ 601024; omega, by show (slots + 6 * 1) ≤ 7293034; omega⟩ rfl (Nat.le_of_ble_eq_true rfl) dL_law__995 (mX12_party l hy) ?_
    refine x_istore hE (L' := [(6, .int b1), (5, .int (eA k)), (0, .ref b), (1, .ref (σ 0)), (2, .ref (σ 127)), (3, .ref (σ 145)), (4, .int (nI j))]) dL_law__998 (by decide) rfl ?_
    refine x_aload_n hE 4 dL_law__1000 rfl rfl ?_
    refine x_callV1 hE [] (rest := []) (v := .int (R1 127 0)) (c1 := R1) (d1 := N) rfl yokX12_thrown yvX12_thrown lkw_157 rfl cl_12 (hE.kd kO_12) (by decide) rfl rfl ⟨Nat.le_of_ble_eq_true rfl, Nat.le_of_ble_eq_true rfl⟩ ⟨by show (cells + 1) ≤ 601024; omega, by show (slots + 6 * 1) ≤ 7293034; omega⟩ rfl (Nat.le_of_ble_eq_true rfl) dL_law__1001 (mX12_thrown l rfl) ?_
    refine x_iload hE 1 dL_law__1004 rfl ?_
    refine x_icmp_eq hE 1011 dL_law__1006 (by decide) (A := some ()) (B := none) (r := ()) (if_pos ht) (fun _ => ?_) (fun h => by cases h)
    refine x_iload hE 1 dL_law__1011 rfl ?_
    refine x_if_ne hE 1028 dL_law__1013 (by decide) (A := some ()) (B := none) (r := ()) (if_neg he) (fun _ => ?_) (fun h => by cases h)
    refine x_goto hE 3277 dL_law__1028 (by decide) ?_
    refine x_pick [2, 3, 4, 5, 6] (L' := Lb σ b j) rfl ?_
    exact hK σ np (cells + 1) (slots + 6 * 1) R1 N hE hg (by omega) (by omega)
  · refine x_aload_n hE 1 dL_law__975 rfl rfl ?_
    refine x_arg hE hX hb hj hn 1 (by decide) (by decide) 0 4 dL_law__976 dL_law__977 dL_law__979 dL_law__980 dL_law__981 rfl rfl ?_
    refine x_aload_n hE 3 dL_law__982 rfl rfl ?_
    refine x_callSW hE [.ref (σ 0), .int (xs (j + 1)), .ref (σ 145)] (rest := []) (v := some (.int 0)) (c1 := C1) (d1 := (wrd N 145 0 b1.toInt64)) rfl yowL_party ysL_party lkw_191 ⟨Nat.le_of_ble_eq_true rfl, Nat.le_of_ble_eq_true rfl⟩ ⟨by show cells + 1 ≤ 601024; omega, by show slots + 6 * 1 ≤ 7293034; omega⟩ rfl (Nat.le_of_ble_eq_true rfl) dL_law__983 (mL_party l hfl hx) ?_
    refine x_istore hE (L' := [(5, .int 0), (0, .ref b), (1, .ref (σ 0)), (2, .ref (σ 127)), (3, .ref (σ 145)), (4, .int (nI j))]) dL_law__986 (by decide) rfl ?_
    refine x_aload_n hE 3 dL_law__988 rfl rfl ?_
    refine x_arg hE hX hb hj hn 1 (by decide) (by decide) 1 5 dL_law__989 dL_law__990 dL_law__992 dL_law__993 dL_law__994 rfl rfl ?_
    refine x_callV1 hE [.int (xs (j + 1))] (rest := []) (v := .int b1) (c1 := R1) (d1 := (wrd N 145 0 b1.toInt64)) rfl yokX12_party yvX12_party lkw_193 rfl cl_12 (hE.kd kO_12) (by decide) rfl rfl ⟨Nat.le_of_ble_eq_true rfl, Nat.le_of_ble_eq_true rfl⟩ ⟨by show (cells + 1) ≤ 601024; omega, by show (slots + 6 * 1) ≤ 7293034; omega⟩ rfl (Nat.le_of_ble_eq_true rfl) dL_law__995 (mX12_party l hy) ?_
    refine x_istore hE (L' := [(6, .int b1), (5, .int 0), (0, .ref b), (1, .ref (σ 0)), (2, .ref (σ 127)), (3, .ref (σ 145)), (4, .int (nI j))]) dL_law__998 (by decide) rfl ?_
    refine x_aload_n hE 4 dL_law__1000 rfl rfl ?_
    refine x_callV1 hE [] (rest := []) (v := .int (R1 127 0)) (c1 := R1) (d1 := (wrd N 145 0 b1.toInt64)) rfl yokX12_thrown yvX12_thrown lkw_157 rfl cl_12 (hE.kd kO_12) (by decide) rfl rfl ⟨Nat.le_of_ble_eq_true rfl, Nat.le_of_ble_eq_true rfl⟩ ⟨by show (cells + 1) ≤ 601024; omega, by show (slots + 6 * 1) ≤ 7293034; omega⟩ rfl (Nat.le_of_ble_eq_true rfl) dL_law__1001 (mX12_thrown l rfl) ?_
    refine x_iload hE 1 dL_law__1004 rfl ?_
    refine x_icmp_eq hE 1011 dL_law__1006 (by decide) (A := some ()) (B := none) (r := ()) (if_pos ht) (fun _ => ?_) (fun h => by cases h)
    refine x_iload hE 1 dL_law__1011 rfl ?_
    refine x_if_ne hE 1028 dL_law__1013 (by decide) (A := none) (B := some ()) (r := ()) (if_pos rfl) (fun h => by cases h) (fun _ => ?_)
    refine x_aload_n hE 5 dL_law__1016 rfl rfl ?_
    refine x_iconst hE 0 dL_law__1017 (by decide) ?_
    refine x_lald hE (hE.kd kA_145) dL_law__1018 (B := some ()) (r := ()) (by decide) (fun _ => ?_)
    refine x_iload hE 0 dL_law__1019 rfl ?_
    refine x_i2l hE dL_law__1021 ?_
    refine x_lcmp hE dL_law__1022 ?_
    refine x_if_eq hE 1028 dL_law__1023 (by decide) (A := some ()) (B := none) (r := ()) (if_pos cmp_out) (fun _ => ?_) (fun h => by cases h)
    refine x_goto hE 3277 dL_law__1028 (by decide) ?_
    refine x_pick [2, 3, 4, 5, 6] (L' := Lb σ b j) rfl ?_
    exact hK σ np (cells + 1) (slots + 6 * 1) R1 (wrd N 145 0 b1.toInt64) hE (gi_w hg) (by omega) (by omega)
theorem wL_c11 {p : Program} {l : Launch} {e : Env} {s : State} {m : MethodId} {args : Array Value} {below : List Frame} {meth : Method} {c : Code} {Y : Nat → ClassId} {D : va_G} {σ : Nat → Nat} {np b0 cells slots : Nat} {Q : State → Prop} {M : Mc} {N : Md} {b nX j : Nat} {xs : Nat → Int32} (hfl : l.stackTraces = false) (hE : EOK p s m args meth c cL_law_ 7 "SettlerColonyLaw" Y D σ np b0) (hX : va_X b nX xs s s.heap) (hb : b < b0) (hj : j + 6 ≤ nX) (hn : nX ≤ 3072) (hG : GI np M N) (hc : cells ≤ 600000) (hs : slots ≤ 7000000) (hK : LK p l e s m args below meth c Y D b0 cells slots Q b j) : Xw p l e room_1 s m args below meth c 7 Y D σ np b0 cells slots Q 1031 (Lb σ b j) [] M N := by
  unfold Lb
  obtain ⟨x1, hx, hq⟩ := st_M (e := eB) (y := fun R => fX12_queue R (xs (j + 1)) (xs (j + 2))) hG (fun n t m R h _ => c_queue h (xs (j + 1)) (xs (j + 2))) (hA_fX11_queue ka_rf)
  rcases hq with ⟨k, b1, R1, rfl, he, hy, ht, hg⟩ | ⟨b1, C1, R1, rfl, hy, ht, hg⟩
  · refine x_aload_n hE 1 dL_law__1031 rfl rfl ?_
    refine x_arg hE hX hb hj hn 1 (by decide) (by decide) 0 4 dL_law__1032 dL_law__1033 dL_law__1035 dL_law__1036 dL_law__1037 rfl rfl ?_
    refine x_arg hE hX hb hj hn 2 (by decide) (by decide) 0 4 dL_law__1038 dL_law__1039 dL_law__1041 dL_law__1042 dL_law__1043 rfl rfl ?_
    refine x_aload_n hE 3 dL_law__1044 rfl rfl ?_
    refine x_callSW hE [.ref (σ 0), .int (xs (j + 1)), .int (xs (j + 2)), .ref (σ 145)] (rest := []) (v := some (.int (eB k))) (c1 := M) (d1 := N) rfl yowL_queue ysL_queue lkw_194 ⟨Nat.le_of_ble_eq_true rfl, Nat.le_of_ble_eq_true rfl⟩ ⟨by show cells + 2 ≤ 601024; omega, by show slots + 6 * 2 ≤ 7293034; omega⟩ rfl (Nat.le_of_ble_eq_true rfl) dL_law__1045 (mL_queue l hfl hx) ?_
    refine x_istore hE (L' := [(5, .int (eB k)), (0, .ref b), (1, .ref (σ 0)), (2, .ref (σ 127)), (3, .ref (σ 145)), (4, .int (nI j))]) dL_law__1048 (by decide) rfl ?_
    refine x_aload_n hE 3 dL_law__1050 rfl rfl ?_
    refine x_arg hE hX hb hj hn 1 (by decide) (by decide) 1 5 dL_law__1051 dL_law__1052 dL_law__1054 dL_law__1055 dL_law__1056 rfl rfl ?_
    refine x_arg hE hX hb hj hn 2 (by decide) (by decide) 1 5 dL_law__1057 dL_law__1058 dL_law__1060 dL_law__1061 dL_law__1062 rfl rfl ?_
    refine x_callV1 hE [.int (xs (j + 1)), .int (xs (j + 2))] (rest := []) (v := .int b1) (c1 := R1) (d1 := N) rfl yokX12_queue yvX12_queue lkw_196 rfl cl_12 (hE.kd kO_12) (by decide) rfl rfl ⟨Nat.le_of_ble_eq_true rfl, Nat.le_of_ble_eq_true rfl⟩ ⟨by show (cells + 2) ≤ 601024; omega, by show (slots + 6 * 2) ≤ 7293034; omega⟩ rfl (Nat.le_of_ble_eq_true rfl) dL_law__1063 (mX12_queue l hy) ?_
    refine x_istore hE (L' := [(6, .int b1), (5, .int (eB k)), (0, .ref b), (1, .ref (σ 0)), (2, .ref (σ 127)), (3, .ref (σ 145)), (4, .int (nI j))]) dL_law__1066 (by decide) rfl ?_
    refine x_aload_n hE 4 dL_law__1068 rfl rfl ?_
    refine x_callV1 hE [] (rest := []) (v := .int (R1 127 0)) (c1 := R1) (d1 := N) rfl yokX12_thrown yvX12_thrown lkw_157 rfl cl_12 (hE.kd kO_12) (by decide) rfl rfl ⟨Nat.le_of_ble_eq_true rfl, Nat.le_of_ble_eq_true rfl⟩ ⟨by show (cells + 2) ≤ 601024; omega, by show (slots + 6 * 2) ≤ 7293034; omega⟩ rfl (Nat.le_of_ble_eq_true rfl) dL_law__1069 (mX12_thrown l rfl) ?_
    refine x_iload hE 1 dL_law__1072 rfl ?_
    refine x_icmp_eq hE 1079 dL_law__1074 (by decide) (A := some ()) (B := none) (r := ()) (if_pos ht) (fun _ => ?_) (fun h => by cases h)
    refine x_iload hE 1 dL_law__1079 rfl ?_
    refine x_if_ne hE 1096 dL_law__1081 (by decide) (A := some ()) (B := none) (r := ()) (if_neg he) (fun _ => ?_) (fun h => by cases h)
    refine x_goto hE 3277 dL_law__1096 (by decide) ?_
    refine x_pick [2, 3, 4, 5, 6] (L' := Lb σ b j) rfl ?_
    exact hK σ np (cells + 2) (slots + 6 * 2) R1 N hE hg (by omega) (by omega)
  · refine x_aload_n hE 1 dL_law__1031 rfl rfl ?_
    refine x_arg hE hX hb hj hn 1 (by decide) (by decide) 0 4 dL_law__1032 dL_law__1033 dL_law__1035 dL_law__1036 dL_law__1037 rfl rfl ?_
    refine x_arg hE hX hb hj hn 2 (by decide) (by decide) 0 4 dL_law__1038 dL_law__1039 dL_law__1041 dL_law__1042 dL_law__1043 rfl rfl ?_
    refine x_aload_n hE 3 dL_law__1044 rfl rfl ?_
    refine x_callSW hE [.ref (σ 0), .int (xs (j + 1)), .int (xs (j + 2)), .ref (σ 145)] (rest := []) (v := some (.int 0)) (c1 := C1) (d1 := (wrd N 145 0 b1.toInt64)) rfl yowL_queue ysL_queue lkw_194 ⟨Nat.le_of_ble_eq_true rfl, Nat.le_of_ble_eq_true rfl⟩ ⟨by show cells + 2 ≤ 601024; omega, by show slots + 6 * 2 ≤ 7293034; omega⟩ rfl (Nat.le_of_ble_eq_true rfl) dL_law__1045 (mL_queue l hfl hx) ?_
    refine x_istore hE (L' := [(5, .int 0), (0, .ref b), (1, .ref (σ 0)), (2, .ref (σ 127)), (3, .ref (σ 145)), (4, .int (nI j))]) dL_law__1048 (by decide) rfl ?_
    refine x_aload_n hE 3 dL_law__1050 rfl rfl ?_
    refine x_arg hE hX hb hj hn 1 (by decide) (by decide) 1 5 dL_law__1051 dL_law__1052 dL_law__1054 dL_law__1055 dL_law__1056 rfl rfl ?_
    refine x_arg hE hX hb hj hn 2 (by decide) (by decide) 1 5 dL_law__1057 dL_law__1058 dL_law__1060 dL_law__1061 dL_law__1062 rfl rfl ?_
    refine x_callV1 hE [.int (xs (j + 1)), .int (xs (j + 2))] (rest := []) (v := .int b1) (c1 := R1) (d1 := (wrd N 145 0 b1.toInt64)) rfl yokX12_queue yvX12_queue lkw_196 rfl cl_12 (hE.kd kO_12) (by decide) rfl rfl ⟨Nat.le_of_ble_eq_true rfl, Nat.le_of_ble_eq_true rfl⟩ ⟨by show (cells + 2) ≤ 601024; omega, by show (slots + 6 * 2) ≤ 7293034; omega⟩ rfl (Nat.le_of_ble_eq_true rfl) dL_law__1063 (mX12_queue l hy) ?_
    refine x_istore hE (L' := [(6, .int b1), (5, .int 0), (0, .ref b), (1, .ref (σ 0)), (2, .ref (σ 127)), (3, .ref (σ 145)), (4, .int (nI j))]) dL_law__1066 (by decide) rfl ?_
    refine x_aload_n hE 4 dL_law__1068 rfl rfl ?_
    refine x_callV1 hE [] (rest := []) (v := .int (R1 127 0)) (c1 := R1) (d1 := (wrd N 145 0 b1.toInt64)) rfl yokX12_thrown yvX12_thrown lkw_157 rfl cl_12 (hE.kd kO_12) (by decide) rfl rfl ⟨Nat.le_of_ble_eq_true rfl, Nat.le_of_ble_eq_true rfl⟩ ⟨by show (cells + 2) ≤ 601024; omega, by show (slots + 6 * 2) ≤ 7293034; omega⟩ rfl (Nat.le_of_ble_eq_true rfl) dL_law__1069 (mX12_thrown l rfl) ?_
    refine x_iload hE 1 dL_law__1072 rfl ?_
    refine x_icmp_eq hE 1079 dL_law__1074 (by decide) (A := some ()) (B := none) (r := ()) (if_pos ht) (fun _ => ?_) (fun h => by cases h)
    refine x_iload hE 1 dL_law__1079 rfl ?_
    refine x_if_ne hE 1096 dL_law__1081 (by decide) (A := none) (B := some ()) (r := ()) (if_pos rfl) (fun h => by cases h) (fun _ => ?_)
    refine x_aload_n hE 5 dL_law__1084 rfl rfl ?_
    refine x_iconst hE 0 dL_law__1085 (by decide) ?_
    refine x_lald hE (hE.kd kA_145) dL_law__1086 (B := some ()) (r := ()) (by decide) (fun _ => ?_)
    refine x_iload hE 0 dL_law__1087 rfl ?_
    refine x_i2l hE dL_law__1089 ?_
    refine x_lcmp hE dL_law__1090 ?_
    refine x_if_eq hE 1096 dL_law__1091 (by decide) (A := some ()) (B := none) (r := ()) (if_pos cmp_out) (fun _ => ?_) (fun h => by cases h)
    refine x_goto hE 3277 dL_law__1096 (by decide) ?_
    refine x_pick [2, 3, 4, 5, 6] (L' := Lb σ b j) rfl ?_
    exact hK σ np (cells + 2) (slots + 6 * 2) R1 (wrd N 145 0 b1.toInt64) hE (gi_w hg) (by omega) (by omega)
theorem wL_c12 {p : Program} {l : Launch} {e : Env} {s : State} {m : MethodId} {args : Array Value} {below : List Frame} {meth : Method} {c : Code} {Y : Nat → ClassId} {D : va_G} {σ : Nat → Nat} {np b0 cells slots : Nat} {Q : State → Prop} {M : Mc} {N : Md} {b nX j : Nat} {xs : Nat → Int32} (hfl : l.stackTraces = false) (hE : EOK p s m args meth c cL_law_ 7 "SettlerColonyLaw" Y D σ np b0) (hX : va_X b nX xs s s.heap) (hb : b < b0) (hj : j + 6 ≤ nX) (hn : nX ≤ 3072) (hG : GI np M N) (hc : cells ≤ 600000) (hs : slots ≤ 7000000) (hK : LK p l e s m args below meth c Y D b0 cells slots Q b j) : Xw p l e room_1 s m args below meth c 7 Y D σ np b0 cells slots Q 1099 (Lb σ b j) [] M N := by
  unfold Lb
  obtain ⟨x1, hx, hq⟩ := st_R (e := eB) (y := fun R => fX12_where R (xs (j + 1)) (xs (j + 2))) hG (fun n t m h => c_where h (xs (j + 1)) (xs (j + 2)))
  rcases hq with ⟨k, b1, R1, rfl, he, hy, ht, hg⟩ | ⟨b1, R1, rfl, hy, ht, hg⟩
  · refine x_aload_n hE 1 dL_law__1099 rfl rfl ?_
    refine x_arg hE hX hb hj hn 1 (by decide) (by decide) 0 4 dL_law__1100 dL_law__1101 dL_law__1103 dL_law__1104 dL_law__1105 rfl rfl ?_
    refine x_arg hE hX hb hj hn 2 (by decide) (by decide) 0 4 dL_law__1106 dL_law__1107 dL_law__1109 dL_law__1110 dL_law__1111 rfl rfl ?_
    refine x_aload_n hE 3 dL_law__1112 rfl rfl ?_
    refine x_callSW hE [.ref (σ 0), .int (xs (j + 1)), .int (xs (j + 2)), .ref (σ 145)] (rest := []) (v := some (.int (eB k))) (c1 := M) (d1 := N) rfl yowL_where ysL_where lkw_197 ⟨Nat.le_of_ble_eq_true rfl, Nat.le_of_ble_eq_true rfl⟩ ⟨by show cells + 2 ≤ 601024; omega, by show slots + 6 * 2 ≤ 7293034; omega⟩ rfl (Nat.le_of_ble_eq_true rfl) dL_law__1113 (mL_where l hfl hx) ?_
    refine x_istore hE (L' := [(5, .int (eB k)), (0, .ref b), (1, .ref (σ 0)), (2, .ref (σ 127)), (3, .ref (σ 145)), (4, .int (nI j))]) dL_law__1116 (by decide) rfl ?_
    refine x_aload_n hE 3 dL_law__1118 rfl rfl ?_
    refine x_arg hE hX hb hj hn 1 (by decide) (by decide) 1 5 dL_law__1119 dL_law__1120 dL_law__1122 dL_law__1123 dL_law__1124 rfl rfl ?_
    refine x_arg hE hX hb hj hn 2 (by decide) (by decide) 1 5 dL_law__1125 dL_law__1126 dL_law__1128 dL_law__1129 dL_law__1130 rfl rfl ?_
    refine x_callV1 hE [.int (xs (j + 1)), .int (xs (j + 2))] (rest := []) (v := .int b1) (c1 := R1) (d1 := N) rfl yokX12_where yvX12_where lkw_199 rfl cl_12 (hE.kd kO_12) (by decide) rfl rfl ⟨Nat.le_of_ble_eq_true rfl, Nat.le_of_ble_eq_true rfl⟩ ⟨by show (cells + 2) ≤ 601024; omega, by show (slots + 6 * 2) ≤ 7293034; omega⟩ rfl (Nat.le_of_ble_eq_true rfl) dL_law__1131 (mX12_where l hy) ?_
    refine x_istore hE (L' := [(6, .int b1), (5, .int (eB k)), (0, .ref b), (1, .ref (σ 0)), (2, .ref (σ 127)), (3, .ref (σ 145)), (4, .int (nI j))]) dL_law__1134 (by decide) rfl ?_
    refine x_aload_n hE 4 dL_law__1136 rfl rfl ?_
    refine x_callV1 hE [] (rest := []) (v := .int (R1 127 0)) (c1 := R1) (d1 := N) rfl yokX12_thrown yvX12_thrown lkw_157 rfl cl_12 (hE.kd kO_12) (by decide) rfl rfl ⟨Nat.le_of_ble_eq_true rfl, Nat.le_of_ble_eq_true rfl⟩ ⟨by show (cells + 2) ≤ 601024; omega, by show (slots + 6 * 2) ≤ 7293034; omega⟩ rfl (Nat.le_of_ble_eq_true rfl) dL_law__1137 (mX12_thrown l rfl) ?_
    refine x_iload hE 1 dL_law__1140 rfl ?_
    refine x_icmp_eq hE 1147 dL_law__1142 (by decide) (A := some ()) (B := none) (r := ()) (if_pos ht) (fun _ => ?_) (fun h => by cases h)
    refine x_iload hE 1 dL_law__1147 rfl ?_
    refine x_if_ne hE 1164 dL_law__1149 (by decide) (A := some ()) (B := none) (r := ()) (if_neg he) (fun _ => ?_) (fun h => by cases h)
    refine x_goto hE 3277 dL_law__1164 (by decide) ?_
    refine x_pick [2, 3, 4, 5, 6] (L' := Lb σ b j) rfl ?_
    exact hK σ np (cells + 2) (slots + 6 * 2) R1 N hE hg (by omega) (by omega)
  · refine x_aload_n hE 1 dL_law__1099 rfl rfl ?_
    refine x_arg hE hX hb hj hn 1 (by decide) (by decide) 0 4 dL_law__1100 dL_law__1101 dL_law__1103 dL_law__1104 dL_law__1105 rfl rfl ?_
    refine x_arg hE hX hb hj hn 2 (by decide) (by decide) 0 4 dL_law__1106 dL_law__1107 dL_law__1109 dL_law__1110 dL_law__1111 rfl rfl ?_
    refine x_aload_n hE 3 dL_law__1112 rfl rfl ?_
    refine x_callSW hE [.ref (σ 0), .int (xs (j + 1)), .int (xs (j + 2)), .ref (σ 145)] (rest := []) (v := some (.int 0)) (c1 := M) (d1 := (wrd N 145 0 b1.toInt64)) rfl yowL_where ysL_where lkw_197 ⟨Nat.le_of_ble_eq_true rfl, Nat.le_of_ble_eq_true rfl⟩ ⟨by show cells + 2 ≤ 601024; omega, by show slots + 6 * 2 ≤ 7293034; omega⟩ rfl (Nat.le_of_ble_eq_true rfl) dL_law__1113 (mL_where l hfl hx) ?_
    refine x_istore hE (L' := [(5, .int 0), (0, .ref b), (1, .ref (σ 0)), (2, .ref (σ 127)), (3, .ref (σ 145)), (4, .int (nI j))]) dL_law__1116 (by decide) rfl ?_
    refine x_aload_n hE 3 dL_law__1118 rfl rfl ?_
    refine x_arg hE hX hb hj hn 1 (by decide) (by decide) 1 5 dL_law__1119 dL_law__1120 dL_law__1122 dL_law__1123 dL_law__1124 rfl rfl ?_
    refine x_arg hE hX hb hj hn 2 (by decide) (by decide) 1 5 dL_law__1125 dL_law__1126 dL_law__1128 dL_law__1129 dL_law__1130 rfl rfl ?_
    refine x_callV1 hE [.int (xs (j + 1)), .int (xs (j + 2))] (rest := []) (v := .int b1) (c1 := R1) (d1 := (wrd N 145 0 b1.toInt64)) rfl yokX12_where yvX12_where lkw_199 rfl cl_12 (hE.kd kO_12) (by decide) rfl rfl ⟨Nat.le_of_ble_eq_true rfl, Nat.le_of_ble_eq_true rfl⟩ ⟨by show (cells + 2) ≤ 601024; omega, by show (slots + 6 * 2) ≤ 7293034; omega⟩ rfl (Nat.le_of_ble_eq_true rfl) dL_law__1131 (mX12_where l hy) ?_
    refine x_istore hE (L' := [(6, .int b1), (5, .int 0), (0, .ref b), (1, .ref (σ 0)), (2, .ref (σ 127)), (3, .ref (σ 145)), (4, .int (nI j))]) dL_law__1134 (by decide) rfl ?_
    refine x_aload_n hE 4 dL_law__1136 rfl rfl ?_
    refine x_callV1 hE [] (rest := []) (v := .int (R1 127 0)) (c1 := R1) (d1 := (wrd N 145 0 b1.toInt64)) rfl yokX12_thrown yvX12_thrown lkw_157 rfl cl_12 (hE.kd kO_12) (by decide) rfl rfl ⟨Nat.le_of_ble_eq_true rfl, Nat.le_of_ble_eq_true rfl⟩ ⟨by show (cells + 2) ≤ 601024; omega, by show (slots + 6 * 2) ≤ 7293034; omega⟩ rfl (Nat.le_of_ble_eq_true rfl) dL_law__1137 (mX12_thrown l rfl) ?_
    refine x_iload hE 1 dL_law__1140 rfl ?_
    refine x_icmp_eq hE 1147 dL_law__1142 (by decide) (A := some ()) (B := none) (r := ()) (if_pos ht) (fun _ => ?_) (fun h => by cases h)
    refine x_iload hE 1 dL_law__1147 rfl ?_
    refine x_if_ne hE 1164 dL_law__1149 (by decide) (A := none) (B := some ()) (r := ()) (if_pos rfl) (fun h => by cases h) (fun _ => ?_)
    refine x_aload_n hE 5 dL_law__1152 rfl rfl ?_
    refine x_iconst hE 0 dL_law__1153 (by decide) ?_
    refine x_lald hE (hE.kd kA_145) dL_law__1154 (B := some ()) (r := ()) (by decide) (fun _ => ?_)
    refine x_iload hE 0 dL_law__1155 rfl ?_
    refine x_i2l hE dL_law__1157 ?_
    refine x_lcmp hE dL_law__1158 ?_
    refine x_if_eq hE 1164 dL_law__1159 (by decide) (A := some ()) (B := none) (r := ()) (if_pos cmp_out) (fun _ => ?_) (fun h => by cases h)
    refine x_goto hE 3277 dL_law__1164 (by decide) ?_
    refine x_pick [2, 3, 4, 5, 6] (L' := Lb σ b j) rfl ?_
    exact hK σ np (cells + 2) (slots + 6 * 2) R1 (wrd N 145 0 b1.toInt64) hE (gi_w hg) (by omega) (by omega)
theorem wL_c13 {p : Program} {l : Launch} {e : Env} {s : State} {m : MethodId} {args : Array Value} {below : List Frame} {meth : Method} {c : Code} {Y : Nat → ClassId} {D : va_G} {σ : Nat → Nat} {np b0 cells slots : Nat} {Q : State → Prop} {M : Mc} {N : Md} {b nX j : Nat} {xs : Nat → Int32} (hfl : l.stackTraces = false) (hE : EOK p s m args meth c cL_law_ 7 "SettlerColonyLaw" Y D σ np b0) (hX : va_X b nX xs s s.heap) (hb : b < b0) (hj : j + 6 ≤ nX) (hn : nX ≤ 3072) (hG : GI np M N) (hc : cells ≤ 600000) (hs : slots ≤ 7000000) (hK : LK p l e s m args below meth c Y D b0 cells slots Q b j) : Xw p l e room_1 s m args below meth c 7 Y D σ np b0 cells slots Q 1167 (Lb σ b j) [] M N := by
  unfold Lb
  obtain ⟨x1, hx, hq⟩ := st_M (e := eB) (y := fun R => fX12_lot R (xs (j + 1))) hG (fun n t m R h _ => c_lot h (xs (j + 1))) (hA_fX11_lot ka_rf)
  rcases hq with ⟨k, b1, R1, rfl, he, hy, ht, hg⟩ | ⟨b1, C1, R1, rfl, hy, ht, hg⟩
  · refine x_aload_n hE 1 dL_law__1167 rfl rfl ?_
    refine x_arg hE hX hb hj hn 1 (by decide) (by decide) 0 4 dL_law__1168 dL_law__1169 dL_law__1171 dL_law__1172 dL_law__1173 rfl rfl ?_
    refine x_aload_n hE 3 dL_law__1174 rfl rfl ?_
    refine x_callSW hE [.ref (σ 0), .int (xs (j + 1)), .ref (σ 145)] (rest := []) (v := some (.int (eB k))) (c1 := M) (d1 := N) rfl yowL_lot ysL_lot lkw_200 ⟨Nat.le_of_ble_eq_true rfl, Nat.le_of_ble_eq_true rfl⟩ ⟨by show cells + 1 ≤ 601024; omega, by show slots + 6 * 1 ≤ 7293034; omega⟩ rfl (Nat.le_of_ble_eq_true rfl) dL_law__1175 (mL_lot l hfl hx) ?_
    refine x_istore hE (L' := [(5, .int (eB k)), (0, .ref b), (1, .ref (σ 0)), (2, .ref (σ 127)), (3, .ref (σ 145)), (4, .int (nI j))]) dL_law__1178 (by decide) rfl ?_
    refine x_aload_n hE 3 dL_law__1180 rfl rfl ?_
    refine x_arg hE hX hb hj hn 1 (by decide) (by decide) 1 5 dL_law__1181 dL_law__1182 dL_law__1184 dL_law__1185 dL_law__1186 rfl rfl ?_
    refine x_callV1 hE [.int (xs (j + 1))] (rest := []) (v := .int b1) (c1 := R1) (d1 := N) rfl yokX12_lot yvX12_lot lkw_202 rfl cl_12 (hE.kd kO_12) (by decide) rfl rfl ⟨Nat.le_of_ble_eq_true rfl, Nat.le_of_ble_eq_true rfl⟩ ⟨by show (cells + 1) ≤ 601024; omega, by show (slots + 6 * 1) ≤ 7293034; omega⟩ rfl (Nat.le_of_ble_eq_true rfl) dL_law__1187 (mX12_lot l hy) ?_
    refine x_istore hE (L' := [(6, .int b1), (5, .int (eB k)), (0, .ref b), (1, .ref (σ 0)), (2, .ref (σ 127)), (3, .ref (σ 145)), (4, .int (nI j))]) dL_law__1190 (by decide) rfl ?_
    refine x_aload_n hE 4 dL_law__1192 rfl rfl ?_
    refine x_callV1 hE [] (rest := []) (v := .int (R1 127 0)) (c1 := R1) (d1 := N) rfl yokX12_thrown yvX12_thrown lkw_157 rfl cl_12 (hE.kd kO_12) (by decide) rfl rfl ⟨Nat.le_of_ble_eq_true rfl, Nat.le_of_ble_eq_true rfl⟩ ⟨by show (cells + 1) ≤ 601024; omega, by show (slots + 6 * 1) ≤ 7293034; omega⟩ rfl (Nat.le_of_ble_eq_true rfl) dL_law__1193 (mX12_thrown l rfl) ?_
    refine x_iload hE 1 dL_law__1196 rfl ?_
    refine x_icmp_eq hE 1203 dL_law__1198 (by decide) (A := some ()) (B := none) (r := ()) (if_pos ht) (fun _ => ?_) (fun h => by cases h)
    refine x_iload hE 1 dL_law__1203 rfl ?_
    refine x_if_ne hE 1220 dL_law__1205 (by decide) (A := some ()) (B := none) (r := ()) (if_neg he) (fun _ => ?_) (fun h => by cases h)
    refine x_goto hE 3277 dL_law__1220 (by decide) ?_
    refine x_pick [2, 3, 4, 5, 6] (L' := Lb σ b j) rfl ?_
    exact hK σ np (cells + 1) (slots + 6 * 1) R1 N hE hg (by omega) (by omega)
  · refine x_aload_n hE 1 dL_law__1167 rfl rfl ?_
    refine x_arg hE hX hb hj hn 1 (by decide) (by decide) 0 4 dL_law__1168 dL_law__1169 dL_law__1171 dL_law__1172 dL_law__1173 rfl rfl ?_
    refine x_aload_n hE 3 dL_law__1174 rfl rfl ?_
    refine x_callSW hE [.ref (σ 0), .int (xs (j + 1)), .ref (σ 145)] (rest := []) (v := some (.int 0)) (c1 := C1) (d1 := (wrd N 145 0 b1.toInt64)) rfl yowL_lot ysL_lot lkw_200 ⟨Nat.le_of_ble_eq_true rfl, Nat.le_of_ble_eq_true rfl⟩ ⟨by show cells + 1 ≤ 601024; omega, by show slots + 6 * 1 ≤ 7293034; omega⟩ rfl (Nat.le_of_ble_eq_true rfl) dL_law__1175 (mL_lot l hfl hx) ?_
    refine x_istore hE (L' := [(5, .int 0), (0, .ref b), (1, .ref (σ 0)), (2, .ref (σ 127)), (3, .ref (σ 145)), (4, .int (nI j))]) dL_law__1178 (by decide) rfl ?_
    refine x_aload_n hE 3 dL_law__1180 rfl rfl ?_
    refine x_arg hE hX hb hj hn 1 (by decide) (by decide) 1 5 dL_law__1181 dL_law__1182 dL_law__1184 dL_law__1185 dL_law__1186 rfl rfl ?_
    refine x_callV1 hE [.int (xs (j + 1))] (rest := []) (v := .int b1) (c1 := R1) (d1 := (wrd N 145 0 b1.toInt64)) rfl yokX12_lot yvX12_lot lkw_202 rfl cl_12 (hE.kd kO_12) (by decide) rfl rfl ⟨Nat.le_of_ble_eq_true rfl, Nat.le_of_ble_eq_true rfl⟩ ⟨by show (cells + 1) ≤ 601024; omega, by show (slots + 6 * 1) ≤ 7293034; omega⟩ rfl (Nat.le_of_ble_eq_true rfl) dL_law__1187 (mX12_lot l hy) ?_
    refine x_istore hE (L' := [(6, .int b1), (5, .int 0), (0, .ref b), (1, .ref (σ 0)), (2, .ref (σ 127)), (3, .ref (σ 145)), (4, .int (nI j))]) dL_law__1190 (by decide) rfl ?_
    refine x_aload_n hE 4 dL_law__1192 rfl rfl ?_
    refine x_callV1 hE [] (rest := []) (v := .int (R1 127 0)) (c1 := R1) (d1 := (wrd N 145 0 b1.toInt64)) rfl yokX12_thrown yvX12_thrown lkw_157 rfl cl_12 (hE.kd kO_12) (by decide) rfl rfl ⟨Nat.le_of_ble_eq_true rfl, Nat.le_of_ble_eq_true rfl⟩ ⟨by show (cells + 1) ≤ 601024; omega, by show (slots + 6 * 1) ≤ 7293034; omega⟩ rfl (Nat.le_of_ble_eq_true rfl) dL_law__1193 (mX12_thrown l rfl) ?_
    refine x_iload hE 1 dL_law__1196 rfl ?_
    refine x_icmp_eq hE 1203 dL_law__1198 (by decide) (A := some ()) (B := none) (r := ()) (if_pos ht) (fun _ => ?_) (fun h => by cases h)
    refine x_iload hE 1 dL_law__1203 rfl ?_
    refine x_if_ne hE 1220 dL_law__1205 (by decide) (A := none) (B := some ()) (r := ()) (if_pos rfl) (fun h => by cases h) (fun _ => ?_)
    refine x_aload_n hE 5 dL_law__1208 rfl rfl ?_
    refine x_iconst hE 0 dL_law__1209 (by decide) ?_
    refine x_lald hE (hE.kd kA_145) dL_law__1210 (B := some ()) (r := ()) (by decide) (fun _ => ?_)
    refine x_iload hE 0 dL_law__1211 rfl ?_
    refine x_i2l hE dL_law__1213 ?_
    refine x_lcmp hE dL_law__1214 ?_
    refine x_if_eq hE 1220 dL_law__1215 (by decide) (A := some ()) (B := none) (r := ()) (if_pos cmp_out) (fun _ => ?_) (fun h => by cases h)
    refine x_goto hE 3277 dL_law__1220 (by decide) ?_
    refine x_pick [2, 3, 4, 5, 6] (L' := Lb σ b j) rfl ?_
    exact hK σ np (cells + 1) (slots + 6 * 1) R1 (wrd N 145 0 b1.toInt64) hE (gi_w hg) (by omega) (by omega)
theorem wL_c14 {p : Program} {l : Launch} {e : Env} {s : State} {m : MethodId} {args : Array Value} {below : List Frame} {meth : Method} {c : Code} {Y : Nat → ClassId} {D : va_G} {σ : Nat → Nat} {np b0 cells slots : Nat} {Q : State → Prop} {M : Mc} {N : Md} {b nX j : Nat} {xs : Nat → Int32} (hfl : l.stackTraces = false) (hE : EOK p s m args meth c cL_law_ 7 "SettlerColonyLaw" Y D σ np b0) (hX : va_X b nX xs s s.heap) (hb : b < b0) (hj : j + 6 ≤ nX) (hn : nX ≤ 3072) (hG : GI np M N) (hc : cells ≤ 600000) (hs : slots ≤ 7000000) (hK : LK p l e s m args below meth c Y D b0 cells slots Q b j) : Xw p l e room_1 s m args below meth c 7 Y D σ np b0 cells slots Q 1223 (Lb σ b j) [] M N := by
  unfold Lb
  obtain ⟨x1, hx, hq⟩ := st_M (e := eB) (y := fun R => fX12_ask R (xs (j + 1))) hG (fun n t m R h _ => c_ask h (xs (j + 1))) (hA_fX11_ask ka_rf)
  rcases hq with ⟨k, b1, R1, rfl, he, hy, ht, hg⟩ | ⟨b1, C1, R1, rfl, hy, ht, hg⟩
  · refine x_aload_n hE 1 dL_law__1223 rfl rfl ?_
    refine x_arg hE hX hb hj hn 1 (by decide) (by decide) 0 4 dL_law__1224 dL_law__1225 dL_law__1227 dL_law__1228 dL_law__1229 rfl rfl ?_
    refine x_aload_n hE 3 dL_law__1230 rfl rfl ?_
    refine x_callSW hE [.ref (σ 0), .int (xs (j + 1)), .ref (σ 145)] (rest := []) (v := some (.int (eB k))) (c1 := M) (d1 := N) rfl yowL_ask ysL_ask lkw_203 ⟨Nat.le_of_ble_eq_true rfl, Nat.le_of_ble_eq_true rfl⟩ ⟨by show cells + 1 ≤ 601024; omega, by show slots + 6 * 1 ≤ 7293034; omega⟩ rfl (Nat.le_of_ble_eq_true rfl) dL_law__1231 (mL_ask l hfl hx) ?_
    refine x_istore hE (L' := [(5, .int (eB k)), (0, .ref b), (1, .ref (σ 0)), (2, .ref (σ 127)), (3, .ref (σ 145)), (4, .int (nI j))]) dL_law__1234 (by decide) rfl ?_
    refine x_aload_n hE 3 dL_law__1236 rfl rfl ?_
    refine x_arg hE hX hb hj hn 1 (by decide) (by decide) 1 5 dL_law__1237 dL_law__1238 dL_law__1240 dL_law__1241 dL_law__1242 rfl rfl ?_
    refine x_callV1 hE [.int (xs (j + 1))] (rest := []) (v := .int b1) (c1 := R1) (d1 := N) rfl yokX12_ask yvX12_ask lkw_205 rfl cl_12 (hE.kd kO_12) (by decide) rfl rfl ⟨Nat.le_of_ble_eq_true rfl, Nat.le_of_ble_eq_true rfl⟩ ⟨by show (cells + 1) ≤ 601024; omega, by show (slots + 6 * 1) ≤ 7293034; omega⟩ rfl (Nat.le_of_ble_eq_true rfl) dL_law__1243 (mX12_ask l hy) ?_
    refine x_istore hE (L' := [(6, .int b1), (5, .int (eB k)), (0, .ref b), (1, .ref (σ 0)), (2, .ref (σ 127)), (3, .ref (σ 145)), (4, .int (nI j))]) dL_law__1246 (by decide) rfl ?_
    refine x_aload_n hE 4 dL_law__1248 rfl rfl ?_
    refine x_callV1 hE [] (rest := []) (v := .int (R1 127 0)) (c1 := R1) (d1 := N) rfl yokX12_thrown yvX12_thrown lkw_157 rfl cl_12 (hE.kd kO_12) (by decide) rfl rfl ⟨Nat.le_of_ble_eq_true rfl, Nat.le_of_ble_eq_true rfl⟩ ⟨by show (cells + 1) ≤ 601024; omega, by show (slots + 6 * 1) ≤ 7293034; omega⟩ rfl (Nat.le_of_ble_eq_true rfl) dL_law__1249 (mX12_thrown l rfl) ?_
    refine x_iload hE 1 dL_law__1252 rfl ?_
    refine x_icmp_eq hE 1259 dL_law__1254 (by decide) (A := some ()) (B := none) (r := ()) (if_pos ht) (fun _ => ?_) (fun h => by cases h)
    refine x_iload hE 1 dL_law__1259 rfl ?_
    refine x_if_ne hE 1276 dL_law__1261 (by decide) (A := some ()) (B := none) (r := ()) (if_neg he) (fun _ => ?_) (fun h => by cases h)
    refine x_goto hE 3277 dL_law__1276 (by decide) ?_
    refine x_pick [2, 3, 4, 5, 6] (L' := Lb σ b j) rfl ?_
    exact hK σ np (cells + 1) (slots + 6 * 1) R1 N hE hg (by omega) (by omega)
  · refine x_aload_n hE 1 dL_law__1223 rfl rfl ?_
    refine x_arg hE hX hb hj hn 1 (by decide) (by decide) 0 4 dL_law__1224 dL_law__1225 dL_law__1227 dL_law__1228 dL_law__1229 rfl rfl ?_
    refine x_aload_n hE 3 dL_law__1230 rfl rfl ?_
    refine x_callSW hE [.ref (σ 0), .int (xs (j + 1)), .ref (σ 145)] (rest := []) (v := some (.int 0)) (c1 := C1) (d1 := (wrd N 145 0 b1.toInt64)) rfl yowL_ask ysL_ask lkw_203 ⟨Nat.le_of_ble_eq_true rfl, Nat.le_of_ble_eq_true rfl⟩ ⟨by show cells + 1 ≤ 601024; omega, by show slots + 6 * 1 ≤ 7293034; omega⟩ rfl (Nat.le_of_ble_eq_true rfl) dL_law__1231 (mL_ask l hfl hx) ?_
    refine x_istore hE (L' := [(5, .int 0), (0, .ref b), (1, .ref (σ 0)), (2, .ref (σ 127)), (3, .ref (σ 145)), (4, .int (nI j))]) dL_law__1234 (by decide) rfl ?_
    refine x_aload_n hE 3 dL_law__1236 rfl rfl ?_
    refine x_arg hE hX hb hj hn 1 (by decide) (by decide) 1 5 dL_law__1237 dL_law__1238 dL_law__1240 dL_law__1241 dL_law__1242 rfl rfl ?_
    refine x_callV1 hE [.int (xs (j + 1))] (rest := []) (v := .int b1) (c1 := R1) (d1 := (wrd N 145 0 b1.toInt64)) rfl yokX12_ask yvX12_ask lkw_205 rfl cl_12 (hE.kd kO_12) (by decide) rfl rfl ⟨Nat.le_of_ble_eq_true rfl, Nat.le_of_ble_eq_true rfl⟩ ⟨by show (cells + 1) ≤ 601024; omega, by show (slots + 6 * 1) ≤ 7293034; omega⟩ rfl (Nat.le_of_ble_eq_true rfl) dL_law__1243 (mX12_ask l hy) ?_
    refine x_istore hE (L' := [(6, .int b1), (5, .int 0), (0, .ref b), (1, .ref (σ 0)), (2, .ref (σ 127)), (3, .ref (σ 145)), (4, .int (nI j))]) dL_law__1246 (by decide) rfl ?_
    refine x_aload_n hE 4 dL_law__1248 rfl rfl ?_
    refine x_callV1 hE [] (rest := []) (v := .int (R1 127 0)) (c1 := R1) (d1 := (wrd N 145 0 b1.toInt64)) rfl yokX12_thrown yvX12_thrown lkw_157 rfl cl_12 (hE.kd kO_12) (by decide) rfl rfl ⟨Nat.le_of_ble_eq_true rfl, Nat.le_of_ble_eq_true rfl⟩ ⟨by show (cells + 1) ≤ 601024; omega, by show (slots + 6 * 1) ≤ 7293034; omega⟩ rfl (Nat.le_of_ble_eq_true rfl) dL_law__1249 (mX12_thrown l rfl) ?_
    refine x_iload hE 1 dL_law__1252 rfl ?_
    refine x_icmp_eq hE 1259 dL_law__1254 (by decide) (A := some ()) (B := none) (r := ()) (if_pos ht) (fun _ => ?_) (fun h => by cases h)
    refine x_iload hE 1 dL_law__1259 rfl ?_
    refine x_if_ne hE 1276 dL_law__1261 (by decide) (A := none) (B := some ()) (r := ()) (if_pos rfl) (fun h => by cases h) (fun _ => ?_)
    refine x_aload_n hE 5 dL_law__1264 rfl rfl ?_
    refine x_iconst hE 0 dL_law__1265 (by decide) ?_
    refine x_lald hE (hE.kd kA_145) dL_law__1266 (B := some ()) (r := ()) (by decide) (fun _ => ?_)
    refine x_iload hE 0 dL_law__1267 rfl ?_
    refine x_i2l hE dL_law__1269 ?_
    refine x_lcmp hE dL_law__1270 ?_
    refine x_if_eq hE 1276 dL_law__1271 (by decide) (A := some ()) (B := none) (r := ()) (if_pos cmp_out) (fun _ => ?_) (fun h => by cases h)
    refine x_goto hE 3277 dL_law__1276 (by decide) ?_
    refine x_pick [2, 3, 4, 5, 6] (L' := Lb σ b j) rfl ?_
    exact hK σ np (cells + 1) (slots + 6 * 1) R1 (wrd N 145 0 b1.toInt64) hE (gi_w hg) (by omega) (by omega)
theorem wL_c15 {p : Program} {l : Launch} {e : Env} {s : State} {m : MethodId} {args : Array Value} {below : List Frame} {meth : Method} {c : Code} {Y : Nat → ClassId} {D : va_G} {σ : Nat → Nat} {np b0 cells slots : Nat} {Q : State → Prop} {M : Mc} {N : Md} {b nX j : Nat} {xs : Nat → Int32} (hfl : l.stackTraces = false) (hE : EOK p s m args meth c cL_law_ 7 "SettlerColonyLaw" Y D σ np b0) (hX : va_X b nX xs s s.heap) (hb : b < b0) (hj : j + 6 ≤ nX) (hn : nX ≤ 3072) (hG : GI np M N) (hc : cells ≤ 600000) (hs : slots ≤ 7000000) (hK : LK p l e s m args below meth c Y D b0 cells slots Q b j) : Xw p l e room_1 s m args below meth c 7 Y D σ np b0 cells slots Q 1279 (Lb σ b j) [] M N := by
  unfold Lb
  obtain ⟨x1, hx, hq⟩ := st_M (e := eA) (y := fun R => fX12_draw R (xs (j + 1))) hG (fun n t m R h _ => c_draw h (xs (j + 1))) (hA_fX11_draw ka_rf)
  rcases hq with ⟨k, b1, R1, rfl, he, hy, ht, hg⟩ | ⟨b1, C1, R1, rfl, hy, ht, hg⟩
  · refine x_aload_n hE 1 dL_law__1279 rfl rfl ?_
    refine x_arg hE hX hb hj hn 1 (by decide) (by decide) 0 4 dL_law__1280 dL_law__1281 dL_law__1283 dL_law__1284 dL_law__1285 rfl rfl ?_
    refine x_aload_n hE 3 dL_law__1286 rfl rfl ?_
    refine x_callSW hE [.ref (σ 0), .int (xs (j + 1)), .ref (σ 145)] (rest := []) (v := some (.int (eA k))) (c1 := M) (d1 := N) rfl yowL_draw ysL_draw lkw_206 ⟨Nat.le_of_ble_eq_true rfl, Nat.le_of_ble_eq_true rfl⟩ ⟨by show cells + 1 ≤ 601024; omega, by show slots + 6 * 1 ≤ 7293034; omega⟩ rfl (Nat.le_of_ble_eq_true rfl) dL_law__1287 (mL_draw l hfl hx) ?_
    refine x_istore hE (L' := [(5, .int (eA k)), (0, .ref b), (1, .ref (σ 0)), (2, .ref (σ 127)), (3, .ref (σ 145)), (4, .int (nI j))]) dL_law__1290 (by decide) rfl ?_
    refine x_aload_n hE 3 dL_law__1292 rfl rfl ?_
    refine x_arg hE hX hb hj hn 1 (by decide) (by decide) 1 5 dL_law__1293 dL_law__1294 dL_law__1296 dL_law__1297 dL_law__1298 rfl rfl ?_
    refine x_callV1 hE [.int (xs (j + 1))] (rest := []) (v := .int b1) (c1 := R1) (d1 := N) rfl yokX12_draw yvX12_draw lkw_208 rfl cl_12 (hE.kd kO_12) (by decide) rfl rfl ⟨Nat.le_of_ble_eq_true rfl, Nat.le_of_ble_eq_true rfl⟩ ⟨by show (cells + 1) ≤ 601024; omega, by show (slots + 6 * 1) ≤ 7293034; omega⟩ rfl (Nat.le_of_ble_eq_true rfl) dL_law__1299 (mX12_draw l hy) ?_
    refine x_istore hE (L' := [(6, .int b1), (5, .int (eA k)), (0, .ref b), (1, .ref (σ 0)), (2, .ref (σ 127)), (3, .ref (σ 145)), (4, .int (nI j))]) dL_law__1302 (by decide) rfl ?_
    refine x_aload_n hE 4 dL_law__1304 rfl rfl ?_
    refine x_callV1 hE [] (rest := []) (v := .int (R1 127 0)) (c1 := R1) (d1 := N) rfl yokX12_thrown yvX12_thrown lkw_157 rfl cl_12 (hE.kd kO_12) (by decide) rfl rfl ⟨Nat.le_of_ble_eq_true rfl, Nat.le_of_ble_eq_true rfl⟩ ⟨by show (cells + 1) ≤ 601024; omega, by show (slots + 6 * 1) ≤ 7293034; omega⟩ rfl (Nat.le_of_ble_eq_true rfl) dL_law__1305 (mX12_thrown l rfl) ?_
    refine x_iload hE 1 dL_law__1308 rfl ?_
    refine x_icmp_eq hE 1315 dL_law__1310 (by decide) (A := some ()) (B := none) (r := ()) (if_pos ht) (fun _ => ?_) (fun h => by cases h)
    refine x_iload hE 1 dL_law__1315 rfl ?_
    refine x_if_ne hE 1332 dL_law__1317 (by decide) (A := some ()) (B := none) (r := ()) (if_neg he) (fun _ => ?_) (fun h => by cases h)
    refine x_goto hE 3277 dL_law__1332 (by decide) ?_
    refine x_pick [2, 3, 4, 5, 6] (L' := Lb σ b j) rfl ?_
    exact hK σ np (cells + 1) (slots + 6 * 1) R1 N hE hg (by omega) (by omega)
  · refine x_aload_n hE 1 dL_law__1279 rfl rfl ?_
    refine x_arg hE hX hb hj hn 1 (by decide) (by decide) 0 4 dL_law__1280 dL_law__1281 dL_law__1283 dL_law__1284 dL_law__1285 rfl rfl ?_
    refine x_aload_n hE 3 dL_law__1286 rfl rfl ?_
    refine x_callSW hE [.ref (σ 0), .int (xs (j + 1)), .ref (σ 145)] (rest := []) (v := some (.int 0)) (c1 := C1) (d1 := (wrd N 145 0 b1.toInt64)) rfl yowL_draw ysL_draw lkw_206 ⟨Nat.le_of_ble_eq_true rfl, Nat.le_of_ble_eq_true rfl⟩ ⟨by show cells + 1 ≤ 601024; omega, by show slots + 6 * 1 ≤ 7293034; omega⟩ rfl (Nat.le_of_ble_eq_true rfl) dL_law__1287 (mL_draw l hfl hx) ?_
    refine x_istore hE (L' := [(5, .int 0), (0, .ref b), (1, .ref (σ 0)), (2, .ref (σ 127)), (3, .ref (σ 145)), (4, .int (nI j))]) dL_law__1290 (by decide) rfl ?_
    refine x_aload_n hE 3 dL_law__1292 rfl rfl ?_
    refine x_arg hE hX hb hj hn 1 (by decide) (by decide) 1 5 dL_law__1293 dL_law__1294 dL_law__1296 dL_law__1297 dL_law__1298 rfl rfl ?_
    refine x_callV1 hE [.int (xs (j + 1))] (rest := []) (v := .int b1) (c1 := R1) (d1 := (wrd N 145 0 b1.toInt64)) rfl yokX12_draw yvX12_draw lkw_208 rfl cl_12 (hE.kd kO_12) (by decide) rfl rfl ⟨Nat.le_of_ble_eq_true rfl, Nat.le_of_ble_eq_true rfl⟩ ⟨by show (cells + 1) ≤ 601024; omega, by show (slots + 6 * 1) ≤ 7293034; omega⟩ rfl (Nat.le_of_ble_eq_true rfl) dL_law__1299 (mX12_draw l hy) ?_
    refine x_istore hE (L' := [(6, .int b1), (5, .int 0), (0, .ref b), (1, .ref (σ 0)), (2, .ref (σ 127)), (3, .ref (σ 145)), (4, .int (nI j))]) dL_law__1302 (by decide) rfl ?_
    refine x_aload_n hE 4 dL_law__1304 rfl rfl ?_
    refine x_callV1 hE [] (rest := []) (v := .int (R1 127 0)) (c1 := R1) (d1 := (wrd N 145 0 b1.toInt64)) rfl yokX12_thrown yvX12_thrown lkw_157 rfl cl_12 (hE.kd kO_12) (by decide) rfl rfl ⟨Nat.le_of_ble_eq_true rfl, Nat.le_of_ble_eq_true rfl⟩ ⟨by show (cells + 1) ≤ 601024; omega, by show (slots + 6 * 1) ≤ 7293034; omega⟩ rfl (Nat.le_of_ble_eq_true rfl) dL_law__1305 (mX12_thrown l rfl) ?_
    refine x_iload hE 1 dL_law__1308 rfl ?_
    refine x_icmp_eq hE 1315 dL_law__1310 (by decide) (A := some ()) (B := none) (r := ()) (if_pos ht) (fun _ => ?_) (fun h => by cases h)
    refine x_iload hE 1 dL_law__1315 rfl ?_
    refine x_if_ne hE 1332 dL_law__1317 (by decide) (A := none) (B := some ()) (r := ()) (if_pos rfl) (fun h => by cases h) (fun _ => ?_)
    refine x_aload_n hE 5 dL_law__1320 rfl rfl ?_
    refine x_iconst hE 0 dL_law__1321 (by decide) ?_
    refine x_lald hE (hE.kd kA_145) dL_law__1322 (B := some ()) (r := ()) (by decide) (fun _ => ?_)
    refine x_iload hE 0 dL_law__1323 rfl ?_
    refine x_i2l hE dL_law__1325 ?_
    refine x_lcmp hE dL_law__1326 ?_
    refine x_if_eq hE 1332 dL_law__1327 (by decide) (A := some ()) (B := none) (r := ()) (if_pos cmp_out) (fun _ => ?_) (fun h => by cases h)
    refine x_goto hE 3277 dL_law__1332 (by decide) ?_
    refine x_pick [2, 3, 4, 5, 6] (L' := Lb σ b j) rfl ?_
    exact hK σ np (cells + 1) (slots + 6 * 1) R1 (wrd N 145 0 b1.toInt64) hE (gi_w hg) (by omega) (by omega)
theorem wL_c16 {p : Program} {l : Launch} {e : Env} {s : State} {m : MethodId} {args : Array Value} {below : List Frame} {meth : Method} {c : Code} {Y : Nat → ClassId} {D : va_G} {σ : Nat → Nat} {np b0 cells slots : Nat} {Q : State → Prop} {M : Mc} {N : Md} {b nX j : Nat} {xs : Nat → Int32} (hfl : l.stackTraces = false) (hE : EOK p s m args meth c cL_law_ 7 "SettlerColonyLaw" Y D σ np b0) (hX : va_X b nX xs s s.heap) (hb : b < b0) (hj : j + 6 ≤ nX) (hn : nX ≤ 3072) (hG : GI np M N) (hc : cells ≤ 600000) (hs : slots ≤ 7000000) (hK : LK p l e s m args below meth c Y D b0 cells slots Q b j) : Xw p l e room_1 s m args below meth c 7 Y D σ np b0 cells slots Q 1335 (Lb σ b j) [] M N := by
  unfold Lb
  obtain ⟨x1, hx, hq⟩ := st_R (e := eB) (y := fun R => fX12_acre R (xs (j + 1))) hG (fun n t m h => c_acre h (xs (j + 1)))
  rcases hq with ⟨k, b1, R1, rfl, he, hy, ht, hg⟩ | ⟨b1, R1, rfl, hy, ht, hg⟩
  · refine x_aload_n hE 1 dL_law__1335 rfl rfl ?_
    refine x_arg hE hX hb hj hn 1 (by decide) (by decide) 0 4 dL_law__1336 dL_law__1337 dL_law__1339 dL_law__1340 dL_law__1341 rfl rfl ?_
    refine x_aload_n hE 3 dL_law__1342 rfl rfl ?_
    refine x_callSW hE [.ref (σ 0), .int (xs (j + 1)), .ref (σ 145)] (rest := []) (v := some (.int (eB k))) (c1 := M) (d1 := N) rfl yowL_acre ysL_acre lkw_209 ⟨Nat.le_of_ble_eq_true rfl, Nat.le_of_ble_eq_true rfl⟩ ⟨by show cells + 1 ≤ 601024; omega, by show slots + 6 * 1 ≤ 7293034; omega⟩ rfl (Nat.le_of_ble_eq_true rfl) dL_law__1343 (mL_acre l hfl hx) ?_
    refine x_istore hE (L' := [(5, .int (eB k)), (0, .ref b), (1, .ref (σ 0)), (2, .ref (σ 127)), (3, .ref (σ 145)), (4, .int (nI j))]) dL_law__1346 (by decide) rfl ?_
    refine x_aload_n hE 3 dL_law__1348 rfl rfl ?_
    refine x_arg hE hX hb hj hn 1 (by decide) (by decide) 1 5 dL_law__1349 dL_law__1350 dL_law__1352 dL_law__1353 dL_law__1354 rfl rfl ?_
    refine x_callV1 hE [.int (xs (j + 1))] (rest := []) (v := .int b1) (c1 := R1) (d1 := N) rfl yokX12_acre yvX12_acre lkw_211 rfl cl_12 (hE.kd kO_12) (by decide) rfl rfl ⟨Nat.le_of_ble_eq_true rfl, Nat.le_of_ble_eq_true rfl⟩ ⟨by show (cells + 1) ≤ 601024; omega, by show (slots + 6 * 1) ≤ 7293034; omega⟩ rfl (Nat.le_of_ble_eq_true rfl) dL_law__1355 (mX12_acre l hy) ?_
    refine x_istore hE (L' := [(6, .int b1), (5, .int (eB k)), (0, .ref b), (1, .ref (σ 0)), (2, .ref (σ 127)), (3, .ref (σ 145)), (4, .int (nI j))]) dL_law__1358 (by decide) rfl ?_
    refine x_aload_n hE 4 dL_law__1360 rfl rfl ?_
    refine x_callV1 hE [] (rest := []) (v := .int (R1 127 0)) (c1 := R1) (d1 := N) rfl yokX12_thrown yvX12_thrown lkw_157 rfl cl_12 (hE.kd kO_12) (by decide) rfl rfl ⟨Nat.le_of_ble_eq_true rfl, Nat.le_of_ble_eq_true rfl⟩ ⟨by show (cells + 1) ≤ 601024; omega, by show (slots + 6 * 1) ≤ 7293034; omega⟩ rfl (Nat.le_of_ble_eq_true rfl) dL_law__1361 (mX12_thrown l rfl) ?_
    refine x_iload hE 1 dL_law__1364 rfl ?_
    refine x_icmp_eq hE 1371 dL_law__1366 (by decide) (A := some ()) (B := none) (r := ()) (if_pos ht) (fun _ => ?_) (fun h => by cases h)
    refine x_iload hE 1 dL_law__1371 rfl ?_
    refine x_if_ne hE 1388 dL_law__1373 (by decide) (A := some ()) (B := none) (r := ()) (if_neg he) (fun _ => ?_) (fun h => by cases h)
    refine x_goto hE 3277 dL_law__1388 (by decide) ?_
    refine x_pick [2, 3, 4, 5, 6] (L' := Lb σ b j) rfl ?_
    exact hK σ np (cells + 1) (slots + 6 * 1) R1 N hE hg (by omega) (by omega)
  · refine x_aload_n hE 1 dL_law__1335 rfl rfl ?_
    refine x_arg hE hX hb hj hn 1 (by decide) (by decide) 0 4 dL_law__1336 dL_law__1337 dL_law__1339 dL_law__1340 dL_law__1341 rfl rfl ?_
    refine x_aload_n hE 3 dL_law__1342 rfl rfl ?_
    refine x_callSW hE [.ref (σ 0), .int (xs (j + 1)), .ref (σ 145)] (rest := []) (v := some (.int 0)) (c1 := M) (d1 := (wrd N 145 0 b1.toInt64)) rfl yowL_acre ysL_acre lkw_209 ⟨Nat.le_of_ble_eq_true rfl, Nat.le_of_ble_eq_true rfl⟩ ⟨by show cells + 1 ≤ 601024; omega, by show slots + 6 * 1 ≤ 7293034; omega⟩ rfl (Nat.le_of_ble_eq_true rfl) dL_law__1343 (mL_acre l hfl hx) ?_
    refine x_istore hE (L' := [(5, .int 0), (0, .ref b), (1, .ref (σ 0)), (2, .ref (σ 127)), (3, .ref (σ 145)), (4, .int (nI j))]) dL_law__1346 (by decide) rfl ?_
    refine x_aload_n hE 3 dL_law__1348 rfl rfl ?_
    refine x_arg hE hX hb hj hn 1 (by decide) (by decide) 1 5 dL_law__1349 dL_law__1350 dL_law__1352 dL_law__1353 dL_law__1354 rfl rfl ?_
    refine x_callV1 hE [.int (xs (j + 1))] (rest := []) (v := .int b1) (c1 := R1) (d1 := (wrd N 145 0 b1.toInt64)) rfl yokX12_acre yvX12_acre lkw_211 rfl cl_12 (hE.kd kO_12) (by decide) rfl rfl ⟨Nat.le_of_ble_eq_true rfl, Nat.le_of_ble_eq_true rfl⟩ ⟨by show (cells + 1) ≤ 601024; omega, by show (slots + 6 * 1) ≤ 7293034; omega⟩ rfl (Nat.le_of_ble_eq_true rfl) dL_law__1355 (mX12_acre l hy) ?_
    refine x_istore hE (L' := [(6, .int b1), (5, .int 0), (0, .ref b), (1, .ref (σ 0)), (2, .ref (σ 127)), (3, .ref (σ 145)), (4, .int (nI j))]) dL_law__1358 (by decide) rfl ?_
    refine x_aload_n hE 4 dL_law__1360 rfl rfl ?_
    refine x_callV1 hE [] (rest := []) (v := .int (R1 127 0)) (c1 := R1) (d1 := (wrd N 145 0 b1.toInt64)) rfl yokX12_thrown yvX12_thrown lkw_157 rfl cl_12 (hE.kd kO_12) (by decide) rfl rfl ⟨Nat.le_of_ble_eq_true rfl, Nat.le_of_ble_eq_true rfl⟩ ⟨by show (cells + 1) ≤ 601024; omega, by show (slots + 6 * 1) ≤ 7293034; omega⟩ rfl (Nat.le_of_ble_eq_true rfl) dL_law__1361 (mX12_thrown l rfl) ?_
    refine x_iload hE 1 dL_law__1364 rfl ?_
    refine x_icmp_eq hE 1371 dL_law__1366 (by decide) (A := some ()) (B := none) (r := ()) (if_pos ht) (fun _ => ?_) (fun h => by cases h)
    refine x_iload hE 1 dL_law__1371 rfl ?_
    refine x_if_ne hE 1388 dL_law__1373 (by decide) (A := none) (B := some ()) (r := ()) (if_pos rfl) (fun h => by cases h) (fun _ => ?_)
    refine x_aload_n hE 5 dL_law__1376 rfl rfl ?_
    refine x_iconst hE 0 dL_law__1377 (by decide) ?_
    refine x_lald hE (hE.kd kA_145) dL_law__1378 (B := some ()) (r := ()) (by decide) (fun _ => ?_)
    refine x_iload hE 0 dL_law__1379 rfl ?_
    refine x_i2l hE dL_law__1381 ?_
    refine x_lcmp hE dL_law__1382 ?_
    refine x_if_eq hE 1388 dL_law__1383 (by decide) (A := some ()) (B := none) (r := ()) (if_pos cmp_out) (fun _ => ?_) (fun h => by cases h)
    refine x_goto hE 3277 dL_law__1388 (by decide) ?_
    refine x_pick [2, 3, 4, 5, 6] (L' := Lb σ b j) rfl ?_
    exact hK σ np (cells + 1) (slots + 6 * 1) R1 (wrd N 145 0 b1.toInt64) hE (gi_w hg) (by omega) (by omega)
theorem wL_c17 {p : Program} {l : Launch} {e : Env} {s : State} {m : MethodId} {args : Array Value} {below : List Frame} {meth : Method} {c : Code} {Y : Nat → ClassId} {D : va_G} {σ : Nat → Nat} {np b0 cells slots : Nat} {Q : State → Prop} {M : Mc} {N : Md} {b nX j : Nat} {xs : Nat → Int32} (hfl : l.stackTraces = false) (hE : EOK p s m args meth c cL_law_ 7 "SettlerColonyLaw" Y D σ np b0) (hX : va_X b nX xs s s.heap) (hb : b < b0) (hj : j + 6 ≤ nX) (hn : nX ≤ 3072) (hG : GI np M N) (hc : cells ≤ 600000) (hs : slots ≤ 7000000) (hK : LK p l e s m args below meth c Y D b0 cells slots Q b j) : Xw p l e room_1 s m args below meth c 7 Y D σ np b0 cells slots Q 1391 (Lb σ b j) [] M N := by
  unfold Lb
  obtain ⟨x1, hx, hq⟩ := st_M (e := eB) (y := fun R => fX12_buy R (xs (j + 1)) (xs (j + 2))) hG (fun n t m R h _ => c_buy h (xs (j + 1)) (xs (j + 2))) (hA_fX11_buy ka_rf)
  rcases hq with ⟨k, b1, R1, rfl, he, hy, ht, hg⟩ | ⟨b1, C1, R1, rfl, hy, ht, hg⟩
  · refine x_aload_n hE 1 dL_law__1391 rfl rfl ?_
    refine x_arg hE hX hb hj hn 1 (by decide) (by decide) 0 4 dL_law__1392 dL_law__1393 dL_law__1395 dL_law__1396 dL_law__1397 rfl rfl ?_
    refine x_arg hE hX hb hj hn 2 (by decide) (by decide) 0 4 dL_law__1398 dL_law__1399 dL_law__1401 dL_law__1402 dL_law__1403 rfl rfl ?_
    refine x_aload_n hE 3 dL_law__1404 rfl rfl ?_
    refine x_callSW hE [.ref (σ 0), .int (xs (j + 1)), .int (xs (j + 2)), .ref (σ 145)] (rest := []) (v := some (.int (eB k))) (c1 := M) (d1 := N) rfl yowL_buy ysL_buy lkw_212 ⟨Nat.le_of_ble_eq_true rfl, Nat.le_of_ble_eq_true rfl⟩ ⟨by show cells + 2 ≤ 601024; omega, by show slots + 6 * 2 ≤ 7293034; omega⟩ rfl (Nat.le_of_ble_eq_true rfl) dL_law__1405 (mL_buy l hfl hx) ?_
    refine x_istore hE (L' := [(5, .int (eB k)), (0, .ref b), (1, .ref (σ 0)), (2, .ref (σ 127)), (3, .ref (σ 145)), (4, .int (nI j))]) dL_law__1408 (by decide) rfl ?_
    refine x_aload_n hE 3 dL_law__1410 rfl rfl ?_
    refine x_arg hE hX hb hj hn 1 (by decide) (by decide) 1 5 dL_law__1411 dL_law__1412 dL_law__1414 dL_law__1415 dL_law__1416 rfl rfl ?_
    refine x_arg hE hX hb hj hn 2 (by decide) (by decide) 1 5 dL_law__1417 dL_law__1418 dL_law__1420 dL_law__1421 dL_law__1422 rfl rfl ?_
    refine x_callV1 hE [.int (xs (j + 1)), .int (xs (j + 2))] (rest := []) (v := .int b1) (c1 := R1) (d1 := N) rfl yokX12_buy yvX12_buy lkw_214 rfl cl_12 (hE.kd kO_12) (by decide) rfl rfl ⟨Nat.le_of_ble_eq_true rfl, Nat.le_of_ble_eq_true rfl⟩ ⟨by show (cells + 2) ≤ 601024; omega, by show (slots + 6 * 2) ≤ 7293034; omega⟩ rfl (Nat.le_of_ble_eq_true rfl) dL_law__1423 (mX12_buy l hy) ?_
    refine x_istore hE (L' := [(6, .int b1), (5, .int (eB k)), (0, .ref b), (1, .ref (σ 0)), (2, .ref (σ 127)), (3, .ref (σ 145)), (4, .int (nI j))]) dL_law__1426 (by decide) rfl ?_
    refine x_aload_n hE 4 dL_law__1428 rfl rfl ?_
    refine x_callV1 hE [] (rest := []) (v := .int (R1 127 0)) (c1 := R1) (d1 := N) rfl yokX12_thrown yvX12_thrown lkw_157 rfl cl_12 (hE.kd kO_12) (by decide) rfl rfl ⟨Nat.le_of_ble_eq_true rfl, Nat.le_of_ble_eq_true rfl⟩ ⟨by show (cells + 2) ≤ 601024; omega, by show (slots + 6 * 2) ≤ 7293034; omega⟩ rfl (Nat.le_of_ble_eq_true rfl) dL_law__1429 (mX12_thrown l rfl) ?_
    refine x_iload hE 1 dL_law__1432 rfl ?_
    refine x_icmp_eq hE 1439 dL_law__1434 (by decide) (A := some ()) (B := none) (r := ()) (if_pos ht) (fun _ => ?_) (fun h => by cases h)
    refine x_iload hE 1 dL_law__1439 rfl ?_
    refine x_if_ne hE 1456 dL_law__1441 (by decide) (A := some ()) (B := none) (r := ()) (if_neg he) (fun _ => ?_) (fun h => by cases h)
    refine x_goto hE 3277 dL_law__1456 (by decide) ?_
    refine x_pick [2, 3, 4, 5, 6] (L' := Lb σ b j) rfl ?_
    exact hK σ np (cells + 2) (slots + 6 * 2) R1 N hE hg (by omega) (by omega)
  · refine x_aload_n hE 1 dL_law__1391 rfl rfl ?_
    refine x_arg hE hX hb hj hn 1 (by decide) (by decide) 0 4 dL_law__1392 dL_law__1393 dL_law__1395 dL_law__1396 dL_law__1397 rfl rfl ?_
    refine x_arg hE hX hb hj hn 2 (by decide) (by decide) 0 4 dL_law__1398 dL_law__1399 dL_law__1401 dL_law__1402 dL_law__1403 rfl rfl ?_
    refine x_aload_n hE 3 dL_law__1404 rfl rfl ?_
    refine x_callSW hE [.ref (σ 0), .int (xs (j + 1)), .int (xs (j + 2)), .ref (σ 145)] (rest := []) (v := some (.int 0)) (c1 := C1) (d1 := (wrd N 145 0 b1.toInt64)) rfl yowL_buy ysL_buy lkw_212 ⟨Nat.le_of_ble_eq_true rfl, Nat.le_of_ble_eq_true rfl⟩ ⟨by show cells + 2 ≤ 601024; omega, by show slots + 6 * 2 ≤ 7293034; omega⟩ rfl (Nat.le_of_ble_eq_true rfl) dL_law__1405 (mL_buy l hfl hx) ?_
    refine x_istore hE (L' := [(5, .int 0), (0, .ref b), (1, .ref (σ 0)), (2, .ref (σ 127)), (3, .ref (σ 145)), (4, .int (nI j))]) dL_law__1408 (by decide) rfl ?_
    refine x_aload_n hE 3 dL_law__1410 rfl rfl ?_
    refine x_arg hE hX hb hj hn 1 (by decide) (by decide) 1 5 dL_law__1411 dL_law__1412 dL_law__1414 dL_law__1415 dL_law__1416 rfl rfl ?_
    refine x_arg hE hX hb hj hn 2 (by decide) (by decide) 1 5 dL_law__1417 dL_law__1418 dL_law__1420 dL_law__1421 dL_law__1422 rfl rfl ?_
    refine x_callV1 hE [.int (xs (j + 1)), .int (xs (j + 2))] (rest := []) (v := .int b1) (c1 := R1) (d1 := (wrd N 145 0 b1.toInt64)) rfl yokX12_buy yvX12_buy lkw_214 rfl cl_12 (hE.kd kO_12) (by decide) rfl rfl ⟨Nat.le_of_ble_eq_true rfl, Nat.le_of_ble_eq_true rfl⟩ ⟨by show (cells + 2) ≤ 601024; omega, by show (slots + 6 * 2) ≤ 7293034; omega⟩ rfl (Nat.le_of_ble_eq_true rfl) dL_law__1423 (mX12_buy l hy) ?_
    refine x_istore hE (L' := [(6, .int b1), (5, .int 0), (0, .ref b), (1, .ref (σ 0)), (2, .ref (σ 127)), (3, .ref (σ 145)), (4, .int (nI j))]) dL_law__1426 (by decide) rfl ?_
    refine x_aload_n hE 4 dL_law__1428 rfl rfl ?_
    refine x_callV1 hE [] (rest := []) (v := .int (R1 127 0)) (c1 := R1) (d1 := (wrd N 145 0 b1.toInt64)) rfl yokX12_thrown yvX12_thrown lkw_157 rfl cl_12 (hE.kd kO_12) (by decide) rfl rfl ⟨Nat.le_of_ble_eq_true rfl, Nat.le_of_ble_eq_true rfl⟩ ⟨by show (cells + 2) ≤ 601024; omega, by show (slots + 6 * 2) ≤ 7293034; omega⟩ rfl (Nat.le_of_ble_eq_true rfl) dL_law__1429 (mX12_thrown l rfl) ?_
    refine x_iload hE 1 dL_law__1432 rfl ?_
    refine x_icmp_eq hE 1439 dL_law__1434 (by decide) (A := some ()) (B := none) (r := ()) (if_pos ht) (fun _ => ?_) (fun h => by cases h)
    refine x_iload hE 1 dL_law__1439 rfl ?_
    refine x_if_ne hE 1456 dL_law__1441 (by decide) (A := none) (B := some ()) (r := ()) (if_pos rfl) (fun h => by cases h) (fun _ => ?_)
    refine x_aload_n hE 5 dL_law__1444 rfl rfl ?_
    refine x_iconst hE 0 dL_law__1445 (by decide) ?_
    refine x_lald hE (hE.kd kA_145) dL_law__1446 (B := some ()) (r := ()) (by decide) (fun _ => ?_)
    refine x_iload hE 0 dL_law__1447 rfl ?_
    refine x_i2l hE dL_law__1449 ?_
    refine x_lcmp hE dL_law__1450 ?_
    refine x_if_eq hE 1456 dL_law__1451 (by decide) (A := some ()) (B := none) (r := ()) (if_pos cmp_out) (fun _ => ?_) (fun h => by cases h)
    refine x_goto hE 3277 dL_law__1456 (by decide) ?_
    refine x_pick [2, 3, 4, 5, 6] (L' := Lb σ b j) rfl ?_
    exact hK σ np (cells + 2) (slots + 6 * 2) R1 (wrd N 145 0 b1.toInt64) hE (gi_w hg) (by omega) (by omega)
