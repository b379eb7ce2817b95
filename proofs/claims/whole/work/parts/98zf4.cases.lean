theorem wL_c27 {p : Program} {l : Launch} {e : Env} {s : State} {m : MethodId} {args : Array Value} {below : List Frame} {meth : Method} {c : Code} {Y : Nat → ClassId} {D : va_G} {σ : Nat → Nat} {np b0 cells slots : Nat} {Q : State → Prop} {M : Mc} {N : Md} {b nX j : Nat} {xs : Nat → Int32} (hfl : l.stackTraces = false) (hE : EOK p s m args meth c cL_law_ 7 "SettlerColonyLaw" Y D σ np b0) (hX : va_X b nX xs s s.heap) (hb : b < b0) (hj : j + 6 ≤ nX) (hn : nX ≤ 3072) (hG : GI np M N) (hc : cells ≤ 600000) (hs : slots ≤ 7000000) (hK : LK p l e s m args below meth c Y D b0 cells slots Q b j) : Xw p l e room_1 s m args below meth c 7 Y D σ np b0 cells slots Q 2009 (Lb σ b j) [] M N := by
  unfold Lb
  by_cases hz : xs (j + 3) = 0
  · obtain ⟨x1, hx, hq⟩ := st_M (e := eB) (y := fun R => fX12_vote R (xs (j + 1)) (xs (j + 2)) 0) hG (fun n t m R h _ => c_vote h (xs (j + 1)) (xs (j + 2)) 0) (hA_fX11_vote ka_rf)
    rcases hq with ⟨k, b1, R1, rfl, he, hy, ht, hg⟩ | ⟨b1, C1, R1, rfl, hy, ht, hg⟩
    · refine x_aload_n hE 1 dL_law__2009 rfl rfl ?_
      refine x_arg hE hX hb hj hn 1 (by decide) (by decide) 0 4 dL_law__2010 dL_law__2011 dL_law__2013 dL_law__2014 dL_law__2015 rfl rfl ?_
      refine x_arg hE hX hb hj hn 2 (by decide) (by decide) 0 4 dL_law__2016 dL_law__2017 dL_law__2019 dL_law__2020 dL_law__2021 rfl rfl ?_
      refine x_arg hE hX hb hj hn 3 (by decide) (by decide) 0 4 dL_law__2022 dL_law__2023 dL_law__2025 dL_law__2026 dL_law__2027 rfl rfl ?_
      refine x_if_eq hE 2035 dL_law__2028 (by decide) (A := some ()) (B := none) (r := ()) (if_pos hz) (fun _ => ?_) (fun h => by cases h)
      refine x_iconst hE 0 dL_law__2035 (by decide) ?_
      refine x_aload_n hE 3 dL_law__2036 rfl rfl ?_
      refine x_callSW hE [.ref (σ 0), .int (xs (j + 1)), .int (xs (j + 2)), .int 0, .ref (σ 145)] (rest := []) (v := some (.int (eB k))) (c1 := M) (d1 := N) rfl yowL_vote ysL_vote lkw_245 ⟨Nat.le_of_ble_eq_true rfl, Nat.le_of_ble_eq_true rfl⟩ ⟨by show cells + 2 ≤ 601024; omega, by show slots + 6 * 2 ≤ 7293034; omega⟩ rfl (Nat.le_of_ble_eq_true rfl) dL_law__2037 (mL_vote l hfl hx) ?_
      refine x_istore hE (L' := [(5, .int (eB k)), (0, .ref b), (1, .ref (σ 0)), (2, .ref (σ 127)), (3, .ref (σ 145)), (4, .int (nI j))]) dL_law__2040 (by decide) rfl ?_
      refine x_aload_n hE 3 dL_law__2042 rfl rfl ?_
      refine x_arg hE hX hb hj hn 1 (by decide) (by decide) 1 5 dL_law__2043 dL_law__2044 dL_law__2046 dL_law__2047 dL_law__2048 rfl rfl ?_
      refine x_arg hE hX hb hj hn 2 (by decide) (by decide) 1 5 dL_law__2049 dL_law__2050 dL_law__2052 dL_law__2053 dL_law__2054 rfl rfl ?_
      refine x_arg hE hX hb hj hn 3 (by decide) (by decide) 1 5 dL_law__2055 dL_law__2056 dL_law__2058 dL_law__2059 dL_law__2060 rfl rfl ?_
      refine x_if_eq hE 2068 dL_law__2061 (by decide) (A := some ()) (B := none) (r := ()) (if_pos hz) (fun _ => ?_) (fun h => by cases h)
      refine x_iconst hE 0 dL_law__2068 (by decide) ?_
      refine x_callV1 hE [.int (xs (j + 1)), .int (xs (j + 2)), .int 0] (rest := []) (v := .int b1) (c1 := R1) (d1 := N) rfl yokX12_vote yvX12_vote lkw_247 rfl cl_12 (hE.kd kO_12) (by decide) rfl rfl ⟨Nat.le_of_ble_eq_true rfl, Nat.le_of_ble_eq_true rfl⟩ ⟨by show (cells + 2) ≤ 601024; omega, by show (slots + 6 * 2) ≤ 7293034; omega⟩ rfl (Nat.le_of_ble_eq_true rfl) dL_law__2069 (mX12_vote l hy) ?_
      refine x_istore hE (L' := [(6, .int b1), (5, .int (eB k)), (0, .ref b), (1, .ref (σ 0)), (2, .ref (σ 127)), (3, .ref (σ 145)), (4, .int (nI j))]) dL_law__2072 (by decide) rfl ?_
      refine x_aload_n hE 4 dL_law__2074 rfl rfl ?_
      refine x_callV1 hE [] (rest := []) (v := .int (R1 127 0)) (c1 := R1) (d1 := N) rfl yokX12_thrown yvX12_thrown lkw_157 rfl cl_12 (hE.kd kO_12) (by decide) rfl rfl ⟨Nat.le_of_ble_eq_true rfl, Nat.le_of_ble_eq_true rfl⟩ ⟨by show (cells + 2) ≤ 601024; omega, by show (slots + 6 * 2) ≤ 7293034; omega⟩ rfl (Nat.le_of_ble_eq_true rfl) dL_law__2075 (mX12_thrown l rfl) ?_
      refine x_iload hE 1 dL_law__2078 rfl ?_
      refine x_icmp_eq hE 2085 dL_law__2080 (by decide) (A := some ()) (B := none) (r := ()) (if_pos ht) (fun _ => ?_) (fun h => by cases h)
      refine x_iload hE 1 dL_law__2085 rfl ?_
      refine x_if_ne hE 2102 dL_law__2087 (by decide) (A := some ()) (B := none) (r := ()) (if_neg he) (fun _ => ?_) (fun h => by cases h)
      refine x_goto hE 3277 dL_law__2102 (by decide) ?_
      refine x_pick [2, 3, 4, 5, 6] (L' := Lb σ b j) rfl ?_
      exact hK σ np (cells + 2) (slots + 6 * 2) R1 N hE hg (by omega) (by omega)
    · refine x_aload_n hE 1 dL_law__2009 rfl rfl ?_
      refine x_arg hE hX hb hj hn 1 (by decide) (by decide) 0 4 dL_law__2010 dL_law__2011 dL_law__2013 dL_law__2014 dL_law__2015 rfl rfl ?_
      refine x_arg hE hX hb hj hn 2 (by decide) (by decide) 0 4 dL_law__2016 dL_law__2017 dL_law__2019 dL_law__2020 dL_law__2021 rfl rfl ?_
      refine x_arg hE hX hb hj hn 3 (by decide) (by decide) 0 4 dL_law__2022 dL_law__2023 dL_law__2025 dL_law__2026 dL_law__2027 rfl rfl ?_
      refine x_if_eq hE 2035 dL_law__2028 (by decide) (A := some ()) (B := none) (r := ()) (if_pos hz) (fun _ => ?_) (fun h => by cases h)
      refine x_iconst hE 0 dL_law__2035 (by decide) ?_
      refine x_aload_n hE 3 dL_law__2036 rfl rfl ?_
      refine x_callSW hE [.ref (σ 0), .int (xs (j + 1)), .int (xs (j + 2)), .int 0, .ref (σ 145)] (rest := []) (v := some (.int 0)) (c1 := C1) (d1 := (wrd N 145 0 b1.toInt64)) rfl yowL_vote ysL_vote lkw_245 ⟨Nat.le_of_ble_eq_true rfl, Nat.le_of_ble_eq_true rfl⟩ ⟨by show cells + 2 ≤ 601024; omega, by show slots + 6 * 2 ≤ 7293034; omega⟩ rfl (Nat.le_of_ble_eq_true rfl) dL_law__2037 (mL_vote l hfl hx) ?_
      refine x_istore hE (L' := [(5, .int 0), (0, .ref b), (1, .ref (σ 0)), (2, .ref (σ 127)), (3, .ref (σ 145)), (4, .int (nI j))]) dL_law__2040 (by decide) rfl ?_
      refine x_aload_n hE 3 dL_law__2042 rfl rfl ?_
      refine x_arg hE hX hb hj hn 1 (by decide) (by decide) 1 5 dL_law__2043 dL_law__2044 dL_law__2046 dL_law__2047 dL_law__2048 rfl rfl ?_
      refine x_arg hE hX hb hj hn 2 (by decide) (by decide) 1 5 dL_law__2049 dL_law__2050 dL_law__2052 dL_law__2053 dL_law__2054 rfl rfl ?_
      refine x_arg hE hX hb hj hn 3 (by decide) (by decide) 1 5 dL_law__2055 dL_law__2056 dL_law__2058 dL_law__2059 dL_law__2060 rfl rfl ?_
      refine x_if_eq hE 2068 dL_law__2061 (by decide) (A := some ()) (B := none) (r := ()) (if_pos hz) (fun _ => ?_) (fun h => by cases h)
      refine x_iconst hE 0 dL_law__2068 (by decide) ?_
      refine x_callV1 hE [.int (xs (j + 1)), .int (xs (j + 2)), .int 0] (rest := []) (v := .int b1) (c1 := R1) (d1 := (wrd N 145 0 b1.toInt64)) rfl yokX12_vote yvX12_vote lkw_247 rfl cl_12 (hE.kd kO_12) (by decide) rfl rfl ⟨Nat.le_of_ble_eq_true rfl, Nat.le_of_ble_eq_true rfl⟩ ⟨by show (cells + 2) ≤ 601024; omega, by show (slots + 6 * 2) ≤ 7293034; omega⟩ rfl (Nat.le_of_ble_eq_true rfl) dL_law__2069 (mX12_vote l hy) ?_
      refine x_istore hE (L' := [(6, .int b1), (5, .int 0), (0, .ref b), (1, .ref (σ 0)), (2, .ref (σ 127)), (3, .ref (σ 145)), (4, .int (nI j))]) dL_law__2072 (by decide) rfl ?_
      refine x_aload_n hE 4 dL_law__2074 rfl rfl ?_
      refine x_callV1 hE [] (rest := []) (v := .int (R1 127 0)) (c1 := R1) (d1 := (wrd N 145 0 b1.toInt64)) rfl yokX12_thrown yvX12_thrown lkw_157 rfl cl_12 (hE.kd kO_12) (by decide) rfl rfl ⟨Nat.le_of_ble_eq_true rfl, Nat.le_of_ble_eq_true rfl⟩ ⟨by show (cells + 2) ≤ 601024; omega, by show (slots + 6 * 2) ≤ 7293034; omega⟩ rfl (Nat.le_of_ble_eq_true rfl) dL_law__2075 (mX12_thrown l rfl) ?_
      refine x_iload hE 1 dL_law__2078 rfl ?_
      refine x_icmp_eq hE 2085 dL_law__2080 (by decide) (A := some ()) (B := none) (r := ()) (if_pos ht) (fun _ => ?_) (fun h => by cases h)
      refine x_iload hE 1 dL_law__2085 rfl ?_
      refine x_if_ne hE 2102 dL_law__2087 (by decide) (A := none) (B := some ()) (r := ()) (if_pos rfl) (fun h => by cases h) (fun _ => ?_)
      refine x_aload_n hE 5 dL_law__2090 rfl rfl ?_
      refine x_iconst hE 0 dL_law__2091 (by decide) ?_
      refine x_lald hE (hE.kd kA_145) dL_law__2092 (B := some ()) (r := ()) (by decide) (fun _ => ?_)
      refine x_iload hE 0 dL_law__2093 rfl ?_
      refine x_i2l hE dL_law__2095 ?_
      refine x_lcmp hE dL_law__2096 ?_
      refine x_if_eq hE 2102 dL_law__2097 (by decide) (A := some ()) (B := none) (r := ()) (if_pos cmp_out) (fun _ => ?_) (fun h => by cases h)
      refine x_goto hE 3277 dL_law__2102 (by decide) ?_
      refine x_pick [2, 3, 4, 5, 6] (L' := Lb σ b j) rfl ?_
      exact hK σ np (cells + 2) (slots + 6 * 2) R1 (wrd N 145 0 b1.toInt64) hE (gi_w hg) (by omega) (by omega)
  · obtain ⟨x1, hx, hq⟩ := st_M (e := eB) (y := fun R => fX12_vote R (xs (j + 1)) (xs (j + 2)) (nI 1)) hG (fun n t m R h _ => c_vote h (xs (j + 1)) (xs (j + 2)) (nI 1)) (hA_fX11_vote ka_rf)
    rcases hq with ⟨k, b1, R1, rfl, he, hy, ht, hg⟩ | ⟨b1, C1, R1, rfl, hy, ht, hg⟩
    · refine x_aload_n hE 1 dL_law__2009 rfl rfl ?_
      refine x_arg hE hX hb hj hn 1 (by decide) (by decide) 0 4 dL_law__2010 dL_law__2011 dL_law__2013 dL_law__2014 dL_law__2015 rfl rfl ?_
      refine x_arg hE hX hb hj hn 2 (by decide) (by decide) 0 4 dL_law__2016 dL_law__2017 dL_law__2019 dL_law__2020 dL_law__2021 rfl rfl ?_
      refine x_arg hE hX hb hj hn 3 (by decide) (by decide) 0 4 dL_law__2022 dL_law__2023 dL_law__2025 dL_law__2026 dL_law__2027 rfl rfl ?_
      refine x_if_eq hE 2035 dL_law__2028 (by decide) (A := none) (B := some ()) (r := ()) (if_neg hz) (fun h => by cases h) (fun _ => ?_)
      refine x_iconst hE (nI 1) dL_law__2031 (by decide) ?_
      refine x_goto hE 2036 dL_law__2032 (by decide) ?_
      refine x_aload_n hE 3 dL_law__2036 rfl rfl ?_
      refine x_callSW hE [.ref (σ 0), .int (xs (j + 1)), .int (xs (j + 2)), .int (nI 1), .ref (σ 145)] (rest := []) (v := some (.int (eB k))) (c1 := M) (d1 := N) rfl yowL_vote ysL_vote lkw_245 ⟨Nat.le_of_ble_eq_true rfl, Nat.le_of_ble_eq_true rfl⟩ ⟨by show cells + 2 ≤ 601024; omega, by show slots + 6 * 2 ≤ 7293034; omega⟩ rfl (Nat.le_of_ble_eq_true rfl) dL_law__2037 (mL_vote l hfl hx) ?_
      refine x_istore hE (L' := [(5, .int (eB k)), (0, .ref b), (1, .ref (σ 0)), (2, .ref (σ 127)), (3, .ref (σ 145)), (4, .int (nI j))]) dL_law__2040 (by decide) rfl ?_
      refine x_aload_n hE 3 dL_law__2042 rfl rfl ?_
      refine x_arg hE hX hb hj hn 1 (by decide) (by decide) 1 5 dL_law__2043 dL_law__2044 dL_law__2046 dL_law__2047 dL_law__2048 rfl rfl ?_
      refine x_arg hE hX hb hj hn 2 (by decide) (by decide) 1 5 dL_law__2049 dL_law__2050 dL_law__2052 dL_law__2053 dL_law__2054 rfl rfl ?_
      refine x_arg hE hX hb hj hn 3 (by decide) (by decide) 1 5 dL_law__2055 dL_law__2056 dL_law__2058 dL_law__2059 dL_law__2060 rfl rfl ?_
      refine x_if_eq hE 2068 dL_law__2061 (by decide) (A := none) (B := some ()) (r := ()) (if_neg hz) (fun h => by cases h) (fun _ => ?_)
      refine x_iconst hE (nI 1) dL_law__2064 (by decide) ?_
      refine x_goto hE 2069 dL_law__2065 (by decide) ?_
      refine x_callV1 hE [.int (xs (j + 1)), .int (xs (j + 2)), .int (nI 1)] (rest := []) (v := .int b1) (c1 := R1) (d1 := N) rfl yokX12_vote yvX12_vote lkw_247 rfl cl_12 (hE.kd kO_12) (by decide) rfl rfl ⟨Nat.le_of_ble_eq_true rfl, Nat.le_of_ble_eq_true rfl⟩ ⟨by show (cells + 2) ≤ 601024; omega, by show (slots + 6 * 2) ≤ 7293034; omega⟩ rfl (Nat.le_of_ble_eq_true rfl) dL_law__2069 (mX12_vote l hy) ?_
      refine x_istore hE (L' := [(6, .int b1), (5, .int (eB k)), (0, .ref b), (1, .ref (σ 0)), (2, .ref (σ 127)), (3, .ref (σ 145)), (4, .int (nI j))]) dL_law__2072 (by decide) rfl ?_
      refine x_aload_n hE 4 dL_law__2074 rfl rfl ?_
      refine x_callV1 hE [] (rest := []) (v := .int (R1 127 0)) (c1 := R1) (d1 := N) rfl yokX12_thrown yvX12_thrown lkw_157 rfl cl_12 (hE.kd kO_12) (by decide) rfl rfl ⟨Nat.le_of_ble_eq_true rfl, Nat.le_of_ble_eq_true rfl⟩ ⟨by show (cells + 2) ≤ 601024; omega, by show (slots + 6 * 2) ≤ 7293034; omega⟩ rfl (Nat.le_of_ble_eq_true rfl) dL_law__2075 (mX12_thrown l rfl) ?_
      refine x_iload hE 1 dL_law__2078 rfl ?_
      refine x_icmp_eq hE 2085 dL_law__2080 (by decide) (A := some ()) (B := none) (r := ()) (if_pos ht) (fun _ => ?_) (fun h => by cases h)
      refine x_iload hE 1 dL_law__2085 rfl ?_
      refine x_if_ne hE 2102 dL_law__2087 (by decide) (A := some ()) (B := none) (r := ()) (if_neg he) (fun _ => ?_) (fun h => by cases h)
      refine x_goto hE 3277 dL_law__2102 (by decide) ?_
      refine x_pick [2, 3, 4, 5, 6] (L' := Lb σ b j) rfl ?_
      exact hK σ np (cells + 2) (slots + 6 * 2) R1 N hE hg (by omega) (by omega)
    · refine x_aload_n hE 1 dL_law__2009 rfl rfl ?_
      refine x_arg hE hX hb hj hn 1 (by decide) (by decide) 0 4 dL_law__2010 dL_law__2011 dL_law__2013 dL_law__2014 dL_law__2015 rfl rfl ?_
      refine x_arg hE hX hb hj hn 2 (by decide) (by decide) 0 4 dL_law__2016 dL_law__2017 dL_law__2019 dL_law__2020 dL_law__2021 rfl rfl ?_
      refine x_arg hE hX hb hj hn 3 (by decide) (by decide) 0 4 dL_law__2022 dL_law__2023 dL_law__2025 dL_law__2026 dL_law__2027 rfl rfl ?_
      refine x_if_eq hE 2035 dL_law__2028 (by decide) (A := none) (B := some ()) (r := ()) (if_neg hz) (fun h => by cases h) (fun _ => ?_)
      refine x_iconst hE (nI 1) dL_law__2031 (by decide) ?_
      refine x_goto hE 2036 dL_law__2032 (by decide) ?_
      refine x_aload_n hE 3 dL_law__2036 rfl rfl ?_
      refine x_callSW hE [.ref (σ 0), .int (xs (j + 1)), .int (xs (j + 2)), .int (nI 1), .ref (σ 145)] (rest := []) (v := some (.int 0)) (c1 := C1) (d1 := (wrd N 145 0 b1.toInt64)) rfl yowL_vote ysL_vote lkw_245 ⟨Nat.le_of_ble_eq_true rfl, Nat.le_of_ble_eq_true rfl⟩ ⟨by show cells + 2 ≤ 601024; omega, by show slots + 6 * 2 ≤ 7293034; omega⟩ rfl (Nat.le_of_ble_eq_true rfl) dL_law__2037 (mL_vote l hfl hx) ?_
      refine x_istore hE (L' := [(5, .int 0), (0, .ref b), (1, .ref (σ 0)), (2, .ref (σ 127)), (3, .ref (σ 145)), (4, .int (nI j))]) dL_law__2040 (by decide) rfl ?_
      refine x_aload_n hE 3 dL_law__2042 rfl rfl ?_
      refine x_arg hE hX hb hj hn 1 (by decide) (by decide) 1 5 dL_law__2043 dL_law__2044 dL_law__2046 dL_law__2047 dL_law__2048 rfl rfl ?_
      refine x_arg hE hX hb hj hn 2 (by decide) (by decide) 1 5 dL_law__2049 dL_law__2050 dL_law__2052 dL_law__2053 dL_law__2054 rfl rfl ?_
      refine x_arg hE hX hb hj hn 3 (by decide) (by decide) 1 5 dL_law__2055 dL_law__2056 dL_law__2058 dL_law__2059 dL_law__2060 rfl rfl ?_
      refine x_if_eq hE 2068 dL_law__2061 (by decide) (A := none) (B := some ()) (r := ()) (if_neg hz) (fun h => by cases h) (fun _ => ?_)
      refine x_iconst hE (nI 1) dL_law__2064 (by decide) ?_
      refine x_goto hE 2069 dL_law__2065 (by decide) ?_
      refine x_callV1 hE [.int (xs (j + 1)), .int (xs (j + 2)), .int (nI 1)] (rest := []) (v := .int b1) (c1 := R1) (d1 := (wrd N 145 0 b1.toInt64)) rfl yokX12_vote yvX12_vote lkw_247 rfl cl_12 (hE.kd kO_12) (by decide) rfl rfl ⟨Nat.le_of_ble_eq_true rfl, Nat.le_of_ble_eq_true rfl⟩ ⟨by show (cells + 2) ≤ 601024; omega, by show (slots + 6 * 2) ≤ 7293034; omega⟩ rfl (Nat.le_of_ble_eq_true rfl) dL_law__2069 (mX12_vote l hy) ?_
      refine x_istore hE (L' := [(6, .int b1), (5, .int 0), (0, .ref b), (1, .ref (σ 0)), (2, .ref (σ 127)), (3, .ref (σ 145)), (4, .int (nI j))]) dL_law__2072 (by decide) rfl ?_
      refine x_aload_n hE 4 dL_law__2074 rfl rfl ?_
      refine x_callV1 hE [] (rest := []) (v := .int (R1 127 0)) (c1 := R1) (d1 := (wrd N 145 0 b1.toInt64)) rfl yokX12_thrown yvX12_thrown lkw_157 rfl cl_12 (hE.kd kO_12) (by decide) rfl rfl ⟨Nat.le_of_ble_eq_true rfl, Nat.le_of_ble_eq_true rfl⟩ ⟨by show (cells + 2) ≤ 601024; omega, by show (slots + 6 * 2) ≤ 7293034; omega⟩ rfl (Nat.le_of_ble_eq_true rfl) dL_law__2075 (mX12_thrown l rfl) ?_
      refine x_iload hE 1 dL_law__2078 rfl ?_
      refine x_icmp_eq hE 2085 dL_law__2080 (by decide) (A := some ()) (B := none) (r := ()) (if_pos ht) (fun _ => ?_) (fun h => by cases h)
      refine x_iload hE 1 dL_law__2085 rfl ?_
      refine x_if_ne hE 2102 dL_law__2087 (by decide) (A := none) (B := some ()) (r := ()) (if_pos rfl) (fun h => by cases h) (fun _ => ?_)
      refine x_aload_n hE 5 dL_law__2090 rfl rfl ?_
      refine x_iconst hE 0 dL_law__2091 (by decide) ?_
      refine x_lald hE (hE.kd kA_145) dL_law__2092 (B := some ()) (r := ()) (by decide) (fun _ => ?_)
      refine x_iload hE 0 dL_law__2093 rfl ?_
      refine x_i2l hE dL_law__2095 ?_
      refine x_lcmp hE dL_law__2096 ?_
      refine x_if_eq hE 2102 dL_law__2097 (by decide) (A := some ()) (B := none) (r := ()) (if_pos cmp_out) (fun _ => ?_) (fun h => by cases h)
      refine x_goto hE 3277 dL_law__2102 (by decide) ?_
      refine x_pick [2, 3, 4, 5, 6] (L' := Lb σ b j) rfl ?_
      exact hK σ np (cells + 2) (slots + 6 * 2) R1 (wrd N 145 0 b1.toInt64) hE (gi_w hg) (by omega) (by omega)
theorem wL_c28 {p : Program} {l : Launch} {e : Env} {s : State} {m : MethodId} {args : Array Value} {below : List Frame} {meth : Method} {c : Code} {Y : Nat → ClassId} {D : va_G} {σ : Nat → Nat} {np b0 cells slots : Nat} {Q : State → Prop} {M : Mc} {N : Md} {b nX j : Nat} {xs : Nat → Int32} (hfl : l.stackTraces = false) (hE : EOK p s m args meth c cL_law_ 7 "SettlerColonyLaw" Y D σ np b0) (hX : va_X b nX xs s s.heap) (hb : b < b0) (hj : j + 6 ≤ nX) (hn : nX ≤ 3072) (hG : GI np M N) (hc : cells ≤ 600000) (hs : slots ≤ 7000000) (hK : LK p l e s m args below meth c Y D b0 cells slots Q b j) : Xw p l e room_1 s m args below meth c 7 Y D σ np b0 cells slots Q 2105 (Lb σ b j) [] M N := by
  unfold Lb
  obtain ⟨x1, hx, hq⟩ := st_M (e := eB) (y := fun R => fX12_close R (xs (j + 1))) hG (fun n t m R h _ => c_close h (xs (j + 1))) (hA_fX11_close ka_rf)
  rcases hq with ⟨k, b1, R1, rfl, he, hy, ht, hg⟩ | ⟨b1, C1, R1, rfl, hy, ht, hg⟩
  · refine x_aload_n hE 1 dL_law__2105 rfl rfl ?_
    refine x_arg hE hX hb hj hn 1 (by decide) (by decide) 0 4 dL_law__2106 dL_law__2107 dL_law__2109 dL_law__2110 dL_law__2111 rfl rfl ?_
    refine x_aload_n hE 3 dL_law__2112 rfl rfl ?_
    refine x_callSW hE [.ref (σ 0), .int (xs (j + 1)), .ref (σ 145)] (rest := []) (v := some (.int (eB k))) (c1 := M) (d1 := N) rfl yowL_close ysL_close lkw_248 ⟨Nat.le_of_ble_eq_true rfl, Nat.le_of_ble_eq_true rfl⟩ ⟨by show cells + 1 ≤ 601024; omega, by show slots + 6 * 1 ≤ 7293034; omega⟩ rfl (Nat.le_of_ble_eq_true rfl) dL_law__2113 (mL_close l hfl hx) ?_
    refine x_istore hE (L' := [(5, .int (eB k)), (0, .ref b), (1, .ref (σ 0)), (2, .ref (σ 127)), (3, .ref (σ 145)), (4, .int (nI j))]) dL_law__2116 (by decide) rfl ?_
    refine x_aload_n hE 3 dL_law__2118 rfl rfl ?_
    refine x_arg hE hX hb hj hn 1 (by decide) (by decide) 1 5 dL_law__2119 dL_law__2120 dL_law__2122 dL_law__2123 dL_law__2124 rfl rfl ?_
    refine x_callV1 hE [.int (xs (j + 1))] (rest := []) (v := .int b1) (c1 := R1) (d1 := N) rfl yokX12_close yvX12_close lkw_250 rfl cl_12 (hE.kd kO_12) (by decide) rfl rfl ⟨Nat.le_of_ble_eq_true rfl, Nat.le_of_ble_eq_true rfl⟩ ⟨by show (cells + 1) ≤ 601024; omega, by show (slots + 6 * 1) ≤ 7293034; omega⟩ rfl (Nat.le_of_ble_eq_true rfl) dL_law__2125 (mX12_close l hy) ?_
    refine x_istore hE (L' := [(6, .int b1), (5, .int (eB k)), (0, .ref b), (1, .ref (σ 0)), (2, .ref (σ 127)), (3, .ref (σ 145)), (4, .int (nI j))]) dL_law__2128 (by decide) rfl ?_
    refine x_aload_n hE 4 dL_law__2130 rfl rfl ?_
    refine x_callV1 hE [] (rest := []) (v := .int (R1 127 0)) (c1 := R1) (d1 := N) rfl yokX12_thrown yvX12_thrown lkw_157 rfl cl_12 (hE.kd kO_12) (by decide) rfl rfl ⟨Nat.le_of_ble_eq_true rfl, Nat.le_of_ble_eq_true rfl⟩ ⟨by show (cells + 1) ≤ 601024; omega, by show (slots + 6 * 1) ≤ 7293034; omega⟩ rfl (Nat.le_of_ble_eq_true rfl) dL_law__2131 (mX12_thrown l rfl) ?_
    refine x_iload hE 1 dL_law__2134 rfl ?_
    refine x_icmp_eq hE 2141 dL_law__2136 (by decide) (A := some ()) (B := none) (r := ()) (if_pos ht) (fun _ => ?_) (fun h => by cases h)
    refine x_iload hE 1 dL_law__2141 rfl ?_
    refine x_if_ne hE 2158 dL_law__2143 (by decide) (A := some ()) (B := none) (r := ()) (if_neg he) (fun _ => ?_) (fun h => by cases h)
    refine x_goto hE 3277 dL_law__2158 (by decide) ?_
    refine x_pick [2, 3, 4, 5, 6] (L' := Lb σ b j) rfl ?_
    exact hK σ np (cells + 1) (slots + 6 * 1) R1 N hE hg (by omega) (by omega)
  · refine x_aload_n hE 1 dL_law__2105 rfl rfl ?_
    refine x_arg hE hX hb hj hn 1 (by decide) (by decide) 0 4 dL_law__2106 dL_law__2107 dL_law__2109 dL_law__2110 dL_law__2111 rfl rfl ?_
    refine x_aload_n hE 3 dL_law__2112 rfl rfl ?_
    refine x_callSW hE [.ref (σ 0), .int (xs (j + 1)), .ref (σ 145)] (rest := []) (v := some (.int 0)) (c1 := C1) (d1 := (wrd N 145 0 b1.toInt64)) rfl yowL_close ysL_close lkw_248 ⟨Nat.le_of_ble_eq_true rfl, Nat.le_of_ble_eq_true rfl⟩ ⟨by show cells + 1 ≤ 601024; omega, by show slots + 6 * 1 ≤ 7293034; omega⟩ rfl (Nat.le_of_ble_eq_true rfl) dL_law__2113 (mL_close l hfl hx) ?_
    refine x_istore hE (L' := [(5, .int 0), (0, .ref b), (1, .ref (σ 0)), (2, .ref (σ 127)), (3, .ref (σ 145)), (4, .int (nI j))]) dL_law__2116 (by decide) rfl ?_
    refine x_aload_n hE 3 dL_law__2118 rfl rfl ?_
    refine x_arg hE hX hb hj hn 1 (by decide) (by decide) 1 5 dL_law__2119 dL_law__2120 dL_law__2122 dL_law__2123 dL_law__2124 rfl rfl ?_
    refine x_callV1 hE [.int (xs (j + 1))] (rest := []) (v := .int b1) (c1 := R1) (d1 := (wrd N 145 0 b1.toInt64)) rfl yokX12_close yvX12_close lkw_250 rfl cl_12 (hE.kd kO_12) (by decide) rfl rfl ⟨Nat.le_of_ble_eq_true rfl, Nat.le_of_ble_eq_true rfl⟩ ⟨by show (cells + 1) ≤ 601024; omega, by show (slots + 6 * 1) ≤ 7293034; omega⟩ rfl (Nat.le_of_ble_eq_true rfl) dL_law__2125 (mX12_close l hy) ?_
    refine x_istore hE (L' := [(6, .int b1), (5, .int 0), (0, .ref b), (1, .ref (σ 0)), (2, .ref (σ 127)), (3, .ref (σ 145)), (4, .int (nI j))]) dL_law__2128 (by decide) rfl ?_
    refine x_aload_n hE 4 dL_law__2130 rfl rfl ?_
    refine x_callV1 hE [] (rest := []) (v := .int (R1 127 0)) (c1 := R1) (d1 := (wrd N 145 0 b1.toInt64)) rfl yokX12_thrown yvX12_thrown lkw_157 rfl cl_12 (hE.kd kO_12) (by decide) rfl rfl ⟨Nat.le_of_ble_eq_true rfl, Nat.le_of_ble_eq_true rfl⟩ ⟨by show (cells + 1) ≤ 601024; omega, by show (slots + 6 * 1) ≤ 7293034; omega⟩ rfl (Nat.le_of_ble_eq_true rfl) dL_law__2131 (mX12_thrown l rfl) ?_
    refine x_iload hE 1 dL_law__2134 rfl ?_
    refine x_icmp_eq hE 2141 dL_law__2136 (by decide) (A := some ()) (B := none) (r := ()) (if_pos ht) (fun _ => ?_) (fun h => by cases h)
    refine x_iload hE 1 dL_law__2141 rfl ?_
    refine x_if_ne hE 2158 dL_law__2143 (by decide) (A := none) (B := some ()) (r := ()) (if_pos rfl) (fun h => by cases h) (fun _ => ?_)
    refine x_aload_n hE 5 dL_law__2146 rfl rfl ?_
    refine x_iconst hE 0 dL_law__2147 (by decide) ?_
    refine x_lald hE (hE.kd kA_145) dL_law__2148 (B := some ()) (r := ()) (by decide) (fun _ => ?_)
    refine x_iload hE 0 dL_law__2149 rfl ?_
    refine x_i2l hE dL_law__2151 ?_
    refine x_lcmp hE dL_law__2152 ?_
    refine x_if_eq hE 2158 dL_law__2153 (by decide) (A := some ()) (B := none) (r := ()) (if_pos cmp_out) (fun _ => ?_) (fun h => by cases h)
    refine x_goto hE 3277 dL_law__2158 (by decide) ?_
    refine x_pick [2, 3, 4, 5, 6] (L' := Lb σ b j) rfl ?_
    exact hK σ np (cells + 1) (slots + 6 * 1) R1 (wrd N 145 0 b1.toInt64) hE (gi_w hg) (by omega) (by omega)
theorem wL_c29 {p : Program} {l : Launch} {e : Env} {s : State} {m : MethodId} {args : Array Value} {below : List Frame} {meth : Method} {c : Code} {Y : Nat → ClassId} {D : va_G} {σ : Nat → Nat} {np b0 cells slots : Nat} {Q : State → Prop} {M : Mc} {N : Md} {b nX j : Nat} {xs : Nat → Int32} (hfl : l.stackTraces = false) (hE : EOK p s m args meth c cL_law_ 7 "SettlerColonyLaw" Y D σ np b0) (hX : va_X b nX xs s s.heap) (hb : b < b0) (hj : j + 6 ≤ nX) (hn : nX ≤ 3072) (hG : GI np M N) (hc : cells ≤ 600000) (hs : slots ≤ 7000000) (hK : LK p l e s m args below meth c Y D b0 cells slots Q b j) : Xw p l e room_1 s m args below meth c 7 Y D σ np b0 cells slots Q 2161 (Lb σ b j) [] M N := by
  unfold Lb
  by_cases hz : xs (j + 2) = 0
  · obtain ⟨x1, hx, hq⟩ := st_M (e := eB) (y := fun R => fX12_assent R (xs (j + 1)) 0) hG (fun n t m R h _ => c_assent h (xs (j + 1)) 0) (hA_fX11_assent ka_rf)
    rcases hq with ⟨k, b1, R1, rfl, he, hy, ht, hg⟩ | ⟨b1, C1, R1, rfl, hy, ht, hg⟩
    · refine x_aload_n hE 1 dL_law__2161 rfl rfl ?_
      refine x_arg hE hX hb hj hn 1 (by decide) (by decide) 0 4 dL_law__2162 dL_law__2163 dL_law__2165 dL_law__2166 dL_law__2167 rfl rfl ?_
      refine x_arg hE hX hb hj hn 2 (by decide) (by decide) 0 4 dL_law__2168 dL_law__2169 dL_law__2171 dL_law__2172 dL_law__2173 rfl rfl ?_
      refine x_if_eq hE 2181 dL_law__2174 (by decide) (A := some ()) (B := none) (r := ()) (if_pos hz) (fun _ => ?_) (fun h => by cases h)
      refine x_iconst hE 0 dL_law__2181 (by decide) ?_
      refine x_aload_n hE 3 dL_law__2182 rfl rfl ?_
      refine x_callSW hE [.ref (σ 0), .int (xs (j + 1)), .int 0, .ref (σ 145)] (rest := []) (v := some (.int (eB k))) (c1 := M) (d1 := N) rfl yowL_assent ysL_assent lkw_251 ⟨Nat.le_of_ble_eq_true rfl, Nat.le_of_ble_eq_true rfl⟩ ⟨by show cells + 1 ≤ 601024; omega, by show slots + 6 * 1 ≤ 7293034; omega⟩ rfl (Nat.le_of_ble_eq_true rfl) dL_law__2183 (mL_assent l hfl hx) ?_
      refine x_istore hE (L' := [(5, .int (eB k)), (0, .ref b), (1, .ref (σ 0)), (2, .ref (σ 127)), (3, .ref (σ 145)), (4, .int (nI j))]) dL_law__2186 (by decide) rfl ?_
      refine x_aload_n hE 3 dL_law__2188 rfl rfl ?_
      refine x_arg hE hX hb hj hn 1 (by decide) (by decide) 1 5 dL_law__2189 dL_law__2190 dL_law__2192 dL_law__2193 dL_law__2194 rfl rfl ?_
      refine x_arg hE hX hb hj hn 2 (by decide) (by decide) 1 5 dL_law__2195 dL_law__2196 dL_law__2198 dL_law__2199 dL_law__2200 rfl rfl ?_
      refine x_if_eq hE 2208 dL_law__2201 (by decide) (A := some ()) (B := none) (r := ()) (if_pos hz) (fun _ => ?_) (fun h => by cases h)
      refine x_iconst hE 0 dL_law__2208 (by decide) ?_
      refine x_callV1 hE [.int (xs (j + 1)), .int 0] (rest := []) (v := .int b1) (c1 := R1) (d1 := N) rfl yokX12_assent yvX12_assent lkw_254 rfl cl_12 (hE.kd kO_12) (by decide) rfl rfl ⟨Nat.le_of_ble_eq_true rfl, Nat.le_of_ble_eq_true rfl⟩ ⟨by show (cells + 1) ≤ 601024; omega, by show (slots + 6 * 1) ≤ 7293034; omega⟩ rfl (Nat.le_of_ble_eq_true rfl) dL_law__2209 (mX12_assent l hy) ?_
      refine x_istore hE (L' := [(6, .int b1), (5, .int (eB k)), (0, .ref b), (1, .ref (σ 0)), (2, .ref (σ 127)), (3, .ref (σ 145)), (4, .int (nI j))]) dL_law__2212 (by decide) rfl ?_
      refine x_aload_n hE 4 dL_law__2214 rfl rfl ?_
      refine x_callV1 hE [] (rest := []) (v := .int (R1 127 0)) (c1 := R1) (d1 := N) rfl yokX12_thrown yvX12_thrown lkw_157 rfl cl_12 (hE.kd kO_12) (by decide) rfl rfl ⟨Nat.le_of_ble_eq_true rfl, Nat.le_of_ble_eq_true rfl⟩ ⟨by show (cells + 1) ≤ 601024; omega, by show (slots + 6 * 1) ≤ 7293034; omega⟩ rfl (Nat.le_of_ble_eq_true rfl) dL_law__2215 (mX12_thrown l rfl) ?_
      refine x_iload hE 1 dL_law__2218 rfl ?_
      refine x_icmp_eq hE 2225 dL_law__2220 (by decide) (A := some ()) (B := none) (r := ()) (if_pos ht) (fun _ => ?_) (fun h => by cases h)
      refine x_iload hE 1 dL_law__2225 rfl ?_
      refine x_if_ne hE 2242 dL_law__2227 (by decide) (A := some ()) (B := none) (r := ()) (if_neg he) (fun _ => ?_) (fun h => by cases h)
      refine x_goto hE 3277 dL_law__2242 (by decide) ?_
      refine x_pick [2, 3, 4, 5, 6] (L' := Lb σ b j) rfl ?_
      exact hK σ np (cells + 1) (slots + 6 * 1) R1 N hE hg (by omega) (by omega)
    · refine x_aload_n hE 1 dL_law__2161 rfl rfl ?_
      refine x_arg hE hX hb hj hn 1 (by decide) (by decide) 0 4 dL_law__2162 dL_law__2163 dL_law__2165 dL_law__2166 dL_law__2167 rfl rfl ?_
      refine x_arg hE hX hb hj hn 2 (by decide) (by decide) 0 4 dL_law__2168 dL_law__2169 dL_law__2171 dL_law__2172 dL_law__2173 rfl rfl ?_
      refine x_if_eq hE 2181 dL_law__2174 (by decide) (A := some ()) (B := none) (r := ()) (if_pos hz) (fun _ => ?_) (fun h => by cases h)
      refine x_iconst hE 0 dL_law__2181 (by decide) ?_
      refine x_aload_n hE 3 dL_law__2182 rfl rfl ?_
      refine x_callSW hE [.ref (σ 0), .int (xs (j + 1)), .int 0, .ref (σ 145)] (rest := []) (v := some (.int 0)) (c1 := C1) (d1 := (wrd N 145 0 b1.toInt64)) rfl yowL_assent ysL_assent lkw_251 ⟨Nat.le_of_ble_eq_true rfl, Nat.le_of_ble_eq_true rfl⟩ ⟨by show cells + 1 ≤ 601024; omega, by show slots + 6 * 1 ≤ 7293034; omega⟩ rfl (Nat.le_of_ble_eq_true rfl) dL_law__2183 (mL_assent l hfl hx) ?_
      refine x_istore hE (L' := [(5, .int 0), (0, .ref b), (1, .ref (σ 0)), (2, .ref (σ 127)), (3, .ref (σ 145)), (4, .int (nI j))]) dL_law__2186 (by decide) rfl ?_
      refine x_aload_n hE 3 dL_law__2188 rfl rfl ?_
      refine x_arg hE hX hb hj hn 1 (by decide) (by decide) 1 5 dL_law__2189 dL_law__2190 dL_law__2192 dL_law__2193 dL_law__2194 rfl rfl ?_
      refine x_arg hE hX hb hj hn 2 (by decide) (by decide) 1 5 dL_law__2195 dL_law__2196 dL_law__2198 dL_law__2199 dL_law__2200 rfl rfl ?_
      refine x_if_eq hE 2208 dL_law__2201 (by decide) (A := some ()) (B := none) (r := ()) (if_pos hz) (fun _ => ?_) (fun h => by cases h)
      refine x_iconst hE 0 dL_law__2208 (by decide) ?_
      refine x_callV1 hE [.int (xs (j + 1)), .int 0] (rest := []) (v := .int b1) (c1 := R1) (d1 := (wrd N 145 0 b1.toInt64)) rfl yokX12_assent yvX12_assent lkw_254 rfl cl_12 (hE.kd kO_12) (by decide) rfl rfl ⟨Nat.le_of_ble_eq_true rfl, Nat.le_of_ble_eq_true rfl⟩ ⟨by show (cells + 1) ≤ 601024; omega, by show (slots + 6 * 1) ≤ 7293034; omega⟩ rfl (Nat.le_of_ble_eq_true rfl) dL_law__2209 (mX12_assent l hy) ?_
      refine x_istore hE (L' := [(6, .int b1), (5, .int 0), (0, .ref b), (1, .ref (σ 0)), (2, .ref (σ 127)), (3, .ref (σ 145)), (4, .int (nI j))]) dL_law__2212 (by decide) rfl ?_
      refine x_aload_n hE 4 dL_law__2214 rfl rfl ?_
      refine x_callV1 hE [] (rest := []) (v := .int (R1 127 0)) (c1 := R1) (d1 := (wrd N 145 0 b1.toInt64)) rfl yokX12_thrown yvX12_thrown lkw_157 rfl cl_12 (hE.kd kO_12) (by decide) rfl rfl ⟨Nat.le_of_ble_eq_true rfl, Nat.le_of_ble_eq_true rfl⟩ ⟨by show (cells + 1) ≤ 601024; omega, by show (slots + 6 * 1) ≤ 7293034; omega⟩ rfl (Nat.le_of_ble_eq_true rfl) dL_law__2215 (mX12_thrown l rfl) ?_
      refine x_iload hE 1 dL_law__2218 rfl ?_
      refine x_icmp_eq hE 2225 dL_law__2220 (by decide) (A := some ()) (B := none) (r := ()) (if_pos ht) (fun _ => ?_) (fun h => by cases h)
      refine x_iload hE 1 dL_law__2225 rfl ?_
      refine x_if_ne hE 2242 dL_law__2227 (by decide) (A := none) (B := some ()) (r := ()) (if_pos rfl) (fun h => by cases h) (fun _ => ?_)
      refine x_aload_n hE 5 dL_law__2230 rfl rfl ?_
      refine x_iconst hE 0 dL_law__2231 (by decide) ?_
      refine x_lald hE (hE.kd kA_145) dL_law__2232 (B := some ()) (r := ()) (by decide) (fun _ => ?_)
      refine x_iload hE 0 dL_law__2233 rfl ?_
      refine x_i2l hE dL_law__2235 ?_
      refine x_lcmp hE dL_law__2236 ?_
      refine x_if_eq hE 2242 dL_law__2237 (by decide) (A := some ()) (B := none) (r := ()) (if_pos cmp_out) (fun _ => ?_) (fun h => by cases h)
      refine x_goto hE 3277 dL_law__2242 (by decide) ?_
      refine x_pick [2, 3, 4, 5, 6] (L' := Lb σ b j) rfl ?_
      exact hK σ np (cells + 1) (slots + 6 * 1) R1 (wrd N 145 0 b1.toInt64) hE (gi_w hg) (by omega) (by omega)
  · obtain ⟨x1, hx, hq⟩ := st_M (e := eB) (y := fun R => fX12_assent R (xs (j + 1)) (nI 1)) hG (fun n t m R h _ => c_assent h (xs (j + 1)) (nI 1)) (hA_fX11_assent ka_rf)
    rcases hq with ⟨k, b1, R1, rfl, he, hy, ht, hg⟩ | ⟨b1, C1, R1, rfl, hy, ht, hg⟩
    · refine x_aload_n hE 1 dL_law__2161 rfl rfl ?_
      refine x_arg hE hX hb hj hn 1 (by decide) (by decide) 0 4 dL_law__2162 dL_law__2163 dL_law__2165 dL_law__2166 dL_law__2167 rfl rfl ?_
      refine x_arg hE hX hb hj hn 2 (by decide) (by decide) 0 4 dL_law__2168 dL_law__2169 dL_law__2171 dL_law__2172 dL_law__2173 rfl rfl ?_
      refine x_if_eq hE 2181 dL_law__2174 (by decide) (A := none) (B := some ()) (r := ()) (if_neg hz) (fun h => by cases h) (fun _ => ?_)
      refine x_iconst hE (nI 1) dL_law__2177 (by decide) ?_
      refine x_goto hE 2182 dL_law__2178 (by decide) ?_
      refine x_aload_n hE 3 dL_law__2182 rfl rfl ?_
      refine x_callSW hE [.ref (σ 0), .int (xs (j + 1)), .int (nI 1), .ref (σ 145)] (rest := []) (v := some (.int (eB k))) (c1 := M) (d1 := N) rfl yowL_assent ysL_assent lkw_251 ⟨Nat.le_of_ble_eq_true rfl, Nat.le_of_ble_eq_true rfl⟩ ⟨by show cells + 1 ≤ 601024; omega, by show slots + 6 * 1 ≤ 7293034; omega⟩ rfl (Nat.le_of_ble_eq_true rfl) dL_law__2183 (mL_assent l hfl hx) ?_
      refine x_istore hE (L' := [(5, .int (eB k)), (0, .ref b), (1, .ref (σ 0)), (2, .ref (σ 127)), (3, .ref (σ 145)), (4, .int (nI j))]) dL_law__2186 (by decide) rfl ?_
      refine x_aload_n hE 3 dL_law__2188 rfl rfl ?_
      refine x_arg hE hX hb hj hn 1 (by decide) (by decide) 1 5 dL_law__2189 dL_law__2190 dL_law__2192 dL_law__2193 dL_law__2194 rfl rfl ?_
      refine x_arg hE hX hb hj hn 2 (by decide) (by decide) 1 5 dL_law__2195 dL_law__2196 dL_law__2198 dL_law__2199 dL_law__2200 rfl rfl ?_
      refine x_if_eq hE 2208 dL_law__2201 (by decide) (A := none) (B := some ()) (r := ()) (if_neg hz) (fun h => by cases h) (fun _ => ?_)
      refine x_iconst hE (nI 1) dL_law__2204 (by decide) ?_
      refine x_goto hE 2209 dL_law__2205 (by decide) ?_
      refine x_callV1 hE [.int (xs (j + 1)), .int (nI 1)] (rest := []) (v := .int b1) (c1 := R1) (d1 := N) rfl yokX12_assent yvX12_assent lkw_254 rfl cl_12 (hE.kd kO_12) (by decide) rfl rfl ⟨Nat.le_of_ble_eq_true rfl, Nat.le_of_ble_eq_true rfl⟩ ⟨by show (cells + 1) ≤ 601024; omega, by show (slots + 6 * 1) ≤ 7293034; omega⟩ rfl (Nat.le_of_ble_eq_true rfl) dL_law__2209 (mX12_assent l hy) ?_
      refine x_istore hE (L' := [(6, .int b1), (5, .int (eB k)), (0, .ref b), (1, .ref (σ 0)), (2, .ref (σ 127)), (3, .ref (σ 145)), (4, .int (nI j))]) dL_law__2212 (by decide) rfl ?_
      refine x_aload_n hE 4 dL_law__2214 rfl rfl ?_
      refine x_callV1 hE [] (rest := []) (v := .int (R1 127 0)) (c1 := R1) (d1 := N) rfl yokX12_thrown yvX12_thrown lkw_157 rfl cl_12 (hE.kd kO_12) (by decide) rfl rfl ⟨Nat.le_of_ble_eq_true rfl, Nat.le_of_ble_eq_true rfl⟩ ⟨by show (cells + 1) ≤ 601024; omega, by show (slots + 6 * 1) ≤ 7293034; omega⟩ rfl (Nat.le_of_ble_eq_true rfl) dL_law__2215 (mX12_thrown l rfl) ?_
      refine x_iload hE 1 dL_law__2218 rfl ?_
      refine x_icmp_eq hE 2225 dL_law__2220 (by decide) (A := some ()) (B := none) (r := ()) (if_pos ht) (fun _ => ?_) (fun h => by cases h)
      refine x_iload hE 1 dL_law__2225 rfl ?_
      refine x_if_ne hE 2242 dL_law__2227 (by decide) (A := some ()) (B := none) (r := ()) (if_neg he) (fun _ => ?_) (fun h => by cases h)
      refine x_goto hE 3277 dL_law__2242 (by decide) ?_
      refine x_pick [2, 3, 4, 5, 6] (L' := Lb σ b j) rfl ?_
      exact hK σ np (cells + 1) (slots + 6 * 1) R1 N hE hg (by omega) (by omega)
    · refine x_aload_n hE 1 dL_law__2161 rfl rfl ?_
      refine x_arg hE hX hb hj hn 1 (by decide) (by decide) 0 4 dL_law__2162 dL_law__2163 dL_law__2165 dL_law__2166 dL_law__2167 rfl rfl ?_
      refine x_arg hE hX hb hj hn 2 (by decide) (by decide) 0 4 dL_law__2168 dL_law__2169 dL_law__2171 dL_law__2172 dL_law__2173 rfl rfl ?_
      refine x_if_eq hE 2181 dL_law__2174 (by decide) (A := none) (B := some ()) (r := ()) (if_neg hz) (fun h => by cases h) (fun _ => ?_)
      refine x_iconst hE (nI 1) dL_law__2177 (by decide) ?_
      refine x_goto hE 2182 dL_law__2178 (by decide) ?_
      refine x_aload_n hE 3 dL_law__2182 rfl rfl ?_
      refine x_callSW hE [.ref (σ 0), .int (xs (j + 1)), .int (nI 1), .ref (σ 145)] (rest := []) (v := some (.int 0)) (c1 := C1) (d1 := (wrd N 145 0 b1.toInt64)) rfl yowL_assent ysL_assent lkw_251 ⟨Nat.le_of_ble_eq_true rfl, Nat.le_of_ble_eq_true rfl⟩ ⟨by show cells + 1 ≤ 601024; omega, by show slots + 6 * 1 ≤ 7293034; omega⟩ rfl (Nat.le_of_ble_eq_true rfl) dL_law__2183 (mL_assent l hfl hx) ?_
      refine x_istore hE (L' := [(5, .int 0), (0, .ref b), (1, .ref (σ 0)), (2, .ref (σ 127)), (3, .ref (σ 145)), (4, .int (nI j))]) dL_law__2186 (by decide) rfl ?_
      refine x_aload_n hE 3 dL_law__2188 rfl rfl ?_
      refine x_arg hE hX hb hj hn 1 (by decide) (by decide) 1 5 dL_law__2189 dL_law__2190 dL_law__2192 dL_law__2193 dL_law__2194 rfl rfl ?_
      refine x_arg hE hX hb hj hn 2 (by decide) (by decide) 1 5 dL_law__2195 dL_law__2196 dL_law__2198 dL_law__2199 dL_law__2200 rfl rfl ?_
      refine x_if_eq hE 2208 dL_law__2201 (by decide) (A := none) (B := some ()) (r := ()) (if_neg hz) (fun h => by cases h) (fun _ => ?_)
      refine x_iconst hE (nI 1) dL_law__2204 (by decide) ?_
      refine x_goto hE 2209 dL_law__2205 (by decide) ?_
      refine x_callV1 hE [.int (xs (j + 1)), .int (nI 1)] (rest := []) (v := .int b1) (c1 := R1) (d1 := (wrd N 145 0 b1.toInt64)) rfl yokX12_assent yvX12_assent lkw_254 rfl cl_12 (hE.kd kO_12) (by decide) rfl rfl ⟨Nat.le_of_ble_eq_true rfl, Nat.le_of_ble_eq_true rfl⟩ ⟨by show (cells + 1) ≤ 601024; omega, by show (slots + 6 * 1) ≤ 7293034; omega⟩ rfl (Nat.le_of_ble_eq_true rfl) dL_law__2209 (mX12_assent l hy) ?_
      refine x_istore hE (L' := [(6, .int b1), (5, .int 0), (0, .ref b), (1, .ref (σ 0)), (2, .ref (σ 127)), (3, .ref (σ 145)), (4, .int (nI j))]) dL_law__2212 (by decide) rfl ?_
      refine x_aload_n hE 4 dL_law__2214 rfl rfl ?_
      refine x_callV1 hE [] (rest := []) (v := .int (R1 127 0)) (c1 := R1) (d1 := (wrd N 145 0 b1.toInt64)) rfl yokX12_thrown yvX12_thrown lkw_157 rfl cl_12 (hE.kd kO_12) (by decide) rfl rfl ⟨Nat.le_of_ble_eq_true rfl, Nat.le_of_ble_eq_true rfl⟩ ⟨by show (cells + 1) ≤ 601024; omega, by show (slots + 6 * 1) ≤ 7293034; omega⟩ rfl (Nat.le_of_ble_eq_true rfl) dL_law__2215 (mX12_thrown l rfl) ?_
      refine x_iload hE 1 dL_law__2218 rfl ?_
      refine x_icmp_eq hE 2225 dL_law__2220 (by decide) (A := some ()) (B := none) (r := ()) (if_pos ht) (fun _ => ?_) (fun h => by cases h)
      refine x_iload hE 1 dL_law__2225 rfl ?_
      refine x_if_ne hE 2242 dL_law__2227 (by decide) (A := none) (B := some ()) (r := ()) (if_pos rfl) (fun h => by cases h) (fun _ => ?_)
      refine x_aload_n hE 5 dL_law__2230 rfl rfl ?_
      refine x_iconst hE 0 dL_law__2231 (by decide) ?_
      refine x_lald hE (hE.kd kA_145) dL_law__2232 (B := some ()) (r := ()) (by decide) (fun _ => ?_)
      refine x_iload hE 0 dL_law__2233 rfl ?_
      refine x_i2l hE dL_law__2235 ?_
      refine x_lcmp hE dL_law__2236 ?_
      refine x_if_eq hE 2242 dL_law__2237 (by decide) (A := some ()) (B := none) (r := ()) (if_pos cmp_out) (fun _ => ?_) (fun h => by cases h)
      refine x_goto hE 3277 dL_law__2242 (by decide) ?_
      refine x_pick [2, 3, 4, 5, 6] (L' := Lb σ b j) rfl ?_
      exact hK σ np (cells + 1) (slots + 6 * 1) R1 (wrd N 145 0 b1.toInt64) hE (gi_w hg) (by omega) (by omega)
theorem wL_c30 {p : Program} {l : Launch} {e : Env} {s : State} {m : MethodId} {args : Array Value} {below : List Frame} {meth : Method} {c : Code} {Y : Nat → ClassId} {D : va_G} {σ : Nat → Nat} {np b0 cells slots : Nat} {Q : State → Prop} {M : Mc} {N : Md} {b nX j : Nat} {xs : Nat → Int32} (hfl : l.stackTraces = false) (hE : EOK p s m args meth c cL_law_ 7 "SettlerColonyLaw" Y D σ np b0) (hX : va_X b nX xs s s.heap) (hb : b < b0) (hj : j + 6 ≤ nX) (hn : nX ≤ 3072) (hG : GI np M N) (hc : cells ≤ 600000) (hs : slots ≤ 7000000) (hK : LK p l e s m args below meth c Y D b0 cells slots Q b j) : Xw p l e room_1 s m args below meth c 7 Y D σ np b0 cells slots Q 2245 (Lb σ b j) [] M N := by
  unfold Lb
  obtain ⟨x1, hx, hq⟩ := st_R (e := eB) (y := fun R => fX12_force R (xs (j + 1))) hG (fun n t m h => c_force h (xs (j + 1)))
  rcases hq with ⟨k, b1, R1, rfl, he, hy, ht, hg⟩ | ⟨b1, R1, rfl, hy, ht, hg⟩
  · refine x_aload_n hE 1 dL_law__2245 rfl rfl ?_
    refine x_arg hE hX hb hj hn 1 (by decide) (by decide) 0 4 dL_law__2246 dL_law__2247 dL_law__2249 dL_law__2250 dL_law__2251 rfl rfl ?_
    refine x_aload_n hE 3 dL_law__2252 rfl rfl ?_
    refine x_callSW hE [.ref (σ 0), .int (xs (j + 1)), .ref (σ 145)] (rest := []) (v := some (.int (eB k))) (c1 := M) (d1 := N) rfl yowL_force ysL_force lkw_255 ⟨Nat.le_of_ble_eq_true rfl, Nat.le_of_ble_eq_true rfl⟩ ⟨by show cells + 1 ≤ 601024; omega, by show slots + 6 * 1 ≤ 7293034; omega⟩ rfl (Nat.le_of_ble_eq_true rfl) dL_law__2253 (mL_force l hfl hx) ?_
    refine x_istore hE (L' := [(5, .int (eB k)), (0, .ref b), (1, .ref (σ 0)), (2, .ref (σ 127)), (3, .ref (σ 145)), (4, .int (nI j))]) dL_law__2256 (by decide) rfl ?_
    refine x_aload_n hE 3 dL_law__2258 rfl rfl ?_
    refine x_arg hE hX hb hj hn 1 (by decide) (by decide) 1 5 dL_law__2259 dL_law__2260 dL_law__2262 dL_law__2263 dL_law__2264 rfl rfl ?_
    refine x_callV1 hE [.int (xs (j + 1))] (rest := []) (v := .int b1) (c1 := R1) (d1 := N) rfl yokX12_force yvX12_force lkw_257 rfl cl_12 (hE.kd kO_12) (by decide) rfl rfl ⟨Nat.le_of_ble_eq_true rfl, Nat.le_of_ble_eq_true rfl⟩ ⟨by show (cells + 1) ≤ 601024; omega, by show (slots + 6 * 1) ≤ 7293034; omega⟩ rfl (Nat.le_of_ble_eq_true rfl) dL_law__2265 (mX12_force l hy) ?_
    refine x_istore hE (L' := [(6, .int b1), (5, .int (eB k)), (0, .ref b), (1, .ref (σ 0)), (2, .ref (σ 127)), (3, .ref (σ 145)), (4, .int (nI j))]) dL_law__2268 (by decide) rfl ?_
    refine x_aload_n hE 4 dL_law__2270 rfl rfl ?_
    refine x_callV1 hE [] (rest := []) (v := .int (R1 127 0)) (c1 := R1) (d1 := N) rfl yokX12_thrown yvX12_thrown lkw_157 rfl cl_12 (hE.kd kO_12) (by decide) rfl rfl ⟨Nat.le_of_ble_eq_true rfl, Nat.le_of_ble_eq_true rfl⟩ ⟨by show (cells + 1) ≤ 601024; omega, by show (slots + 6 * 1) ≤ 7293034; omega⟩ rfl (Nat.le_of_ble_eq_true rfl) dL_law__2271 (mX12_thrown l rfl) ?_
    refine x_iload hE 1 dL_law__2274 rfl ?_
    refine x_icmp_eq hE 2281 dL_law__2276 (by decide) (A := some ()) (B := none) (r := ()) (if_pos ht) (fun _ => ?_) (fun h => by cases h)
    refine x_iload hE 1 dL_law__2281 rfl ?_
    refine x_if_ne hE 2298 dL_law__2283 (by decide) (A := some ()) (B := none) (r := ()) (if_neg he) (fun _ => ?_) (fun h => by cases h)
    refine x_goto hE 3277 dL_law__2298 (by decide) ?_
    refine x_pick [2, 3, 4, 5, 6] (L' := Lb σ b j) rfl ?_
    exact hK σ np (cells + 1) (slots + 6 * 1) R1 N hE hg (by omega) (by omega)
  · refine x_aload_n hE 1 dL_law__2245 rfl rfl ?_
    refine x_arg hE hX hb hj hn 1 (by decide) (by decide) 0 4 dL_law__2246 dL_law__2247 dL_law__2249 dL_law__2250 dL_law__2251 rfl rfl ?_
    refine x_aload_n hE 3 dL_law__2252 rfl rfl ?_
    refine x_callSW hE [.ref (σ 0), .int (xs (j + 1)), .ref (σ 145)] (rest := []) (v := some (.int 0)) (c1 := M) (d1 := (wrd N 145 0 b1.toInt64)) rfl yowL_force ysL_force lkw_255 ⟨Nat.le_of_ble_eq_true rfl, Nat.le_of_ble_eq_true rfl⟩ ⟨by show cells + 1 ≤ 601024; omega, by show slots + 6 * 1 ≤ 7293034; omega⟩ rfl (Nat.le_of_ble_eq_true rfl) dL_law__2253 (mL_force l hfl hx) ?_
    refine x_istore hE (L' := [(5, .int 0), (0, .ref b), (1, .ref (σ 0)), (2, .ref (σ 127)), (3, .ref (σ 145)), (4, .int (nI j))]) dL_law__2256 (by decide) rfl ?_
    refine x_aload_n hE 3 dL_law__2258 rfl rfl ?_
    refine x_arg hE hX hb hj hn 1 (by decide) (by decide) 1 5 dL_law__2259 dL_law__2260 dL_law__2262 dL_law__2263 dL_law__2264 rfl rfl ?_
    refine x_callV1 hE [.int (xs (j + 1))] (rest := []) (v := .int b1) (c1 := R1) (d1 := (wrd N 145 0 b1.toInt64)) rfl yokX12_force yvX12_force lkw_257 rfl cl_12 (hE.kd kO_12) (by decide) rfl rfl ⟨Nat.le_of_ble_eq_true rfl, Nat.le_of_ble_eq_true rfl⟩ ⟨by show (cells + 1) ≤ 601024; omega, by show (slots + 6 * 1) ≤ 7293034; omega⟩ rfl (Nat.le_of_ble_eq_true rfl) dL_law__2265 (mX12_force l hy) ?_
    refine x_istore hE (L' := [(6, .int b1), (5, .int 0), (0, .ref b), (1, .ref (σ 0)), (2, .ref (σ 127)), (3, .ref (σ 145)), (4, .int (nI j))]) dL_law__2268 (by decide) rfl ?_
    refine x_aload_n hE 4 dL_law__2270 rfl rfl ?_
    refine x_callV1 hE [] (rest := []) (v := .int (R1 127 0)) (c1 := R1) (d1 := (wrd N 145 0 b1.toInt64)) rfl yokX12_thrown yvX12_thrown lkw_157 rfl cl_12 (hE.kd kO_12) (by decide) rfl rfl ⟨Nat.le_of_ble_eq_true rfl, Nat.le_of_ble_eq_true rfl⟩ ⟨by show (cells + 1) ≤ 601024; omega, by show (slots + 6 * 1) ≤ 7293034; omega⟩ rfl (Nat.le_of_ble_eq_true rfl) dL_law__2271 (mX12_thrown l rfl) ?_
    refine x_iload hE 1 dL_law__2274 rfl ?_
    refine x_icmp_eq hE 2281 dL_law__2276 (by decide) (A := some ()) (B := none) (r := ()) (if_pos ht) (fun _ => ?_) (fun h => by cases h)
    refine x_iload hE 1 dL_law__2281 rfl ?_
    refine x_if_ne hE 2298 dL_law__2283 (by decide) (A := none) (B := some ()) (r := ()) (if_pos rfl) (fun h => by cases h) (fun _ => ?_)
    refine x_aload_n hE 5 dL_law__2286 rfl rfl ?_
    refine x_iconst hE 0 dL_law__2287 (by decide) ?_
    refine x_lald hE (hE.kd kA_145) dL_law__2288 (B := some ()) (r := ()) (by decide) (fun _ => ?_)
    refine x_iload hE 0 dL_law__2289 rfl ?_
    refine x_i2l hE dL_law__2291 ?_
    refine x_lcmp hE dL_law__2292 ?_
    refine x_if_eq hE 2298 dL_law__2293 (by decide) (A := some ()) (B := none) (r := ()) (if_pos cmp_out) (fun _ => ?_) (fun h => by cases h)
    refine x_goto hE 3277 dL_law__2298 (by decide) ?_
    refine x_pick [2, 3, 4, 5, 6] (L' := Lb σ b j) rfl ?_
    exact hK σ np (cells + 1) (slots + 6 * 1) R1 (wrd N 145 0 b1.toInt64) hE (gi_w hg) (by omega) (by omega)
theorem wL_c31 {p : Program} {l : Launch} {e : Env} {s : State} {m : MethodId} {args : Array Value} {below : List Frame} {meth : Method} {c : Code} {Y : Nat → ClassId} {D : va_G} {σ : Nat → Nat} {np b0 cells slots : Nat} {Q : State → Prop} {M : Mc} {N : Md} {b nX j : Nat} {xs : Nat → Int32} (hfl : l.stackTraces = false) (hE : EOK p s m args meth c cL_law_ 7 "SettlerColonyLaw" Y D σ np b0) (hX : va_X b nX xs s s.heap) (hb : b < b0) (hj : j + 6 ≤ nX) (hn : nX ≤ 3072) (hG : GI np M N) (hc : cells ≤ 600000) (hs : slots ≤ 7000000) (hK : LK p l e s m args below meth c Y D b0 cells slots Q b j) : Xw p l e room_1 s m args below meth c 7 Y D σ np b0 cells slots Q 2301 (Lb σ b j) [] M N := by
  unfold Lb
  obtain ⟨x1, hx, hq⟩ := st_M (e := eB) (y := fun R => fX12_means R (xs (j + 1)) (xs (j + 2))) hG (fun n t m R h _ => c_means h (xs (j + 1)) (xs (j + 2))) (hA_fX11_means ka_rf)
  rcases hq with ⟨k, b1, R1, rfl, he, hy, ht, hg⟩ | ⟨b1, C1, R1, rfl, hy, ht, hg⟩
  · refine x_aload_n hE 1 dL_law__2301 rfl rfl ?_
    refine x_arg hE hX hb hj hn 1 (by decide) (by decide) 0 4 dL_law__2302 dL_law__2303 dL_law__2305 dL_law__2306 dL_law__2307 rfl rfl ?_
    refine x_arg hE hX hb hj hn 2 (by decide) (by decide) 0 4 dL_law__2308 dL_law__2309 dL_law__2311 dL_law__2312 dL_law__2313 rfl rfl ?_
    refine x_aload_n hE 3 dL_law__2314 rfl rfl ?_
    refine x_callSW hE [.ref (σ 0), .int (xs (j + 1)), .int (xs (j + 2)), .ref (σ 145)] (rest := []) (v := some (.int (eB k))) (c1 := M) (d1 := N) rfl yowL_means ysL_means lkw_258 ⟨Nat.le_of_ble_eq_true rfl, Nat.le_of_ble_eq_true rfl⟩ ⟨by show cells + 2 ≤ 601024; omega, by show slots + 6 * 2 ≤ 7293034; omega⟩ rfl (Nat.le_of_ble_eq_true rfl) dL_law__2315 (mL_means l hfl hx) ?_
    refine x_istore hE (L' := [(5, .int (eB k)), (0, .ref b), (1, .ref (σ 0)), (2, .ref (σ 127)), (3, .ref (σ 145)), (4, .int (nI j))]) dL_law__2318 (by decide) rfl ?_
    refine x_aload_n hE 3 dL_law__2320 rfl rfl ?_
    refine x_arg hE hX hb hj hn 1 (by decide) (by decide) 1 5 dL_law__2321 dL_law__2322 dL_law__2324 dL_law__2325 dL_law__2326 rfl rfl ?_
    refine x_arg hE hX hb hj hn 2 (by decide) (by decide) 1 5 dL_law__2327 dL_law__2328 dL_law__2330 dL_law__2331 dL_law__2332 rfl rfl ?_
    refine x_callV1 hE [.int (xs (j + 1)), .int (xs (j + 2))] (rest := []) (v := .int b1) (c1 := R1) (d1 := N) rfl yokX12_means yvX12_means lkw_260 rfl cl_12 (hE.kd kO_12) (by decide) rfl rfl ⟨Nat.le_of_ble_eq_true rfl, Nat.le_of_ble_eq_true rfl⟩ ⟨by show (cells + 2) ≤ 601024; omega, by show (slots + 6 * 2) ≤ 7293034; omega⟩ rfl (Nat.le_of_ble_eq_true rfl) dL_law__2333 (mX12_means l hy) ?_
    refine x_istore hE (L' := [(6, .int b1), (5, .int (eB k)), (0, .ref b), (1, .ref (σ 0)), (2, .ref (σ 127)), (3, .ref (σ 145)), (4, .int (nI j))]) dL_law__2336 (by decide) rfl ?_
    refine x_aload_n hE 4 dL_law__2338 rfl rfl ?_
    refine x_callV1 hE [] (rest := []) (v := .int (R1 127 0)) (c1 := R1) (d1 := N) rfl yokX12_thrown yvX12_thrown lkw_157 rfl cl_12 (hE.kd kO_12) (by decide) rfl rfl ⟨Nat.le_of_ble_eq_true rfl, Nat.le_of_ble_eq_true rfl⟩ ⟨by show (cells + 2) ≤ 601024; omega, by show (slots + 6 * 2) ≤ 7293034; omega⟩ rfl (Nat.le_of_ble_eq_true rfl) dL_law__2339 (mX12_thrown l rfl) ?_
    refine x_iload hE 1 dL_law__2342 rfl ?_
    refine x_icmp_eq hE 2349 dL_law__2344 (by decide) (A := some ()) (B := none) (r := ()) (if_pos ht) (fun _ => ?_) (fun h => by cases h)
    refine x_iload hE 1 dL_law__2349 rfl ?_
    refine x_if_ne hE 2366 dL_law__2351 (by decide) (A := some ()) (B := none) (r := ()) (if_neg he) (fun _ => ?_) (fun h => by cases h)
    refine x_goto hE 3277 dL_law__2366 (by decide) ?_
    refine x_pick [2, 3, 4, 5, 6] (L' := Lb σ b j) rfl ?_
    exact hK σ np (cells + 2) (slots + 6 * 2) R1 N hE hg (by omega) (by omega)
  · refine x_aload_n hE 1 dL_law__2301 rfl rfl ?_
    refine x_arg hE hX hb hj hn 1 (by decide) (by decide) 0 4 dL_law__2302 dL_law__2303 dL_law__2305 dL_law__2306 dL_law__2307 rfl rfl ?_
    refine x_arg hE hX hb hj hn 2 (by decide) (by decide) 0 4 dL_law__2308 dL_law__2309 dL_law__2311 dL_law__2312 dL_law__2313 rfl rfl ?_
    refine x_aload_n hE 3 dL_law__2314 rfl rfl ?_
    refine x_callSW hE [.ref (σ 0), .int (xs (j + 1)), .int (xs (j + 2)), .ref (σ 145)] (rest := []) (v := some (.int 0)) (c1 := C1) (d1 := (wrd N 145 0 b1.toInt64)) rfl yowL_means ysL_means lkw_258 ⟨Nat.le_of_ble_eq_true rfl, Nat.le_of_ble_eq_true rfl⟩ ⟨by show cells + 2 ≤ 601024; omega, by show slots + 6 * 2 ≤ 7293034; omega⟩ rfl (Nat.le_of_ble_eq_true rfl) dL_law__2315 (mL_means l hfl hx) ?_
    refine x_istore hE (L' := [(5, .int 0), (0, .ref b), (1, .ref (σ 0)), (2, .ref (σ 127)), (3, .ref (σ 145)), (4, .int (nI j))]) dL_law__2318 (by decide) rfl ?_
    refine x_aload_n hE 3 dL_law__2320 rfl rfl ?_
    refine x_arg hE hX hb hj hn 1 (by decide) (by decide) 1 5 dL_law__2321 dL_law__2322 dL_law__2324 dL_law__2325 dL_law__2326 rfl rfl ?_
    refine x_arg hE hX hb hj hn 2 (by decide) (by decide) 1 5 dL_law__2327 dL_law__2328 dL_law__2330 dL_law__2331 dL_law__2332 rfl rfl ?_
    refine x_callV1 hE [.int (xs (j + 1)), .int (xs (j + 2))] (rest := []) (v := .int b1) (c1 := R1) (d1 := (wrd N 145 0 b1.toInt64)) rfl yokX12_means yvX12_means lkw_260 rfl cl_12 (hE.kd kO_12) (by decide) rfl rfl ⟨Nat.le_of_ble_eq_true rfl, Nat.le_of_ble_eq_true rfl⟩ ⟨by show (cells + 2) ≤ 601024; omega, by show (slots + 6 * 2) ≤ 7293034; omega⟩ rfl (Nat.le_of_ble_eq_true rfl) dL_law__2333 (mX12_means l hy) ?_
    refine x_istore hE (L' := [(6, .int b1), (5, .int 0), (0, .ref b), (1, .ref (σ 0)), (2, .ref (σ 127)), (3, .ref (σ 145)), (4, .int (nI j))]) dL_law__2336 (by decide) rfl ?_
    refine x_aload_n hE 4 dL_law__2338 rfl rfl ?_
    refine x_callV1 hE [] (rest := []) (v := .int (R1 127 0)) (c1 := R1) (d1 := (wrd N 145 0 b1.toInt64)) rfl yokX12_thrown yvX12_thrown lkw_157 rfl cl_12 (hE.kd kO_12) (by decide) rfl rfl ⟨Nat.le_of_ble_eq_true rfl, Nat.le_of_ble_eq_true rfl⟩ ⟨by show (cells + 2) ≤ 601024; omega, by show (slots + 6 * 2) ≤ 7293034; omega⟩ rfl (Nat.le_of_ble_eq_true rfl) dL_law__2339 (mX12_thrown l rfl) ?_
    refine x_iload hE 1 dL_law__2342 rfl ?_
    refine x_icmp_eq hE 2349 dL_law__2344 (by decide) (A := some ()) (B := none) (r := ()) (if_pos ht) (fun _ => ?_) (fun h => by cases h)
    refine x_iload hE 1 dL_law__2349 rfl ?_
    refine x_if_ne hE 2366 dL_law__2351 (by decide) (A := none) (B := some ()) (r := ()) (if_pos rfl) (fun h => by cases h) (fun _ => ?_)
    refine x_aload_n hE 5 dL_law__2354 rfl rfl ?_
    refine x_iconst hE 0 dL_law__2355 (by decide) ?_
    refine x_lald hE (hE.kd kA_145) dL_law__2356 (B := some ()) (r := ()) (by decide) (fun _ => ?_)
    refine x_iload hE 0 dL_law__2357 rfl ?_
    refine x_i2l hE dL_law__2359 ?_
    refine x_lcmp hE dL_law__2360 ?_
    refine x_if_eq hE 2366 dL_law__2361 (by decide) (A := some ()) (B := none) (r := ()) (if_pos cmp_out) (fun _ => ?_) (fun h => by cases h)
    refine x_goto hE 3277 dL_law__2366 (by decide) ?_
    refine x_pick [2, 3, 4, 5, 6] (L' := Lb σ b j) rfl ?_
    exact hK σ np (cells + 2) (slots + 6 * 2) R1 (wrd N 145 0 b1.toInt64) hE (gi_w hg) (by omega) (by omega)
theorem wL_c32 {p : Program} {l : Launch} {e : Env} {s : State} {m : MethodId} {args : Array Value} {below : List Frame} {meth : Method} {c : Code} {Y : Nat → ClassId} {D : va_G} {σ : Nat → Nat} {np b0 cells slots : Nat} {Q : State → Prop} {M : Mc} {N : Md} {b nX j : Nat} {xs : Nat → Int32} (hfl : l.stackTraces = false) (hE : EOK p s m args meth c cL_law_ 7 "SettlerColonyLaw" Y D σ np b0) (hX : va_X b nX xs s s.heap) (hb : b < b0) (hj : j + 6 ≤ nX) (hn : nX ≤ 3072) (hG : GI np M N) (hc : cells ≤ 600000) (hs : slots ≤ 7000000) (hK : LK p l e s m args below meth c Y D b0 cells slots Q b j) : Xw p l e room_1 s m args below meth c 7 Y D σ np b0 cells slots Q 2369 (Lb σ b j) [] M N := by
  unfold Lb
  obtain ⟨x1, hx, hq⟩ := st_R (e := eA) (y := fun R => fX12_why R (xs (j + 1))) hG (fun n t m h => c_why h (xs (j + 1)))
  rcases hq with ⟨k, b1, R1, rfl, he, hy, ht, hg⟩ | ⟨b1, R1, rfl, hy, ht, hg⟩
  · refine x_aload_n hE 1 dL_law__2369 rfl rfl ?_
    refine x_arg hE hX hb hj hn 1 (by decide) (by decide) 0 4 dL_law__2370 dL_law__2371 dL_law__2373 dL_law__2374 dL_law__2375 rfl rfl ?_
    refine x_aload_n hE 3 dL_law__2376 rfl rfl ?_
    refine x_callSW hE [.ref (σ 0), .int (xs (j + 1)), .ref (σ 145)] (rest := []) (v := some (.int (eA k))) (c1 := M) (d1 := N) rfl yowL_why ysL_why lkw_261 ⟨Nat.le_of_ble_eq_true rfl, Nat.le_of_ble_eq_true rfl⟩ ⟨by show cells + 1 ≤ 601024; omega, by show slots + 6 * 1 ≤ 7293034; omega⟩ rfl (Nat.le_of_ble_eq_true rfl) dL_law__2377 (mL_why l hfl hx) ?_
    refine x_istore hE (L' := [(5, .int (eA k)), (0, .ref b), (1, .ref (σ 0)), (2, .ref (σ 127)), (3, .ref (σ 145)), (4, .int (nI j))]) dL_law__2380 (by decide) rfl ?_
    refine x_aload_n hE 3 dL_law__2382 rfl rfl ?_
    refine x_arg hE hX hb hj hn 1 (by decide) (by decide) 1 5 dL_law__2383 dL_law__2384 dL_law__2386 dL_law__2387 dL_law__2388 rfl rfl ?_
    refine x_callV1 hE [.int (xs (j + 1))] (rest := []) (v := .int b1) (c1 := R1) (d1 := N) rfl yokX12_why yvX12_why lkw_263 rfl cl_12 (hE.kd kO_12) (by decide) rfl rfl ⟨Nat.le_of_ble_eq_true rfl, Nat.le_of_ble_eq_true rfl⟩ ⟨by show (cells + 1) ≤ 601024; omega, by show (slots + 6 * 1) ≤ 7293034; omega⟩ rfl (Nat.le_of_ble_eq_true rfl) dL_law__2389 (mX12_why l hy) ?_
    refine x_istore hE (L' := [(6, .int b1), (5, .int (eA k)), (0, .ref b), (1, .ref (σ 0)), (2, .ref (σ 127)), (3, .ref (σ 145)), (4, .int (nI j))]) dL_law__2392 (by decide) rfl ?_
    refine x_aload_n hE 4 dL_law__2394 rfl rfl ?_
    refine x_callV1 hE [] (rest := []) (v := .int (R1 127 0)) (c1 := R1) (d1 := N) rfl yokX12_thrown yvX12_thrown lkw_157 rfl cl_12 (hE.kd kO_12) (by decide) rfl rfl ⟨Nat.le_of_ble_eq_true rfl, Nat.le_of_ble_eq_true rfl⟩ ⟨by show (cells + 1) ≤ 601024; omega, by show (slots + 6 * 1) ≤ 7293034; omega⟩ rfl (Nat.le_of_ble_eq_true rfl) dL_law__2395 (mX12_thrown l rfl) ?_
    refine x_iload hE 1 dL_law__2398 rfl ?_
    refine x_icmp_eq hE 2405 dL_law__2400 (by decide) (A := some ()) (B := none) (r := ()) (if_pos ht) (fun _ => ?_) (fun h => by cases h)
    refine x_iload hE 1 dL_law__2405 rfl ?_
    refine x_if_ne hE 2422 dL_law__2407 (by decide) (A := some ()) (B := none) (r := ()) (if_neg he) (fun _ => ?_) (fun h => by cases h)
    refine x_goto hE 3277 dL_law__2422 (by decide) ?_
    refine x_pick [2, 3, 4, 5, 6] (L' := Lb σ b j) rfl ?_
    exact hK σ np (cells + 1) (slots + 6 * 1) R1 N hE hg (by omega) (by omega)
  · refine x_aload_n hE 1 dL_law__2369 rfl rfl ?_
    refine x_arg hE hX hb hj hn 1 (by decide) (by decide) 0 4 dL_law__2370 dL_law__2371 dL_law__2373 dL_law__2374 dL_law__2375 rfl rfl ?_
    refine x_aload_n hE 3 dL_law__2376 rfl rfl ?_
    refine x_callSW hE [.ref (σ 0), .int (xs (j + 1)), .ref (σ 145)] (rest := []) (v := some (.int 0)) (c1 := M) (d1 := (wrd N 145 0 b1.toInt64)) rfl yowL_why ysL_why lkw_261 ⟨Nat.le_of_ble_eq_true rfl, Nat.le_of_ble_eq_true rfl⟩ ⟨by show cells + 1 ≤ 601024; omega, by show slots + 6 * 1 ≤ 7293034; omega⟩ rfl (Nat.le_of_ble_eq_true rfl) dL_law__2377 (mL_why l hfl hx) ?_
    refine x_istore hE (L' := [(5, .int 0), (0, .ref b), (1, .ref (σ 0)), (2, .ref (σ 127)), (3, .ref (σ 145)), (4, .int (nI j))]) dL_law__2380 (by decide) rfl ?_
    refine x_aload_n hE 3 dL_law__2382 rfl rfl ?_
    refine x_arg hE hX hb hj hn 1 (by decide) (by decide) 1 5 dL_law__2383 dL_law__2384 dL_law__2386 dL_law__2387 dL_law__2388 rfl rfl ?_
    refine x_callV1 hE [.int (xs (j + 1))] (rest := []) (v := .int b1) (c1 := R1) (d1 := (wrd N 145 0 b1.toInt64)) rfl yokX12_why yvX12_why lkw_263 rfl cl_12 (hE.kd kO_12) (by decide) rfl rfl ⟨Nat.le_of_ble_eq_true rfl, Nat.le_of_ble_eq_true rfl⟩ ⟨by show (cells + 1) ≤ 601024; omega, by show (slots + 6 * 1) ≤ 7293034; omega⟩ rfl (Nat.le_of_ble_eq_true rfl) dL_law__2389 (mX12_why l hy) ?_
    refine x_istore hE (L' := [(6, .int b1), (5, .int 0), (0, .ref b), (1, .ref (σ 0)), (2, .ref (σ 127)), (3, .ref (σ 145)), (4, .int (nI j))]) dL_law__2392 (by decide) rfl ?_
    refine x_aload_n hE 4 dL_law__2394 rfl rfl ?_
    refine x_callV1 hE [] (rest := []) (v := .int (R1 127 0)) (c1 := R1) (d1 := (wrd N 145 0 b1.toInt64)) rfl yokX12_thrown yvX12_thrown lkw_157 rfl cl_12 (hE.kd kO_12) (by decide) rfl rfl ⟨Nat.le_of_ble_eq_true rfl, Nat.le_of_ble_eq_true rfl⟩ ⟨by show (cells + 1) ≤ 601024; omega, by show (slots + 6 * 1) ≤ 7293034; omega⟩ rfl (Nat.le_of_ble_eq_true rfl) dL_law__2395 (mX12_thrown l rfl) ?_
    refine x_iload hE 1 dL_law__2398 rfl ?_
    refine x_icmp_eq hE 2405 dL_law__2400 (by decide) (A := some ()) (B := none) (r := ()) (if_pos ht) (fun _ => ?_) (fun h => by cases h)
    refine x_iload hE 1 dL_law__2405 rfl ?_
    refine x_if_ne hE 2422 dL_law__2407 (by decide) (A := none) (B := some ()) (r := ()) (if_pos rfl) (fun h => by cases h) (fun _ => ?_)
    refine x_aload_n hE 5 dL_law__2410 rfl rfl ?_
    refine x_iconst hE 0 dL_law__2411 (by decide) ?_
    refine x_lald hE (hE.kd kA_145) dL_law__2412 (B := some ()) (r := ()) (by decide) (fun _ => ?_)
    refine x_iload hE 0 dL_law__2413 rfl ?_
    refine x_i2l hE dL_law__2415 ?_
    refine x_lcmp hE dL_law__2416 ?_
    refine x_if_eq hE 2422 dL_law__2417 (by decide) (A := some ()) (B := none) (r := ()) (if_pos cmp_out) (fun _ => ?_) (fun h => by cases h)
    refine x_goto hE 3277 dL_law__2422 (by decide) ?_
    refine x_pick [2, 3, 4, 5, 6] (L' := Lb σ b j) rfl ?_
    exact hK σ np (cells + 1) (slots + 6 * 1) R1 (wrd N 145 0 b1.toInt64) hE (gi_w hg) (by omega) (by omega)
theorem wL_c33 {p : Program} {l : Launch} {e : Env} {s : State} {m : MethodId} {args : Array Value} {below : List Frame} {meth : Method} {c : Code} {Y : Nat → ClassId} {D : va_G} {σ : Nat → Nat} {np b0 cells slots : Nat} {Q : State → Prop} {M : Mc} {N : Md} {b nX j : Nat} {xs : Nat → Int32} (hfl : l.stackTraces = false) (hE : EOK p s m args meth c cL_law_ 7 "SettlerColonyLaw" Y D σ np b0) (hX : va_X b nX xs s s.heap) (hb : b < b0) (hj : j + 6 ≤ nX) (hn : nX ≤ 3072) (hG : GI np M N) (hc : cells ≤ 600000) (hs : slots ≤ 7000000) (hK : LK p l e s m args below meth c Y D b0 cells slots Q b j) : Xw p l e room_1 s m args below meth c 7 Y D σ np b0 cells slots Q 2425 (Lb σ b j) [] M N := by
  unfold Lb
  obtain ⟨b1, C1, R1, hx, hy, ht, hg⟩ := st_V (y := fun R => fX12_quoted R ) hG (fun n t m R h => c_quoted h ) (hA_fX11_quoted ka_rf)
  refine x_aload_n hE 1 dL_law__2425 rfl rfl ?_
  refine x_callV1 hE [] (rest := []) (v := .int b1) (c1 := C1) (d1 := N) rfl yokX11_quoted yvX11_quoted lkw_264 rfl cl_11 (hE.kd kO_11) (by decide) rfl rfl ⟨Nat.le_of_ble_eq_true rfl, Nat.le_of_ble_eq_true rfl⟩ ⟨by show cells ≤ 601024; omega, by show slots ≤ 7293034; omega⟩ rfl (Nat.le_of_ble_eq_true rfl) dL_law__2426 (mX11_quoted l hx) ?_
  refine x_aload_n hE 2 dL_law__2429 rfl rfl ?_
  refine x_callV1 hE [] (rest := [.int b1]) (v := .int b1) (c1 := R1) (d1 := N) rfl yokX12_quoted yvX12_quoted lkw_267 rfl cl_12 (hE.kd kO_12) (by decide) rfl rfl ⟨Nat.le_of_ble_eq_true rfl, Nat.le_of_ble_eq_true rfl⟩ ⟨by show cells ≤ 601024; omega, by show slots ≤ 7293034; omega⟩ rfl (Nat.le_of_ble_eq_true rfl) dL_law__2430 (mX12_quoted l hy) ?_
  refine x_icmp_eq hE 3277 dL_law__2433 (by decide) (A := some ()) (B := none) (r := ()) (if_pos rfl) (fun _ => ?_) (fun h => by cases h)
  refine x_pick [0, 1, 2, 3, 4] (L' := Lb σ b j) rfl ?_
  exact hK σ np cells slots R1 N hE hg (by omega) (by omega)
theorem wL_c34 {p : Program} {l : Launch} {e : Env} {s : State} {m : MethodId} {args : Array Value} {below : List Frame} {meth : Method} {c : Code} {Y : Nat → ClassId} {D : va_G} {σ : Nat → Nat} {np b0 cells slots : Nat} {Q : State → Prop} {M : Mc} {N : Md} {b nX j : Nat} {xs : Nat → Int32} (hfl : l.stackTraces = false) (hE : EOK p s m args meth c cL_law_ 7 "SettlerColonyLaw" Y D σ np b0) (hX : va_X b nX xs s s.heap) (hb : b < b0) (hj : j + 6 ≤ nX) (hn : nX ≤ 3072) (hG : GI np M N) (hc : cells ≤ 600000) (hs : slots ≤ 7000000) (hK : LK p l e s m args below meth c Y D b0 cells slots Q b j) : Xw p l e room_1 s m args below meth c 7 Y D σ np b0 cells slots Q 2438 (Lb σ b j) [] M N := by
  unfold Lb
  obtain ⟨b1, C1, R1, hx, hy, ht, hg⟩ := st_V (y := fun R => fX12_ship R (xs (j + 1)) (xs (j + 2)) (xs (j + 3)) (xs (j + 4))) hG (fun n t m R h => c_ship h (xs (j + 1)) (xs (j + 2)) (xs (j + 3)) (xs (j + 4))) (hA_fX11_ship ka_rf)
  refine x_aload_n hE 1 dL_law__2438 rfl rfl ?_
  refine x_arg hE hX hb hj hn 1 (by decide) (by decide) 0 4 dL_law__2439 dL_law__2440 dL_law__2442 dL_law__2443 dL_law__2444 rfl rfl ?_
  refine x_arg hE hX hb hj hn 2 (by decide) (by decide) 0 4 dL_law__2445 dL_law__2446 dL_law__2448 dL_law__2449 dL_law__2450 rfl rfl ?_
  refine x_arg hE hX hb hj hn 3 (by decide) (by decide) 0 4 dL_law__2451 dL_law__2452 dL_law__2454 dL_law__2455 dL_law__2456 rfl rfl ?_
  refine x_arg hE hX hb hj hn 4 (by decide) (by decide) 0 4 dL_law__2457 dL_law__2458 dL_law__2460 dL_law__2461 dL_law__2462 rfl rfl ?_
  refine x_callV1 hE [.int (xs (j + 1)), .int (xs (j + 2)), .int (xs (j + 3)), .int (xs (j + 4))] (rest := []) (v := .int b1) (c1 := C1) (d1 := N) rfl yokX11_ship yvX11_ship lkw_268 rfl cl_11 (hE.kd kO_11) (by decide) rfl rfl ⟨Nat.le_of_ble_eq_true rfl, Nat.le_of_ble_eq_true rfl⟩ ⟨by show cells ≤ 601024; omega, by show slots ≤ 7293034; omega⟩ rfl (Nat.le_of_ble_eq_true rfl) dL_law__2463 (mX11_ship l hx) ?_
  refine x_aload_n hE 2 dL_law__2466 rfl rfl ?_
  refine x_arg hE hX hb hj hn 1 (by decide) (by decide) 0 4 dL_law__2467 dL_law__2468 dL_law__2470 dL_law__2471 dL_law__2472 rfl rfl ?_
  refine x_arg hE hX hb hj hn 2 (by decide) (by decide) 0 4 dL_law__2473 dL_law__2474 dL_law__2476 dL_law__2477 dL_law__2478 rfl rfl ?_
  refine x_arg hE hX hb hj hn 3 (by decide) (by decide) 0 4 dL_law__2479 dL_law__2480 dL_law__2482 dL_law__2483 dL_law__2484 rfl rfl ?_
  refine x_arg hE hX hb hj hn 4 (by decide) (by decide) 0 4 dL_law__2485 dL_law__2486 dL_law__2488 dL_law__2489 dL_law__2490 rfl rfl ?_
  refine x_callV1 hE [.int (xs (j + 1)), .int (xs (j + 2)), .int (xs (j + 3)), .int (xs (j + 4))] (rest := [.int b1]) (v := .int b1) (c1 := R1) (d1 := N) rfl yokX12_ship yvX12_ship lkw_271 rfl cl_12 (hE.kd kO_12) (by decide) rfl rfl ⟨Nat.le_of_ble_eq_true rfl, Nat.le_of_ble_eq_true rfl⟩ ⟨by show cells ≤ 601024; omega, by show slots ≤ 7293034; omega⟩ rfl (Nat.le_of_ble_eq_true rfl) dL_law__2491 (mX12_ship l hy) ?_
  refine x_icmp_eq hE 3277 dL_law__2494 (by decide) (A := some ()) (B := none) (r := ()) (if_pos rfl) (fun _ => ?_) (fun h => by cases h)
  refine x_pick [0, 1, 2, 3, 4] (L' := Lb σ b j) rfl ?_
  exact hK σ np cells slots R1 N hE hg (by omega) (by omega)
theorem wL_c35 {p : Program} {l : Launch} {e : Env} {s : State} {m : MethodId} {args : Array Value} {below : List Frame} {meth : Method} {c : Code} {Y : Nat → ClassId} {D : va_G} {σ : Nat → Nat} {np b0 cells slots : Nat} {Q : State → Prop} {M : Mc} {N : Md} {b nX j : Nat} {xs : Nat → Int32} (hfl : l.stackTraces = false) (hE : EOK p s m args meth c cL_law_ 7 "SettlerColonyLaw" Y D σ np b0) (hX : va_X b nX xs s s.heap) (hb : b < b0) (hj : j + 6 ≤ nX) (hn : nX ≤ 3072) (hG : GI np M N) (hc : cells ≤ 600000) (hs : slots ≤ 7000000) (hK : LK p l e s m args below meth c Y D b0 cells slots Q b j) : Xw p l e room_1 s m args below meth c 7 Y D σ np b0 cells slots Q 2499 (Lb σ b j) [] M N := by
  unfold Lb
  obtain ⟨b1, R1, hx, hy, ht, hg⟩ := st_W (y := fun R => fX12_passages R ) hG (fun n t m h => c_passages h )
  refine x_aload_n hE 1 dL_law__2499 rfl rfl ?_
  refine x_callV1 hE [] (rest := []) (v := .int b1) (c1 := M) (d1 := N) rfl yokX11_passages yvX11_passages lkw_272 rfl cl_11 (hE.kd kO_11) (by decide) rfl rfl ⟨Nat.le_of_ble_eq_true rfl, Nat.le_of_ble_eq_true rfl⟩ ⟨by show cells ≤ 601024; omega, by show slots ≤ 7293034; omega⟩ rfl (Nat.le_of_ble_eq_true rfl) dL_law__2500 (mX11_passages l hx) ?_
  refine x_aload_n hE 2 dL_law__2503 rfl rfl ?_
  refine x_callV1 hE [] (rest := [.int b1]) (v := .int b1) (c1 := R1) (d1 := N) rfl yokX12_passages yvX12_passages lkw_275 rfl cl_12 (hE.kd kO_12) (by decide) rfl rfl ⟨Nat.le_of_ble_eq_true rfl, Nat.le_of_ble_eq_true rfl⟩ ⟨by show cells ≤ 601024; omega, by show slots ≤ 7293034; omega⟩ rfl (Nat.le_of_ble_eq_true rfl) dL_law__2504 (mX12_passages l hy) ?_
  refine x_icmp_eq hE 3277 dL_law__2507 (by decide) (A := some ()) (B := none) (r := ()) (if_pos rfl) (fun _ => ?_) (fun h => by cases h)
  refine x_pick [0, 1, 2, 3, 4] (L' := Lb σ b j) rfl ?_
  exact hK σ np cells slots R1 N hE hg (by omega) (by omega)
