theorem wL_c45 {p : Program} {l : Launch} {e : Env} {s : State} {m : MethodId} {args : Array Value} {below : List Frame} {meth : Method} {c : Code} {Y : Nat → ClassId} {D : va_G} {σ : Nat → Nat} {np b0 cells slots : Nat} {Q : State → Prop} {M : Mc} {N : Md} {b nX j : Nat} {xs : Nat → Int32} (hfl : l.stackTraces = false) (hE : EOK p s m args meth c cL_law_ 7 "SettlerColonyLaw" Y D σ np b0) (hX : va_X b nX xs s s.heap) (hb : b < b0) (hj : j + 6 ≤ nX) (hn : nX ≤ 3072) (hG : GI np M N) (hc : cells ≤ 600000) (hs : slots ≤ 7000000) (hK : LK p l e s m args below meth c Y D b0 cells slots Q b j) : Xw p l e room_1 s m args below meth c 7 Y D σ np b0 cells slots Q 3096 (Lb σ b j) [] M N := by
  unfold Lb
  obtain ⟨x1, hx, hq⟩ := st_M (e := eA) (y := fun R => fX12_planned R (xs (j + 1)) (xs (j + 2))) hG (fun n t m R h hu => c_planned h hu (xs (j + 1)) (xs (j + 2))) (hA_fX11_planned ka_rf)
  rcases hq with ⟨k, b1, R1, rfl, he, hy, ht, hg⟩ | ⟨b1, C1, R1, rfl, hy, ht, hg⟩
  · refine x_aload_n hE 1 dL_law__3096 rfl rfl ?_
    refine x_arg hE hX hb hj hn 1 (by decide) (by decide) 0 4 dL_law__3097 dL_law__3098 dL_law__3100 dL_law__3101 dL_law__3102 rfl rfl ?_
    refine x_arg hE hX hb hj hn 2 (by decide) (by decide) 0 4 dL_law__3103 dL_law__3104 dL_law__3106 dL_law__3107 dL_law__3108 rfl rfl ?_
    refine x_aload_n hE 3 dL_law__3109 rfl rfl ?_
    refine x_callSW hE [.ref (σ 0), .int (xs (j + 1)), .int (xs (j + 2)), .ref (σ 145)] (rest := []) (v := some (.int (eA k))) (c1 := M) (d1 := N) rfl yowL_planned ysL_planned lkw_306 ⟨Nat.le_of_ble_eq_true rfl, Nat.le_of_ble_eq_true rfl⟩ ⟨by show cells + 2 ≤ 601024; omega, by show slots + 6 * 2 ≤ 7293034; omega⟩ rfl (Nat.le_of_ble_eq_true rfl) dL_law__3110 (mL_planned l hfl hx) ?_
    refine x_istore hE (L' := [(5, .int (eA k)), (0, .ref b), (1, .ref (σ 0)), (2, .ref (σ 127)), (3, .ref (σ 145)), (4, .int (nI j))]) dL_law__3113 (by decide) rfl ?_
    refine x_aload_n hE 3 dL_law__3115 rfl rfl ?_
    refine x_arg hE hX hb hj hn 1 (by decide) (by decide) 1 5 dL_law__3116 dL_law__3117 dL_law__3119 dL_law__3120 dL_law__3121 rfl rfl ?_
    refine x_arg hE hX hb hj hn 2 (by decide) (by decide) 1 5 dL_law__3122 dL_law__3123 dL_law__3125 dL_law__3126 dL_law__3127 rfl rfl ?_
    refine x_callV1 hE [.int (xs (j + 1)), .int (xs (j + 2))] (rest := []) (v := .int b1) (c1 := R1) (d1 := N) rfl yokX12_planned yvX12_planned lkw_308 rfl cl_12 (hE.kd kO_12) (by decide) rfl rfl ⟨Nat.le_of_ble_eq_true rfl, Nat.le_of_ble_eq_true rfl⟩ ⟨by show (cells + 2) ≤ 601024; omega, by show (slots + 6 * 2) ≤ 7293034; omega⟩ rfl (Nat.le_of_ble_eq_true rfl) dL_law__3128 (mX12_planned l hy) ?_
    refine x_istore hE (L' := [(6, .int b1), (5, .int (eA k)), (0, .ref b), (1, .ref (σ 0)), (2, .ref (σ 127)), (3, .ref (σ 145)), (4, .int (nI j))]) dL_law__3131 (by decide) rfl ?_
    refine x_aload_n hE 4 dL_law__3133 rfl rfl ?_
    refine x_callV1 hE [] (rest := []) (v := .int (R1 127 0)) (c1 := R1) (d1 := N) rfl yokX12_thrown yvX12_thrown lkw_157 rfl cl_12 (hE.kd kO_12) (by decide) rfl rfl ⟨Nat.le_of_ble_eq_true rfl, Nat.le_of_ble_eq_true rfl⟩ ⟨by show (cells + 2) ≤ 601024; omega, by show (slots + 6 * 2) ≤ 7293034; omega⟩ rfl (Nat.le_of_ble_eq_true rfl) dL_law__3134 (mX12_thrown l rfl) ?_
    refine x_iload hE 1 dL_law__3137 rfl ?_
    refine x_icmp_eq hE 3144 dL_law__3139 (by decide) (A := some ()) (B := none) (r := ()) (if_pos ht) (fun _ => ?_) (fun h => by cases h)
    refine x_iload hE 1 dL_law__3144 rfl ?_
    refine x_if_ne hE 3161 dL_law__3146 (by decide) (A := some ()) (B := none) (r := ()) (if_neg he) (fun _ => ?_) (fun h => by cases h)
    refine x_goto hE 3277 dL_law__3161 (by decide) ?_
    refine x_pick [2, 3, 4, 5, 6] (L' := Lb σ b j) rfl ?_
    exact hK σ np (cells + 2) (slots + 6 * 2) R1 N hE hg (by omega) (by omega)
  · refine x_aload_n hE 1 dL_law__3096 rfl rfl ?_
    refine x_arg hE hX hb hj hn 1 (by decide) (by decide) 0 4 dL_law__3097 dL_law__3098 dL_law__3100 dL_law__3101 dL_law__3102 rfl rfl ?_
    refine x_arg hE hX hb hj hn 2 (by decide) (by decide) 0 4 dL_law__3103 dL_law__3104 dL_law__3106 dL_law__3107 dL_law__3108 rfl rfl ?_
    refine x_aload_n hE 3 dL_law__3109 rfl rfl ?_
    refine x_callSW hE [.ref (σ 0), .int (xs (j + 1)), .int (xs (j + 2)), .ref (σ 145)] (rest := []) (v := some (.int 0)) (c1 := C1) (d1 := (wrd N 145 0 b1.toInt64)) rfl yowL_planned ysL_planned lkw_306 ⟨Nat.le_of_ble_eq_true rfl, Nat.le_of_ble_eq_true rfl⟩ ⟨by show cells + 2 ≤ 601024; omega, by show slots + 6 * 2 ≤ 7293034; omega⟩ rfl (Nat.le_of_ble_eq_true rfl) dL_law__3110 (mL_planned l hfl hx) ?_
    refine x_istore hE (L' := [(5, .int 0), (0, .ref b), (1, .ref (σ 0)), (2, .ref (σ 127)), (3, .ref (σ 145)), (4, .int (nI j))]) dL_law__3113 (by decide) rfl ?_
    refine x_aload_n hE 3 dL_law__3115 rfl rfl ?_
    refine x_arg hE hX hb hj hn 1 (by decide) (by decide) 1 5 dL_law__3116 dL_law__3117 dL_law__3119 dL_law__3120 dL_law__3121 rfl rfl ?_
    refine x_arg hE hX hb hj hn 2 (by decide) (by decide) 1 5 dL_law__3122 dL_law__3123 dL_law__3125 dL_law__3126 dL_law__3127 rfl rfl ?_
    refine x_callV1 hE [.int (xs (j + 1)), .int (xs (j + 2))] (rest := []) (v := .int b1) (c1 := R1) (d1 := (wrd N 145 0 b1.toInt64)) rfl yokX12_planned yvX12_planned lkw_308 rfl cl_12 (hE.kd kO_12) (by decide) rfl rfl ⟨Nat.le_of_ble_eq_true rfl, Nat.le_of_ble_eq_true rfl⟩ ⟨by show (cells + 2) ≤ 601024; omega, by show (slots + 6 * 2) ≤ 7293034; omega⟩ rfl (Nat.le_of_ble_eq_true rfl) dL_law__3128 (mX12_planned l hy) ?_
    refine x_istore hE (L' := [(6, .int b1), (5, .int 0), (0, .ref b), (1, .ref (σ 0)), (2, .ref (σ 127)), (3, .ref (σ 145)), (4, .int (nI j))]) dL_law__3131 (by decide) rfl ?_
    refine x_aload_n hE 4 dL_law__3133 rfl rfl ?_
    refine x_callV1 hE [] (rest := []) (v := .int (R1 127 0)) (c1 := R1) (d1 := (wrd N 145 0 b1.toInt64)) rfl yokX12_thrown yvX12_thrown lkw_157 rfl cl_12 (hE.kd kO_12) (by decide) rfl rfl ⟨Nat.le_of_ble_eq_true rfl, Nat.le_of_ble_eq_true rfl⟩ ⟨by show (cells + 2) ≤ 601024; omega, by show (slots + 6 * 2) ≤ 7293034; omega⟩ rfl (Nat.le_of_ble_eq_true rfl) dL_law__3134 (mX12_thrown l rfl) ?_
    refine x_iload hE 1 dL_law__3137 rfl ?_
    refine x_icmp_eq hE 3144 dL_law__3139 (by decide) (A := some ()) (B := none) (r := ()) (if_pos ht) (fun _ => ?_) (fun h => by cases h)
    refine x_iload hE 1 dL_law__3144 rfl ?_
    refine x_if_ne hE 3161 dL_law__3146 (by decide) (A := none) (B := some ()) (r := ()) (if_pos rfl) (fun h => by cases h) (fun _ => ?_)
    refine x_aload_n hE 5 dL_law__3149 rfl rfl ?_
    refine x_iconst hE 0 dL_law__3150 (by decide) ?_
    refine x_lald hE (hE.kd kA_145) dL_law__3151 (B := some ()) (r := ()) (by decide) (fun _ => ?_)
    refine x_iload hE 0 dL_law__3152 rfl ?_
    refine x_i2l hE dL_law__3154 ?_
    refine x_lcmp hE dL_law__3155 ?_
    refine x_if_eq hE 3161 dL_law__3156 (by decide) (A := some ()) (B := none) (r := ()) (if_pos cmp_out) (fun _ => ?_) (fun h => by cases h)
    refine x_goto hE 3277 dL_law__3161 (by decide) ?_
    refine x_pick [2, 3, 4, 5, 6] (L' := Lb σ b j) rfl ?_
    exact hK σ np (cells + 2) (slots + 6 * 2) R1 (wrd N 145 0 b1.toInt64) hE (gi_w hg) (by omega) (by omega)
theorem wL_c46 {p : Program} {l : Launch} {e : Env} {s : State} {m : MethodId} {args : Array Value} {below : List Frame} {meth : Method} {c : Code} {Y : Nat → ClassId} {D : va_G} {σ : Nat → Nat} {np b0 cells slots : Nat} {Q : State → Prop} {M : Mc} {N : Md} {b nX j : Nat} {xs : Nat → Int32} (hfl : l.stackTraces = false) (hE : EOK p s m args meth c cL_law_ 7 "SettlerColonyLaw" Y D σ np b0) (hX : va_X b nX xs s s.heap) (hb : b < b0) (hj : j + 6 ≤ nX) (hn : nX ≤ 3072) (hG : GI np M N) (hc : cells ≤ 600000) (hs : slots ≤ 7000000) (hK : LK p l e s m args below meth c Y D b0 cells slots Q b j) : Xw p l e room_1 s m args below meth c 7 Y D σ np b0 cells slots Q 3164 (Lb σ b j) [] M N := by
  unfold Lb
  obtain ⟨b1, C1, N1, R1, N2, hx, hy, ht, hg⟩ := st_I hG
  refine x_aload_n hE 1 dL_law__3164 rfl rfl ?_
  refine x_callV1 hE [] (rest := []) (v := .int b1) (c1 := C1) (d1 := N1) rfl yokX11_image yvX11_image lkw_309 rfl cl_11 (hE.kd kO_11) (by decide) rfl rfl ⟨Nat.le_of_ble_eq_true rfl, Nat.le_of_ble_eq_true rfl⟩ ⟨by show cells ≤ 601024; omega, by show slots ≤ 7293034; omega⟩ rfl (Nat.le_of_ble_eq_true rfl) dL_law__3165 (mX11_image l hx) ?_
  refine x_aload_n hE 2 dL_law__3168 rfl rfl ?_
  refine x_callV1 hE [] (rest := [.int b1]) (v := .int b1) (c1 := R1) (d1 := N2) rfl yokX12_image yvX12_image lkw_312 rfl cl_12 (hE.kd kO_12) (by decide) rfl rfl ⟨Nat.le_of_ble_eq_true rfl, Nat.le_of_ble_eq_true rfl⟩ ⟨by show cells ≤ 601024; omega, by show slots ≤ 7293034; omega⟩ rfl (Nat.le_of_ble_eq_true rfl) dL_law__3169 (mX12_image l hy) ?_
  refine x_icmp_eq hE 3277 dL_law__3172 (by decide) (A := some ()) (B := none) (r := ()) (if_pos rfl) (fun _ => ?_) (fun h => by cases h)
  refine x_pick [0, 1, 2, 3, 4] (L' := Lb σ b j) rfl ?_
  exact hK σ np cells slots R1 N2 hE hg (by omega) (by omega)
theorem wL_c47 {p : Program} {l : Launch} {e : Env} {s : State} {m : MethodId} {args : Array Value} {below : List Frame} {meth : Method} {c : Code} {Y : Nat → ClassId} {D : va_G} {σ : Nat → Nat} {np b0 cells slots : Nat} {Q : State → Prop} {M : Mc} {N : Md} {b nX j : Nat} {xs : Nat → Int32} (hfl : l.stackTraces = false) (hE : EOK p s m args meth c cL_law_ 7 "SettlerColonyLaw" Y D σ np b0) (hX : va_X b nX xs s s.heap) (hb : b < b0) (hj : j + 6 ≤ nX) (hn : nX ≤ 3072) (hG : GI np M N) (hc : cells ≤ 600000) (hs : slots ≤ 7000000) (hK : LK p l e s m args below meth c Y D b0 cells slots Q b j) : Xw p l e room_1 s m args below meth c 7 Y D σ np b0 cells slots Q 3177 (Lb σ b j) [] M N := by
  unfold Lb
  obtain ⟨b1, R1, hx, hy, ht, hg⟩ := st_W (y := fun R => fX12_number R (xs (j + 1))) hG (fun n t m h => c_number h (xs (j + 1)))
  refine x_aload_n hE 1 dL_law__3177 rfl rfl ?_
  refine x_arg hE hX hb hj hn 1 (by decide) (by decide) 0 4 dL_law__3178 dL_law__3179 dL_law__3181 dL_law__3182 dL_law__3183 rfl rfl ?_
  refine x_callV1 hE [.int (xs (j + 1))] (rest := []) (v := .int b1) (c1 := M) (d1 := N) rfl yokX11_number yvX11_number lkw_313 rfl cl_11 (hE.kd kO_11) (by decide) rfl rfl ⟨Nat.le_of_ble_eq_true rfl, Nat.le_of_ble_eq_true rfl⟩ ⟨by show cells ≤ 601024; omega, by show slots ≤ 7293034; omega⟩ rfl (Nat.le_of_ble_eq_true rfl) dL_law__3184 (mX11_number l hx) ?_
  refine x_aload_n hE 2 dL_law__3187 rfl rfl ?_
  refine x_arg hE hX hb hj hn 1 (by decide) (by decide) 0 4 dL_law__3188 dL_law__3189 dL_law__3191 dL_law__3192 dL_law__3193 rfl rfl ?_
  refine x_callV1 hE [.int (xs (j + 1))] (rest := [.int b1]) (v := .int b1) (c1 := R1) (d1 := N) rfl yokX12_number yvX12_number lkw_316 rfl cl_12 (hE.kd kO_12) (by decide) rfl rfl ⟨Nat.le_of_ble_eq_true rfl, Nat.le_of_ble_eq_true rfl⟩ ⟨by show cells ≤ 601024; omega, by show slots ≤ 7293034; omega⟩ rfl (Nat.le_of_ble_eq_true rfl) dL_law__3194 (mX12_number l hy) ?_
  refine x_icmp_eq hE 3277 dL_law__3197 (by decide) (A := some ()) (B := none) (r := ()) (if_pos rfl) (fun _ => ?_) (fun h => by cases h)
  refine x_pick [0, 1, 2, 3, 4] (L' := Lb σ b j) rfl ?_
  exact hK σ np cells slots R1 N hE hg (by omega) (by omega)
theorem wL_c48 {p : Program} {l : Launch} {e : Env} {s : State} {m : MethodId} {args : Array Value} {below : List Frame} {meth : Method} {c : Code} {Y : Nat → ClassId} {D : va_G} {σ : Nat → Nat} {np b0 cells slots : Nat} {Q : State → Prop} {M : Mc} {N : Md} {b nX j : Nat} {xs : Nat → Int32} (hfl : l.stackTraces = false) (hE : EOK p s m args meth c cL_law_ 7 "SettlerColonyLaw" Y D σ np b0) (hX : va_X b nX xs s s.heap) (hb : b < b0) (hj : j + 6 ≤ nX) (hn : nX ≤ 3072) (hG : GI np M N) (hc : cells ≤ 600000) (hs : slots ≤ 7000000) (hK : LK p l e s m args below meth c Y D b0 cells slots Q b j) : Xw p l e room_1 s m args below meth c 7 Y D σ np b0 cells slots Q 3202 (Lb σ b j) [] M N := by
  unfold Lb
  obtain ⟨b1, C1, R1, hx, hy, ht, hg⟩ := st_V (y := fun R => fX12_tear R (xs (j + 1)) (xs (j + 2))) hG (fun n t m R h => c_tear h (xs (j + 1)) (xs (j + 2))) (hA_fX11_tear ka_rf)
  refine x_aload_n hE 1 dL_law__3202 rfl rfl ?_
  refine x_arg hE hX hb hj hn 1 (by decide) (by decide) 0 4 dL_law__3203 dL_law__3204 dL_law__3206 dL_law__3207 dL_law__3208 rfl rfl ?_
  refine x_arg hE hX hb hj hn 2 (by decide) (by decide) 0 4 dL_law__3209 dL_law__3210 dL_law__3212 dL_law__3213 dL_law__3214 rfl rfl ?_
  refine x_callV1 hE [.int (xs (j + 1)), .int (xs (j + 2))] (rest := []) (v := .int b1) (c1 := C1) (d1 := N) rfl yokX11_tear yvX11_tear lkw_317 rfl cl_11 (hE.kd kO_11) (by decide) rfl rfl ⟨Nat.le_of_ble_eq_true rfl, Nat.le_of_ble_eq_true rfl⟩ ⟨by show cells ≤ 601024; omega, by show slots ≤ 7293034; omega⟩ rfl (Nat.le_of_ble_eq_true rfl) dL_law__3215 (mX11_tear l hx) ?_
  refine x_aload_n hE 2 dL_law__3218 rfl rfl ?_
  refine x_arg hE hX hb hj hn 1 (by decide) (by decide) 0 4 dL_law__3219 dL_law__3220 dL_law__3222 dL_law__3223 dL_law__3224 rfl rfl ?_
  refine x_arg hE hX hb hj hn 2 (by decide) (by decide) 0 4 dL_law__3225 dL_law__3226 dL_law__3228 dL_law__3229 dL_law__3230 rfl rfl ?_
  refine x_callV1 hE [.int (xs (j + 1)), .int (xs (j + 2))] (rest := [.int b1]) (v := .int b1) (c1 := R1) (d1 := N) rfl yokX12_tear yvX12_tear lkw_320 rfl cl_12 (hE.kd kO_12) (by decide) rfl rfl ⟨Nat.le_of_ble_eq_true rfl, Nat.le_of_ble_eq_true rfl⟩ ⟨by show cells ≤ 601024; omega, by show slots ≤ 7293034; omega⟩ rfl (Nat.le_of_ble_eq_true rfl) dL_law__3231 (mX12_tear l hy) ?_
  refine x_icmp_eq hE 3277 dL_law__3234 (by decide) (A := some ()) (B := none) (r := ()) (if_pos rfl) (fun _ => ?_) (fun h => by cases h)
  refine x_pick [0, 1, 2, 3, 4] (L' := Lb σ b j) rfl ?_
  exact hK σ np cells slots R1 N hE hg (by omega) (by omega)
theorem wL_c49 {p : Program} {l : Launch} {e : Env} {s : State} {m : MethodId} {args : Array Value} {below : List Frame} {meth : Method} {c : Code} {Y : Nat → ClassId} {D : va_G} {σ : Nat → Nat} {np b0 cells slots : Nat} {Q : State → Prop} {M : Mc} {N : Md} {b nX j : Nat} {xs : Nat → Int32} (hfl : l.stackTraces = false) (hE : EOK p s m args meth c cL_law_ 7 "SettlerColonyLaw" Y D σ np b0) (hX : va_X b nX xs s s.heap) (hb : b < b0) (hj : j + 6 ≤ nX) (hn : nX ≤ 3072) (hG : GI np M N) (hc : cells ≤ 600000) (hs : slots ≤ 7000000) (hK : LK p l e s m args below meth c Y D b0 cells slots Q b j) : Xw p l e room_1 s m args below meth c 7 Y D σ np b0 cells slots Q 3239 (Lb σ b j) [] M N := by
  unfold Lb
  obtain ⟨b1, R1, hx, hy, ht, hg⟩ := st_W (y := fun R => fX12_check R N) hG (fun n t m h => c_check h)
  refine x_aload_n hE 1 dL_law__3239 rfl rfl ?_
  refine x_callV1 hE [] (rest := []) (v := .int b1) (c1 := M) (d1 := N) rfl yokX11_check yvX11_check lkw_321 rfl cl_11 (hE.kd kO_11) (by decide) rfl rfl ⟨Nat.le_of_ble_eq_true rfl, Nat.le_of_ble_eq_true rfl⟩ ⟨by show cells ≤ 601024; omega, by show slots ≤ 7293034; omega⟩ rfl (Nat.le_of_ble_eq_true rfl) dL_law__3240 (mX11_check l hx) ?_
  refine x_aload_n hE 2 dL_law__3243 rfl rfl ?_
  refine x_callV1 hE [] (rest := [.int b1]) (v := .int b1) (c1 := R1) (d1 := N) rfl yokX12_check yvX12_check lkw_324 rfl cl_12 (hE.kd kO_12) (by decide) rfl rfl ⟨Nat.le_of_ble_eq_true rfl, Nat.le_of_ble_eq_true rfl⟩ ⟨by show cells ≤ 601024; omega, by show slots ≤ 7293034; omega⟩ rfl (Nat.le_of_ble_eq_true rfl) dL_law__3244 (mX12_check l hy) ?_
  refine x_icmp_eq hE 3277 dL_law__3247 (by decide) (A := some ()) (B := none) (r := ()) (if_pos rfl) (fun _ => ?_) (fun h => by cases h)
  refine x_pick [0, 1, 2, 3, 4] (L' := Lb σ b j) rfl ?_
  exact hK σ np cells slots R1 N hE hg (by omega) (by omega)
theorem wL_c50 {p : Program} {l : Launch} {e : Env} {s : State} {m : MethodId} {args : Array Value} {below : List Frame} {meth : Method} {c : Code} {Y : Nat → ClassId} {D : va_G} {σ : Nat → Nat} {np b0 cells slots : Nat} {Q : State → Prop} {M : Mc} {N : Md} {b nX j : Nat} {xs : Nat → Int32} (hfl : l.stackTraces = false) (hE : EOK p s m args meth c cL_law_ 7 "SettlerColonyLaw" Y D σ np b0) (hX : va_X b nX xs s s.heap) (hb : b < b0) (hj : j + 6 ≤ nX) (hn : nX ≤ 3072) (hG : GI np M N) (hc : cells ≤ 600000) (hs : slots ≤ 7000000) (hK : LK p l e s m args below meth c Y D b0 cells slots Q b j) : Xw p l e room_1 s m args below meth c 7 Y D σ np b0 cells slots Q 3252 (Lb σ b j) [] M N := by
  unfold Lb
  obtain ⟨b1, R1, hx, hy, ht, hg⟩ := st_W (y := fun R => fX12_count R (xs (j + 1))) hG (fun n t m h => c_count h (xs (j + 1)))
  refine x_aload_n hE 1 dL_law__3252 rfl rfl ?_
  refine x_arg hE hX hb hj hn 1 (by decide) (by decide) 0 4 dL_law__3253 dL_law__3254 dL_law__3256 dL_law__3257 dL_law__3258 rfl rfl ?_
  refine x_callV1 hE [.int (xs (j + 1))] (rest := []) (v := .int b1) (c1 := M) (d1 := N) rfl yokX11_count yvX11_count lkw_325 rfl cl_11 (hE.kd kO_11) (by decide) rfl rfl ⟨Nat.le_of_ble_eq_true rfl, Nat.le_of_ble_eq_true rfl⟩ ⟨by show cells ≤ 601024; omega, by show slots ≤ 7293034; omega⟩ rfl (Nat.le_of_ble_eq_true rfl) dL_law__3259 (mX11_count l hx) ?_
  refine x_aload_n hE 2 dL_law__3262 rfl rfl ?_
  refine x_arg hE hX hb hj hn 1 (by decide) (by decide) 0 4 dL_law__3263 dL_law__3264 dL_law__3266 dL_law__3267 dL_law__3268 rfl rfl ?_
  refine x_callV1 hE [.int (xs (j + 1))] (rest := [.int b1]) (v := .int b1) (c1 := R1) (d1 := N) rfl yokX12_count yvX12_count lkw_328 rfl cl_12 (hE.kd kO_12) (by decide) rfl rfl ⟨Nat.le_of_ble_eq_true rfl, Nat.le_of_ble_eq_true rfl⟩ ⟨by show cells ≤ 601024; omega, by show slots ≤ 7293034; omega⟩ rfl (Nat.le_of_ble_eq_true rfl) dL_law__3269 (mX12_count l hy) ?_
  refine x_icmp_eq hE 3277 dL_law__3272 (by decide) (A := some ()) (B := none) (r := ()) (if_pos rfl) (fun _ => ?_) (fun h => by cases h)
  refine x_pick [0, 1, 2, 3, 4] (L' := Lb σ b j) rfl ?_
  exact hK σ np cells slots R1 N hE hg (by omega) (by omega)
