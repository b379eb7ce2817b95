/-! ===== what holds at the law's entry ===== -/
abbrev gvL : List Jvm.Cond := flatC (Jvm.Cond.and given_1 narrow_1)
def sTm (i : Nat) : Term := .string (sOwn i) (sIdx i)
def iEx : List Nat := [67, 184, 194, 205, 216, 227, 240, 255, 272, 289, 306, 324, 343, 363, 386, 408, 432, 456, 479, 504, 530, 556, 585]
def iCo : List Nat := [68, 185, 195, 206, 217, 228, 241, 256, 273, 290, 307, 325, 344, 364, 387, 409, 433, 457, 480, 505, 531, 557, 586]
def iAr : List Nat := [69, 186, 196, 207, 218, 229, 242, 257, 274, 291, 308, 326, 345, 365, 388, 410, 434, 458, 481, 506, 532, 558, 587]
def iLe : List Nat := [70, 187, 197, 208, 219, 230, 243, 258, 275, 292, 309, 327, 346, 366, 389, 411, 435, 459, 482, 507, 533, 559, 588]
def iEl : List Nat := [71, 188, 198, 209, 220, 231, 244, 259, 276, 293, 310, 328, 347, 367, 390, 412, 436, 460, 483, 508, 534, 560, 589]
def iNe : List (List Nat) := [[0, 193, 203, 213, 223, 235, 249, 265, 281, 297, 314, 332, 351, 373, 394, 417, 440, 462, 486, 511, 536, 564, 594], [193, 0, 204, 214, 224, 236, 250, 266, 282, 298, 315, 333, 352, 374, 395, 418, 441, 463, 487, 512, 537, 565, 595], [203, 204, 0, 215, 225, 237, 251, 267, 283, 299, 316, 334, 353, 375, 396, 419, 442, 464, 488, 513, 538, 566, 596], [213, 214, 215, 0, 226, 238, 252, 268, 284, 300, 317, 335, 354, 376, 397, 420, 443, 465, 489, 514, 539, 567, 597], [223, 224, 225, 226, 0, 239, 253, 269, 285, 301, 318, 336, 355, 377, 398, 421, 444, 466, 490, 515, 540, 568, 598], [235, 236, 237, 238, 239, 0, 254, 270, 286, 302, 319, 337, 356, 378, 399, 422, 445, 467, 491, 516, 541, 569, 599], [249, 250, 251, 252, 253, 254, 0, 271, 287, 303, 320, 338, 357, 379, 400, 423, 446, 468, 492, 517, 542, 570, 600], [265, 266, 267, 268, 269, 270, 271, 0, 288, 304, 321, 339, 358, 380, 401, 424, 447, 469, 493, 518, 543, 571, 601], [281, 282, 283, 284, 285, 286, 287, 288, 0, 305, 322, 340, 359, 381, 402, 425, 448, 470, 494, 519, 544, 572, 602], [297, 298, 299, 300, 301, 302, 303, 304, 305, 0, 323, 341, 360, 382, 403, 426, 449, 471, 495, 520, 545, 573, 603], [314, 315, 316, 317, 318, 319, 320, 321, 322, 323, 0, 342, 361, 383, 404, 427, 450, 472, 496, 521, 546, 574, 604], [332, 333, 334, 335, 336, 337, 338, 339, 340, 341, 342, 0, 362, 384, 405, 428, 451, 473, 497, 522, 547, 575, 605], [351, 352, 353, 354, 355, 356, 357, 358, 359, 360, 361, 362, 0, 385, 406, 429, 452, 474, 498, 523, 548, 576, 606], [373, 374, 375, 376, 377, 378, 379, 380, 381, 382, 383, 384, 385, 0, 407, 430, 453, 475, 499, 524, 549, 577, 607], [394, 395, 396, 397, 398, 399, 400, 401, 402, 403, 404, 405, 406, 407, 0, 431, 454, 476, 500, 525, 550, 578, 608], [417, 418, 419, 420, 421, 422, 423, 424, 425, 426, 427, 428, 429, 430, 431, 0, 455, 477, 501, 526, 551, 579, 609], [440, 441, 442, 443, 444, 445, 446, 447, 448, 449, 450, 451, 452, 453, 454, 455, 0, 478, 502, 527, 552, 580, 610], [462, 463, 464, 465, 466, 467, 468, 469, 470, 471, 472, 473, 474, 475, 476, 477, 478, 0, 503, 528, 553, 581, 611], [486, 487, 488, 489, 490, 491, 492, 493, 494, 495, 496, 497, 498, 499, 500, 501, 502, 503, 0, 529, 554, 582, 612], [511, 512, 513, 514, 515, 516, 517, 518, 519, 520, 521, 522, 523, 524, 525, 526, 527, 528, 529, 0, 555, 583, 613], [536, 537, 538, 539, 540, 541, 542, 543, 544, 545, 546, 547, 548, 549, 550, 551, 552, 553, 554, 555, 0, 584, 614], [564, 565, 566, 567, 568, 569, 570, 571, 572, 573, 574, 575, 576, 577, 578, 579, 580, 581, 582, 583, 584, 0, 615], [594, 595, 596, 597, 598, 599, 600, 601, 602, 603, 604, 605, 606, 607, 608, 609, 610, 611, 612, 613, 614, 615, 0]]
def iSr : List Nat := [1339, 2217, 2218, 2219, 2220, 2221, 2222, 2223, 2224, 2231, 2271, 2272, 2273, 2274, 2275, 2288, 2289, 2294, 2307, 2308, 2309, 2310, 2311]
theorem g_ex : ∀ i, i < 23 → gvL[iEx.getD i 0]? = some (.exactly (sTm i) "java/lang/String") := by decide +kernel
theorem g_co : ∀ i, i < 23 → gvL[iCo.getD i 0]? = some (.eq (.field (sTm i) "java/lang/String" "coder" "B") (.int 0)) := by decide +kernel
theorem g_ar : ∀ i, i < 23 → gvL[iAr.getD i 0]? = some (.arrayOf (.field (sTm i) "java/lang/String" "value" "[B") .byte) := by decide +kernel
theorem g_le : ∀ i, i < 23 → gvL[iLe.getD i 0]? = some (.eq (.length (.field (sTm i) "java/lang/String" "value" "[B")) (.int (Int32.ofNat (sLen.getD i 0)))) := by decide +kernel
theorem g_el : ∀ i, i < 23 → ∀ j, j < sLen.getD i 0 → gvL[iEl.getD i 0 + j]? = some (.eq (.elem (.field (sTm i) "java/lang/String" "value" "[B") (.int (Int32.ofNat j))) (.int ((sByt.getD i []).getD j 0))) := by decide +kernel
theorem g_ne : ∀ i, i < 23 → ∀ j, j < 23 → i ≠ j → gvL[(iNe.getD i []).getD j 0]? = some (.not (.eq (sTm i) (sTm j))) ∨ gvL[(iNe.getD i []).getD j 0]? = some (.not (.eq (sTm j) (sTm i))) := by decide +kernel
theorem g_sr : ∀ i, i < 23 → lw_tbl[iSr.getD i 0]? = some (.stringRef (sOwn i) (sIdx i) (sTxt i)) := by decide +kernel
theorem g_ln : ∀ i, i < 23 → sLen.getD i 0 < 2 ^ 31 := by decide +kernel
theorem g_us : ∀ j, j < 8 → gvL[7 + j]? = some (.eq (.elem (.static "SettlerColony" "USUAL" "[I") (.int (Int32.ofNat j))) (.int (usu j))) := by decide +kernel
theorem arr_of {args : Array Value} {s : State} {ty : FieldType} (h : (Cond.arrayClass ty).before args s = true) : ∃ cA, ArrOfT s cA ty ∧ s.vm.findClass ("[" ++ ty.toString) = some cA := by
  obtain ⟨c, k, comp, h1, h2, h3⟩ := Cond.arrayClass_spec h
  exact ⟨c, fun n z => ⟨fun k h => (by cases h), k, h2, comp, h3⟩, h1⟩
theorem xs_start {s : State} {b : Nat} (hts : ∀ w ∈ lw_tbl, w.before #[Value.ref b] s = true) (hgv : (Jvm.Cond.and given_1 narrow_1).before #[Value.ref b] s = true) : ∃ (Y : Nat → ClassId) (D : va_G), xS s.heap.size Y s ∧ va_K D cl0 (tysOf Y) s := by
  have hs := flat_of_before _ hgv
  have hA : ∀ a : Nat, a < s.heap.size → ¬ xA s.heap.size a := fun a h q => absurd (Nat.lt_of_lt_of_le h q) (Nat.lt_irrefl _)
  have hg : ∀ {i : Nat} {w : Jvm.Cond}, gvL[i]? = some w → w.before #[Value.ref b] s = true := fun h => hs _ (List.mem_of_getElem? h)
  have hw : ∀ {i : Nat} {w : Jvm.Cond}, lw_tbl[i]? = some w → w.before #[Value.ref b] s = true := fun h => hts _ (List.mem_of_getElem? h)
  obtain ⟨tu, ht, hT⟩ := va_Tof (tm := .static "SettlerColony" "USUAL" "[I") (ty := .int) (N := 8) (f := fun j => .int (usu j)) (by decide) (hg (i := 5) (by decide +kernel)) (va_eqt (hg (i := 6) (by decide +kernel))) (fun j hj => va_eqt (hg (g_us j hj))) hA
  obtain ⟨adK, adV, hS, hE⟩ := vk_Sof (N := 23) (tm := sTm) (len := sLen) (byt := sByt) g_ln (fun i hi => hg (g_ex i hi)) (fun i hi => hg (g_co i hi)) (fun i hi => hg (g_ar i hi)) (fun i hi => hg (g_le i hi)) (fun i hi j hj => hg (g_el i hi j hj)) (fun i j hi hj hne => (g_ne i hi j hj hne).imp hg hg) hA
  obtain ⟨c0, a0, n0⟩ := arr_of (hw (i := 183) (w := .arrayClass .int) (by decide +kernel))
  obtain ⟨c1, a1, n1⟩ := arr_of (hw (i := 244) (w := .arrayClass .boolean) (by decide +kernel))
  obtain ⟨c2, a2, n2⟩ := arr_of (hw (i := 1510) (w := .arrayClass .byte) (by decide +kernel))
  obtain ⟨c3, a3, n3⟩ := arr_of (hw (i := 2591) (w := .arrayClass .long) (by decide +kernel))
  obtain ⟨q4, c4, k4, f4, -, h4, g4, n4⟩ := arrayOver_specB (hw (i := 172) (w := .arrayOver (.array .int)) (by decide +kernel))
  obtain ⟨q5, c5, k5, f5, -, h5, g5, n5⟩ := Cond.arrayOver_spec (hw (i := 185) (w := .arrayOver (.object "SettlerColony$Statute")) (by decide +kernel))
  obtain ⟨d0, e0, u0⟩ := u_known (C := RX0) (T := TX0) (N := 3) (n := 3) hts (fun w h => (List.mem_filter.mp (cl_0.2.1 w h)).1) (hw (i := 166) (by decide +kernel))
  obtain ⟨d1, e1, u1⟩ := u_known (C := RX1) (T := TX1) (N := 6) (n := 6) hts (fun w h => (List.mem_filter.mp (cl_1.2.1 w h)).1) (hw (i := 330) (by decide +kernel))
  obtain ⟨d2, e2, u2⟩ := u_known (C := RX2) (T := TX2) (N := 12) (n := 12) hts (fun w h => (List.mem_filter.mp (cl_2.2.1 w h)).1) (hw (i := 357) (by decide +kernel))
  obtain ⟨d3, e3, u3⟩ := u_known (C := RX3) (T := TX3) (N := 15) (n := 15) hts (fun w h => (List.mem_filter.mp (cl_3.2.1 w h)).1) (hw (i := 246) (by decide +kernel))
  obtain ⟨d4, e4, u4⟩ := u_known (C := RX4) (T := TX4) (N := 13) (n := 13) hts (fun w h => (List.mem_filter.mp (cl_4.2.1 w h)).1) (hw (i := 193) (by decide +kernel))
  obtain ⟨d5, e5, u5⟩ := u_known (C := RX5) (T := TX5) (N := 5) (n := 5) hts (fun w h => (List.mem_filter.mp (cl_5.2.1 w h)).1) (hw (i := 307) (by decide +kernel))
  obtain ⟨d6, e6, u6⟩ := u_known (C := RX6) (T := TX6) (N := 4) (n := 4) hts (fun w h => (List.mem_filter.mp (cl_6.2.1 w h)).1) (hw (i := 541) (by decide +kernel))
  obtain ⟨d7, e7, u7⟩ := u_known (C := RX7) (T := TX7) (N := 12) (n := 12) hts (fun w h => (List.mem_filter.mp (cl_7.2.1 w h)).1) (hw (i := 497) (by decide +kernel))
  obtain ⟨d8, e8, u8⟩ := u_known (C := RX8) (T := TX8) (N := 4) (n := 4) hts (fun w h => (List.mem_filter.mp (cl_8.2.1 w h)).1) (hw (i := 1477) (by decide +kernel))
  obtain ⟨d9, e9, u9⟩ := u_known (C := RX9) (T := TX9) (N := 4) (n := 4) hts (fun w h => (List.mem_filter.mp (cl_9.2.1 w h)).1) (hw (i := 477) (by decide +kernel))
  obtain ⟨d10, e10, u10⟩ := u_known (C := RX10) (T := TX10) (N := 18) (n := 18) hts (fun w h => (List.mem_filter.mp (cl_10.2.1 w h)).1) (hw (i := 187) (by decide +kernel))
  obtain ⟨d11, e11, u11⟩ := u_known (C := RX11) (T := TX11) (N := 18) (n := 18) hts (fun w h => (List.mem_filter.mp (cl_11.2.1 w h)).1) (hw (i := 158) (by decide +kernel))
  obtain ⟨d12, e12, u12⟩ := u_known (C := RX12) (T := TX12) (N := 34) (n := 34) hts (fun w h => (List.mem_filter.mp (cl_12.2.1 w h)).1) (hw (i := 1905) (by decide +kernel))
  refine ⟨fun k => if k = 0 then c0 else if k = 1 then c1 else if k = 2 then c2 else if k = 3 then c3 else if k = 4 then c4 else if k = 5 then c5 else if k = 100 then tu else if k < 300 then adK (k - 200) else adV (k - 300), (fun k => [d0, d1, d2, d3, d4, d5, d6, d7, d8, d9, d10, d11, d12].getD k d0, fun k => [e0, e1, e2, e3, e4, e5, e6, e7, e8, e9, e10, e11, e12].getD k e0), ⟨va_Zof (hw (i := 638) (by decide +kernel)) (hw (i := 131) (by decide +kernel)) ht hA, hT, va_Zof (hw (i := 1349) (by decide +kernel)) (hw (i := 152) (by decide +kernel)) (va_eqt (hg (i := 17) (by decide +kernel))) hA, vx_Zqof (hw (i := 797) (by decide +kernel)) (hw (i := 144) (by decide +kernel)) (hg (i := 15) (by decide +kernel)) hA, vx_Zqof (hw (i := 799) (by decide +kernel)) (hw (i := 144) (by decide +kernel)) (hg (i := 16) (by decide +kernel)) hA, va_Zqof (hw (i := 1365) (by decide +kernel)) (hw (i := 154) (by decide +kernel)) (hg (i := 18) (by decide +kernel)) hA, ?_, fun i hi => ?_, va_Nc.of (hg (i := 34) (by decide +kernel)), va_Nc.of (hg (i := 51) (by decide +kernel))⟩, fun k q hq => ?_, fun k q hq => ?_⟩
  · have e1 : (fun i : Nat => (fun k => if k = 0 then c0 else if k = 1 then c1 else if k = 2 then c2 else if k = 3 then c3 else if k = 4 then c4 else if k = 5 then c5 else if k = 100 then tu else if k < 300 then adK (k - 200) else adV (k - 300)) (300 + i)) = adV := by
      funext i
      show (if 300 + i = 0 then c0 else if 300 + i = 1 then c1 else if 300 + i = 2 then c2 else if 300 + i = 3 then c3 else if 300 + i = 4 then c4 else if 300 + i = 5 then c5 else if 300 + i = 100 then tu else if 300 + i < 300 then adK (300 + i - 200) else adV (300 + i - 300)) = adV i
      rw [if_neg (by omega), if_neg (by omega), if_neg (by omega), if_neg (by omega), if_neg (by omega), if_neg (by omega), if_neg (by omega), if_neg (by omega), show 300 + i - 300 = i by omega]
    rw [e1]
    refine ⟨fun i hi => ?_, fun i j hi hj e => ?_⟩
    · have e2 : (if 200 + i = 0 then c0 else if 200 + i = 1 then c1 else if 200 + i = 2 then c2 else if 200 + i = 3 then c3 else if 200 + i = 4 then c4 else if 200 + i = 5 then c5 else if 200 + i = 100 then tu else if 200 + i < 300 then adK (200 + i - 200) else adV (200 + i - 300)) = adK i := by
        rw [if_neg (by omega), if_neg (by omega), if_neg (by omega), if_neg (by omega), if_neg (by omega), if_neg (by omega), if_neg (by omega), if_pos (by omega), show 200 + i - 200 = i by omega]
      simp only [e2]
      exact hS.1 i hi
    · have e2 : ∀ i, i < 23 → (if 200 + i = 0 then c0 else if 200 + i = 1 then c1 else if 200 + i = 2 then c2 else if 200 + i = 3 then c3 else if 200 + i = 4 then c4 else if 200 + i = 5 then c5 else if 200 + i = 100 then tu else if 200 + i < 300 then adK (200 + i - 200) else adV (200 + i - 300)) = adK i := fun i hi => by
        rw [if_neg (by omega), if_neg (by omega), if_neg (by omega), if_neg (by omega), if_neg (by omega), if_neg (by omega), if_neg (by omega), if_pos (by omega), show 200 + i - 200 = i by omega]
      simp only [e2 i hi, e2 j hj] at e
      exact hS.2 i j hi hj e
  · have e2 : (if 200 + i = 0 then c0 else if 200 + i = 1 then c1 else if 200 + i = 2 then c2 else if 200 + i = 3 then c3 else if 200 + i = 4 then c4 else if 200 + i = 5 then c5 else if 200 + i = 100 then tu else if 200 + i < 300 then adK (200 + i - 200) else adV (200 + i - 300)) = adK i := by
      rw [if_neg (by omega), if_neg (by omega), if_neg (by omega), if_neg (by omega), if_neg (by omega), if_neg (by omega), if_neg (by omega), if_pos (by omega), show 200 + i - 200 = i by omega]
    simp only [e2]
    exact vk_R.of (hw (g_sr i hi)) (hE i hi)
  · match k, hq with
    | 0, hq => cases hq; exact u0
    | 1, hq => cases hq; exact u1
    | 2, hq => cases hq; exact u2
    | 3, hq => cases hq; exact u3
    | 4, hq => cases hq; exact u4
    | 5, hq => cases hq; exact u5
    | 6, hq => cases hq; exact u6
    | 7, hq => cases hq; exact u7
    | 8, hq => cases hq; exact u8
    | 9, hq => cases hq; exact u9
    | 10, hq => cases hq; exact u10
    | 11, hq => cases hq; exact u11
    | 12, hq => cases hq; exact u12
    | k + 13, hq => simp [cl0] at hq
  · match k, hq with
    | 0, hq => cases hq; exact ⟨a0, n0⟩
    | 1, hq => cases hq; exact ⟨a1, n1⟩
    | 2, hq => cases hq; exact ⟨a2, n2⟩
    | 3, hq => cases hq; exact ⟨a3, n3⟩
    | 4, hq => cases hq; exact ⟨fun n z => ⟨fun k h => (by cases h), k4, h4, q4, g4⟩, n4⟩
    | 5, hq => cases hq; exact ⟨fun n z => ⟨fun k h => (by cases h), k5, h5, q5, g5⟩, k5, q5, h5, g5, f5, n5⟩
    | k + 6, hq => simp [tysOf] at hq
