/-! ===== the words that are good in every state, and where each stands ===== -/
def lw_g : List Cond := lw_tbl.filter goodWord
theorem mem_g {w : Cond} (i : Nat) (h : lw_tbl[i]? = some w) (hg : goodWord w = true) : w ∈ lw_g := List.mem_filter.mpr ⟨List.mem_of_getElem? h, hg⟩
theorem good_g : ∀ w ∈ lw_g, goodWord w = true := fun _ h => (List.mem_filter.mp h).2
theorem goodIn_g {ws : List Cond} (h : ∀ w ∈ ws, w ∈ lw_g) : GoodIn lw_g ws := fun w hw => ⟨h w hw, good_of_word (good_g w (h w hw))⟩
theorem inX0 : ∀ w ∈ u_ws RX0 TX0 3, w ∈ lw_g := by
  have h : ∀ k, k < 3 → u_lay RX0 TX0 k ∈ lw_g := by
    intro k hk
    rcases (show k = 0 ∨ k = 1 ∨ k = 2 by omega) with rfl | rfl | rfl
    · exact mem_g 176 (by decide +kernel) (by decide +kernel)
    · exact mem_g 178 (by decide +kernel) (by decide +kernel)
    · exact mem_g 180 (by decide +kernel) (by decide +kernel)
  intro w hw
  unfold u_ws at hw
  obtain ⟨k, hk, rfl⟩ := List.mem_map.mp hw
  exact h k (List.mem_range.mp hk)
theorem inX1 : ∀ w ∈ u_ws RX1 TX1 6, w ∈ lw_g := by
  have h : ∀ k, k < 6 → u_lay RX1 TX1 k ∈ lw_g := by
    intro k hk
    rcases (show k = 0 ∨ k = 1 ∨ k = 2 ∨ k = 3 ∨ k = 4 ∨ k = 5 by omega) with rfl | rfl | rfl | rfl | rfl | rfl
    · exact mem_g 343 (by decide +kernel) (by decide +kernel)
    · exact mem_g 345 (by decide +kernel) (by decide +kernel)
    · exact mem_g 347 (by decide +kernel) (by decide +kernel)
    · exact mem_g 349 (by decide +kernel) (by decide +kernel)
    · exact mem_g 351 (by decide +kernel) (by decide +kernel)
    · exact mem_g 353 (by decide +kernel) (by decide +kernel)
  intro w hw
  unfold u_ws at hw
  obtain ⟨k, hk, rfl⟩ := List.mem_map.mp hw
  exact h k (List.mem_range.mp hk)
theorem inX2 : ∀ w ∈ u_ws RX2 TX2 12, w ∈ lw_g := by
  have h : ∀ k, k < 12 → u_lay RX2 TX2 k ∈ lw_g := by
    intro k hk
    rcases (show k = 0 ∨ k = 1 ∨ k = 2 ∨ k = 3 ∨ k = 4 ∨ k = 5 ∨ k = 6 ∨ k = 7 ∨ k = 8 ∨ k = 9 ∨ k = 10 ∨ k = 11 by omega) with rfl | rfl | rfl | rfl | rfl | rfl | rfl | rfl | rfl | rfl | rfl | rfl
    · exact mem_g 378 (by decide +kernel) (by decide +kernel)
    · exact mem_g 380 (by decide +kernel) (by decide +kernel)
    · exact mem_g 382 (by decide +kernel) (by decide +kernel)
    · exact mem_g 384 (by decide +kernel) (by decide +kernel)
    · exact mem_g 386 (by decide +kernel) (by decide +kernel)
    · exact mem_g 388 (by decide +kernel) (by decide +kernel)
    · exact mem_g 390 (by decide +kernel) (by decide +kernel)
    · exact mem_g 392 (by decide +kernel) (by decide +kernel)
    · exact mem_g 394 (by decide +kernel) (by decide +kernel)
    · exact mem_g 396 (by decide +kernel) (by decide +kernel)
    · exact mem_g 398 (by decide +kernel) (by decide +kernel)
    · exact mem_g 400 (by decide +kernel) (by decide +kernel)
  intro w hw
  unfold u_ws at hw
  obtain ⟨k, hk, rfl⟩ := List.mem_map.mp hw
  exact h k (List.mem_range.mp hk)
theorem inX3 : ∀ w ∈ u_ws RX3 TX3 15, w ∈ lw_g := by
  have h : ∀ k, k < 15 → u_lay RX3 TX3 k ∈ lw_g := by
    intro k hk
    rcases (show k = 0 ∨ k = 1 ∨ k = 2 ∨ k = 3 ∨ k = 4 ∨ k = 5 ∨ k = 6 ∨ k = 7 ∨ k = 8 ∨ k = 9 ∨ k = 10 ∨ k = 11 ∨ k = 12 ∨ k = 13 ∨ k = 14 by omega) with rfl | rfl | rfl | rfl | rfl | rfl | rfl | rfl | rfl | rfl | rfl | rfl | rfl | rfl | rfl
    · exact mem_g 275 (by decide +kernel) (by decide +kernel)
    · exact mem_g 277 (by decide +kernel) (by decide +kernel)
    · exact mem_g 279 (by decide +kernel) (by decide +kernel)
    · exact mem_g 281 (by decide +kernel) (by decide +kernel)
    · exact mem_g 283 (by decide +kernel) (by decide +kernel)
    · exact mem_g 285 (by decide +kernel) (by decide +kernel)
    · exact mem_g 287 (by decide +kernel) (by decide +kernel)
    · exact mem_g 289 (by decide +kernel) (by decide +kernel)
    · exact mem_g 291 (by decide +kernel) (by decide +kernel)
    · exact mem_g 293 (by decide +kernel) (by decide +kernel)
    · exact mem_g 295 (by decide +kernel) (by decide +kernel)
    · exact mem_g 297 (by decide +kernel) (by decide +kernel)
    · exact mem_g 299 (by decide +kernel) (by decide +kernel)
    · exact mem_g 301 (by decide +kernel) (by decide +kernel)
    · exact mem_g 303 (by decide +kernel) (by decide +kernel)
  intro w hw
  unfold u_ws at hw
  obtain ⟨k, hk, rfl⟩ := List.mem_map.mp hw
  exact h k (List.mem_range.mp hk)
theorem inX4 : ∀ w ∈ u_ws RX4 TX4 13, w ∈ lw_g := by
  have h : ∀ k, k < 13 → u_lay RX4 TX4 k ∈ lw_g := by
    intro k hk
    rcases (show k = 0 ∨ k = 1 ∨ k = 2 ∨ k = 3 ∨ k = 4 ∨ k = 5 ∨ k = 6 ∨ k = 7 ∨ k = 8 ∨ k = 9 ∨ k = 10 ∨ k = 11 ∨ k = 12 by omega) with rfl | rfl | rfl | rfl | rfl | rfl | rfl | rfl | rfl | rfl | rfl | rfl | rfl
    · exact mem_g 217 (by decide +kernel) (by decide +kernel)
    · exact mem_g 219 (by decide +kernel) (by decide +kernel)
    · exact mem_g 221 (by decide +kernel) (by decide +kernel)
    · exact mem_g 223 (by decide +kernel) (by decide +kernel)
    · exact mem_g 225 (by decide +kernel) (by decide +kernel)
    · exact mem_g 227 (by decide +kernel) (by decide +kernel)
    · exact mem_g 229 (by decide +kernel) (by decide +kernel)
    · exact mem_g 231 (by decide +kernel) (by decide +kernel)
    · exact mem_g 233 (by decide +kernel) (by decide +kernel)
    · exact mem_g 235 (by decide +kernel) (by decide +kernel)
    · exact mem_g 237 (by decide +kernel) (by decide +kernel)
    · exact mem_g 239 (by decide +kernel) (by decide +kernel)
    · exact mem_g 241 (by decide +kernel) (by decide +kernel)
  intro w hw
  unfold u_ws at hw
  obtain ⟨k, hk, rfl⟩ := List.mem_map.mp hw
  exact h k (List.mem_range.mp hk)
theorem inX5 : ∀ w ∈ u_ws RX5 TX5 5, w ∈ lw_g := by
  have h : ∀ k, k < 5 → u_lay RX5 TX5 k ∈ lw_g := by
    intro k hk
    rcases (show k = 0 ∨ k = 1 ∨ k = 2 ∨ k = 3 ∨ k = 4 by omega) with rfl | rfl | rfl | rfl | rfl
    · exact mem_g 318 (by decide +kernel) (by decide +kernel)
    · exact mem_g 320 (by decide +kernel) (by decide +kernel)
    · exact mem_g 322 (by decide +kernel) (by decide +kernel)
    · exact mem_g 324 (by decide +kernel) (by decide +kernel)
    · exact mem_g 326 (by decide +kernel) (by decide +kernel)
  intro w hw
  unfold u_ws at hw
  obtain ⟨k, hk, rfl⟩ := List.mem_map.mp hw
  exact h k (List.mem_range.mp hk)
theorem inX6 : ∀ w ∈ u_ws RX6 TX6 4, w ∈ lw_g := by
  have h : ∀ k, k < 4 → u_lay RX6 TX6 k ∈ lw_g := by
    intro k hk
    rcases (show k = 0 ∨ k = 1 ∨ k = 2 ∨ k = 3 by omega) with rfl | rfl | rfl | rfl
    · exact mem_g 550 (by decide +kernel) (by decide +kernel)
    · exact mem_g 552 (by decide +kernel) (by decide +kernel)
    · exact mem_g 554 (by decide +kernel) (by decide +kernel)
    · exact mem_g 556 (by decide +kernel) (by decide +kernel)
  intro w hw
  unfold u_ws at hw
  obtain ⟨k, hk, rfl⟩ := List.mem_map.mp hw
  exact h k (List.mem_range.mp hk)
theorem inX7 : ∀ w ∈ u_ws RX7 TX7 12, w ∈ lw_g := by
  have h : ∀ k, k < 12 → u_lay RX7 TX7 k ∈ lw_g := by
    intro k hk
    rcases (show k = 0 ∨ k = 1 ∨ k = 2 ∨ k = 3 ∨ k = 4 ∨ k = 5 ∨ k = 6 ∨ k = 7 ∨ k = 8 ∨ k = 9 ∨ k = 10 ∨ k = 11 by omega) with rfl | rfl | rfl | rfl | rfl | rfl | rfl | rfl | rfl | rfl | rfl | rfl
    · exact mem_g 515 (by decide +kernel) (by decide +kernel)
    · exact mem_g 517 (by decide +kernel) (by decide +kernel)
    · exact mem_g 519 (by decide +kernel) (by decide +kernel)
    · exact mem_g 521 (by decide +kernel) (by decide +kernel)
    · exact mem_g 523 (by decide +kernel) (by decide +kernel)
    · exact mem_g 525 (by decide +kernel) (by decide +kernel)
    · exact mem_g 527 (by decide +kernel) (by decide +kernel)
    · exact mem_g 529 (by decide +kernel) (by decide +kernel)
    · exact mem_g 531 (by decide +kernel) (by decide +kernel)
    · exact mem_g 533 (by decide +kernel) (by decide +kernel)
    · exact mem_g 535 (by decide +kernel) (by decide +kernel)
    · exact mem_g 537 (by decide +kernel) (by decide +kernel)
  intro w hw
  unfold u_ws at hw
  obtain ⟨k, hk, rfl⟩ := List.mem_map.mp hw
  exact h k (List.mem_range.mp hk)
theorem inX8 : ∀ w ∈ u_ws RX8 TX8 4, w ∈ lw_g := by
  have h : ∀ k, k < 4 → u_lay RX8 TX8 k ∈ lw_g := by
    intro k hk
    rcases (show k = 0 ∨ k = 1 ∨ k = 2 ∨ k = 3 by omega) with rfl | rfl | rfl | rfl
    · exact mem_g 1501 (by decide +kernel) (by decide +kernel)
    · exact mem_g 1503 (by decide +kernel) (by decide +kernel)
    · exact mem_g 1505 (by decide +kernel) (by decide +kernel)
    · exact mem_g 1507 (by decide +kernel) (by decide +kernel)
  intro w hw
  unfold u_ws at hw
  obtain ⟨k, hk, rfl⟩ := List.mem_map.mp hw
  exact h k (List.mem_range.mp hk)
theorem inX9 : ∀ w ∈ u_ws RX9 TX9 4, w ∈ lw_g := by
  have h : ∀ k, k < 4 → u_lay RX9 TX9 k ∈ lw_g := by
    intro k hk
    rcases (show k = 0 ∨ k = 1 ∨ k = 2 ∨ k = 3 by omega) with rfl | rfl | rfl | rfl
    · exact mem_g 487 (by decide +kernel) (by decide +kernel)
    · exact mem_g 489 (by decide +kernel) (by decide +kernel)
    · exact mem_g 491 (by decide +kernel) (by decide +kernel)
    · exact mem_g 493 (by decide +kernel) (by decide +kernel)
  intro w hw
  unfold u_ws at hw
  obtain ⟨k, hk, rfl⟩ := List.mem_map.mp hw
  exact h k (List.mem_range.mp hk)
theorem inX10 : ∀ w ∈ u_ws RX10 TX10 18, w ∈ lw_g := by
  have h : ∀ k, k < 18 → u_lay RX10 TX10 k ∈ lw_g := by
    intro k hk
    rcases (show k = 0 ∨ k = 1 ∨ k = 2 ∨ k = 3 ∨ k = 4 ∨ k = 5 ∨ k = 6 ∨ k = 7 ∨ k = 8 ∨ k = 9 ∨ k = 10 ∨ k = 11 ∨ k = 12 ∨ k = 13 ∨ k = 14 ∨ k = 15 ∨ k = 16 ∨ k = 17 by omega) with rfl | rfl | rfl | rfl | rfl | rfl | rfl | rfl | rfl | rfl | rfl | rfl | rfl | rfl | rfl | rfl | rfl | rfl
    · exact mem_g 439 (by decide +kernel) (by decide +kernel)
    · exact mem_g 441 (by decide +kernel) (by decide +kernel)
    · exact mem_g 443 (by decide +kernel) (by decide +kernel)
    · exact mem_g 445 (by decide +kernel) (by decide +kernel)
    · exact mem_g 447 (by decide +kernel) (by decide +kernel)
    · exact mem_g 449 (by decide +kernel) (by decide +kernel)
    · exact mem_g 451 (by decide +kernel) (by decide +kernel)
    · exact mem_g 453 (by decide +kernel) (by decide +kernel)
    · exact mem_g 455 (by decide +kernel) (by decide +kernel)
    · exact mem_g 457 (by decide +kernel) (by decide +kernel)
    · exact mem_g 459 (by decide +kernel) (by decide +kernel)
    · exact mem_g 461 (by decide +kernel) (by decide +kernel)
    · exact mem_g 463 (by decide +kernel) (by decide +kernel)
    · exact mem_g 465 (by decide +kernel) (by decide +kernel)
    · exact mem_g 467 (by decide +kernel) (by decide +kernel)
    · exact mem_g 469 (by decide +kernel) (by decide +kernel)
    · exact mem_g 471 (by decide +kernel) (by decide +kernel)
    · exact mem_g 473 (by decide +kernel) (by decide +kernel)
  intro w hw
  unfold u_ws at hw
  obtain ⟨k, hk, rfl⟩ := List.mem_map.mp hw
  exact h k (List.mem_range.mp hk)
theorem inX11 : ∀ w ∈ u_ws RX11 TX11 18, w ∈ lw_g := by
  have h : ∀ k, k < 18 → u_lay RX11 TX11 k ∈ lw_g := by
    intro k hk
    rcases (show k = 0 ∨ k = 1 ∨ k = 2 ∨ k = 3 ∨ k = 4 ∨ k = 5 ∨ k = 6 ∨ k = 7 ∨ k = 8 ∨ k = 9 ∨ k = 10 ∨ k = 11 ∨ k = 12 ∨ k = 13 ∨ k = 14 ∨ k = 15 ∨ k = 16 ∨ k = 17 by omega) with rfl | rfl | rfl | rfl | rfl | rfl | rfl | rfl | rfl | rfl | rfl | rfl | rfl | rfl | rfl | rfl | rfl | rfl
    · exact mem_g 577 (by decide +kernel) (by decide +kernel)
    · exact mem_g 579 (by decide +kernel) (by decide +kernel)
    · exact mem_g 581 (by decide +kernel) (by decide +kernel)
    · exact mem_g 583 (by decide +kernel) (by decide +kernel)
    · exact mem_g 585 (by decide +kernel) (by decide +kernel)
    · exact mem_g 587 (by decide +kernel) (by decide +kernel)
    · exact mem_g 589 (by decide +kernel) (by decide +kernel)
    · exact mem_g 591 (by decide +kernel) (by decide +kernel)
    · exact mem_g 593 (by decide +kernel) (by decide +kernel)
    · exact mem_g 595 (by decide +kernel) (by decide +kernel)
    · exact mem_g 597 (by decide +kernel) (by decide +kernel)
    · exact mem_g 599 (by decide +kernel) (by decide +kernel)
    · exact mem_g 601 (by decide +kernel) (by decide +kernel)
    · exact mem_g 603 (by decide +kernel) (by decide +kernel)
    · exact mem_g 605 (by decide +kernel) (by decide +kernel)
    · exact mem_g 607 (by decide +kernel) (by decide +kernel)
    · exact mem_g 609 (by decide +kernel) (by decide +kernel)
    · exact mem_g 611 (by decide +kernel) (by decide +kernel)
  intro w hw
  unfold u_ws at hw
  obtain ⟨k, hk, rfl⟩ := List.mem_map.mp hw
  exact h k (List.mem_range.mp hk)
theorem inX12 : ∀ w ∈ u_ws RX12 TX12 34, w ∈ lw_g := by
  have h : ∀ k, k < 34 → u_lay RX12 TX12 k ∈ lw_g := by
    intro k hk
    rcases (show k = 0 ∨ k = 1 ∨ k = 2 ∨ k = 3 ∨ k = 4 ∨ k = 5 ∨ k = 6 ∨ k = 7 ∨ k = 8 ∨ k = 9 ∨ k = 10 ∨ k = 11 ∨ k = 12 ∨ k = 13 ∨ k = 14 ∨ k = 15 ∨ k = 16 ∨ k = 17 ∨ k = 18 ∨ k = 19 ∨ k = 20 ∨ k = 21 ∨ k = 22 ∨ k = 23 ∨ k = 24 ∨ k = 25 ∨ k = 26 ∨ k = 27 ∨ k = 28 ∨ k = 29 ∨ k = 30 ∨ k = 31 ∨ k = 32 ∨ k = 33 by omega) with rfl | rfl | rfl | rfl | rfl | rfl | rfl | rfl | rfl | rfl | rfl | rfl | rfl | rfl | rfl | rfl | rfl | rfl | rfl | rfl | rfl | rfl | rfl | rfl | rfl | rfl | rfl | rfl | rfl | rfl | rfl | rfl | rfl | rfl
    · exact mem_g 1944 (by decide +kernel) (by decide +kernel)
    · exact mem_g 1946 (by decide +kernel) (by decide +kernel)
    · exact mem_g 1948 (by decide +kernel) (by decide +kernel)
    · exact mem_g 1950 (by decide +kernel) (by decide +kernel)
    · exact mem_g 1952 (by decide +kernel) (by decide +kernel)
    · exact mem_g 1954 (by decide +kernel) (by decide +kernel)
    · exact mem_g 1956 (by decide +kernel) (by decide +kernel)
    · exact mem_g 1958 (by decide +kernel) (by decide +kernel)
    · exact mem_g 1960 (by decide +kernel) (by decide +kernel)
    · exact mem_g 1962 (by decide +kernel) (by decide +kernel)
    · exact mem_g 1964 (by decide +kernel) (by decide +kernel)
    · exact mem_g 1966 (by decide +kernel) (by decide +kernel)
    · exact mem_g 1968 (by decide +kernel) (by decide +kernel)
    · exact mem_g 1970 (by decide +kernel) (by decide +kernel)
    · exact mem_g 1972 (by decide +kernel) (by decide +kernel)
    · exact mem_g 1974 (by decide +kernel) (by decide +kernel)
    · exact mem_g 1976 (by decide +kernel) (by decide +kernel)
    · exact mem_g 1978 (by decide +kernel) (by decide +kernel)
    · exact mem_g 1980 (by decide +kernel) (by decide +kernel)
    · exact mem_g 1982 (by decide +kernel) (by decide +kernel)
    · exact mem_g 1984 (by decide +kernel) (by decide +kernel)
    · exact mem_g 1986 (by decide +kernel) (by decide +kernel)
    · exact mem_g 1988 (by decide +kernel) (by decide +kernel)
    · exact mem_g 1990 (by decide +kernel) (by decide +kernel)
    · exact mem_g 1992 (by decide +kernel) (by decide +kernel)
    · exact mem_g 1994 (by decide +kernel) (by decide +kernel)
    · exact mem_g 1996 (by decide +kernel) (by decide +kernel)
    · exact mem_g 1998 (by decide +kernel) (by decide +kernel)
    · exact mem_g 2000 (by decide +kernel) (by decide +kernel)
    · exact mem_g 2002 (by decide +kernel) (by decide +kernel)
    · exact mem_g 2004 (by decide +kernel) (by decide +kernel)
    · exact mem_g 2006 (by decide +kernel) (by decide +kernel)
    · exact mem_g 2008 (by decide +kernel) (by decide +kernel)
    · exact mem_g 2010 (by decide +kernel) (by decide +kernel)
  intro w hw
  unfold u_ws at hw
  obtain ⟨k, hk, rfl⟩ := List.mem_map.mp hw
  exact h k (List.mem_range.mp hk)
abbrev cl0 : List vw_C := [(RX0, TX0, 3), (RX1, TX1, 6), (RX2, TX2, 12), (RX3, TX3, 15), (RX4, TX4, 13), (RX5, TX5, 5), (RX6, TX6, 4), (RX7, TX7, 12), (RX8, TX8, 4), (RX9, TX9, 4), (RX10, TX10, 18), (RX11, TX11, 18), (RX12, TX12, 34)]
/-- what a class's table says, all together -/
def CLok (ci : Nat) (C : String) (T : u_T) (N : Nat) (ty0 : Nat → FieldType) : Prop := cl0[ci]? = some (C, T, N) ∧ (∀ w ∈ u_ws C T N, w ∈ lw_g) ∧ (∀ k, k < N → parseFieldDescriptor (T k).2.2.1 = some (ty0 k)) ∧ (∀ a, a < N → ∀ b, b < N → a ≠ b → (T a).2.1 ≠ (T b).2.1)
theorem cl_0 : CLok 0 RX0 TX0 3 tyX0 := ⟨rfl, inX0, tyX0_ok, nmX0⟩
theorem cl_1 : CLok 1 RX1 TX1 6 tyX1 := ⟨rfl, inX1, tyX1_ok, nmX1⟩
theorem cl_2 : CLok 2 RX2 TX2 12 tyX2 := ⟨rfl, inX2, tyX2_ok, nmX2⟩
theorem cl_3 : CLok 3 RX3 TX3 15 tyX3 := ⟨rfl, inX3, tyX3_ok, nmX3⟩
theorem cl_4 : CLok 4 RX4 TX4 13 tyX4 := ⟨rfl, inX4, tyX4_ok, nmX4⟩
theorem cl_5 : CLok 5 RX5 TX5 5 tyX5 := ⟨rfl, inX5, tyX5_ok, nmX5⟩
theorem cl_6 : CLok 6 RX6 TX6 4 tyX6 := ⟨rfl, inX6, tyX6_ok, nmX6⟩
theorem cl_7 : CLok 7 RX7 TX7 12 tyX7 := ⟨rfl, inX7, tyX7_ok, nmX7⟩
theorem cl_8 : CLok 8 RX8 TX8 4 tyX8 := ⟨rfl, inX8, tyX8_ok, nmX8⟩
theorem cl_9 : CLok 9 RX9 TX9 4 tyX9 := ⟨rfl, inX9, tyX9_ok, nmX9⟩
theorem cl_10 : CLok 10 RX10 TX10 18 tyX10 := ⟨rfl, inX10, tyX10_ok, nmX10⟩
theorem cl_11 : CLok 11 RX11 TX11 18 tyX11 := ⟨rfl, inX11, tyX11_ok, nmX11⟩
theorem cl_12 : CLok 12 RX12 TX12 34 tyX12 := ⟨rfl, inX12, tyX12_ok, nmX12⟩
/-! ===== the flat memory ===== -/
abbrev Mc : Type := Nat → Nat → Int32
abbrev Md : Type := Nat → Nat → Int64
def up (c : Mc) (k : Nat) (f : Nat → Int32) : Mc := fun a => if a = k then f else c a
def upd8 (d : Md) (k : Nat) (f : Nat → Int64) : Md := fun a => if a = k then f else d a
def wr (c : Mc) (k i : Nat) (v : Int32) : Mc := fun a j => if a = k ∧ j = i then v else c a j
def wrd (d : Md) (k i : Nat) (v : Int64) : Md := fun a j => if a = k ∧ j = i then v else d a j
theorem wr_up (c : Mc) (k i : Nat) (v : Int32) : up c k (upd (c k) i v) = wr c k i v := by
  funext a j
  unfold up wr upd
  by_cases h : a = k
  · subst h
    simp
  · simp [h]
theorem wrd_up (d : Md) (k i : Nat) (v : Int64) : upd8 d k (fun j => if j = i then v else d k j) = wrd d k i v := by
  funext a j
  unfold upd8 wrd
  by_cases h : a = k
  · subst h
    simp
  · simp [h]
/-- the fields of an object, by its list of kinds: 0 an int, 1 a long, 2 + k the cell k -/
def kF (σ : Nat → Nat) (f : Nat → Int32) (g : Nat → Int64) : Nat → List Nat → List Value
  | _, [] => []
  | j, t :: l => (match t with | 0 => Value.int (f j) | 1 => Value.long (g j) | n + 2 => Value.ref (σ n)) :: kF σ f g (j + 1) l
def kV (σ : Nat → Nat) (f : Nat → Int32) (g : Nat → Int64) (j t : Nat) : Value := match t with | 0 => Value.int (f j) | 1 => Value.long (g j) | n + 2 => Value.ref (σ n)
theorem kF_get (σ : Nat → Nat) (f : Nat → Int32) (g : Nat → Int64) : ∀ (l : List Nat) (b j : Nat) (t : Nat), l[j]? = some t → (kF σ f g b l)[j]? = some (kV σ f g (b + j) t)
  | [], b, j, t, h => by simp at h
  | x :: l, b, 0, t, h => by
    simp at h
    subst h
    rfl
  | x :: l, b, j + 1, t, h => by
    simp at h
    have := kF_get σ f g l (b + 1) j t h
    simp only [kF, List.getElem?_cons_succ]
    rw [this]
    congr 2
    omega
theorem kF_len (σ : Nat → Nat) (f : Nat → Int32) (g : Nat → Int64) : ∀ (l : List Nat) (b : Nat), (kF σ f g b l).length = l.length
  | [], b => rfl
  | x :: l, b => by simp [kF, kF_len σ f g l (b + 1)]
theorem kF_set (σ : Nat → Nat) (f : Nat → Int32) (g : Nat → Int64) (j : Nat) (v : Int32) {l : List Nat} (h : l[j]? = some 0) : (kF σ f g 0 l).set j (.int v) = kF σ (upd f j v) g 0 l := by
  apply List.ext_getElem?
  intro i
  have hj : j < (kF σ f g 0 l).length := by rw [kF_len]; exact (List.getElem?_eq_some_iff.mp h).1
  by_cases hi : i = j
  · subst hi
    rw [List.getElem?_set_self hj, kF_get σ _ g l 0 i 0 h]
    simp [kV, upd]
  · rw [List.getElem?_set_ne (Ne.symm hi)]
    cases ht : l[i]? with
    | none =>
      have hn : l.length ≤ i := by simpa using ht
      rw [List.getElem?_eq_none (by rw [kF_len]; exact hn), List.getElem?_eq_none (by rw [kF_len]; exact hn)]
    | some t =>
      rw [kF_get σ f g l 0 i t ht, kF_get σ _ g l 0 i t ht]
      simp only [kV, upd, Nat.zero_add, if_neg hi]
theorem kF_setd (σ : Nat → Nat) (f : Nat → Int32) (g : Nat → Int64) (j : Nat) (v : Int64) {l : List Nat} (h : l[j]? = some 1) : (kF σ f g 0 l).set j (.long v) = kF σ f (fun i => if i = j then v else g i) 0 l := by
  apply List.ext_getElem?
  intro i
  have hj : j < (kF σ f g 0 l).length := by rw [kF_len]; exact (List.getElem?_eq_some_iff.mp h).1
  by_cases hi : i = j
  · subst hi
    rw [List.getElem?_set_self hj, kF_get σ f _ l 0 i 1 h]
    simp [kV]
  · rw [List.getElem?_set_ne (Ne.symm hi)]
    cases ht : l[i]? with
    | none =>
      have hn : l.length ≤ i := by simpa using ht
      rw [List.getElem?_eq_none (by rw [kF_len]; exact hn), List.getElem?_eq_none (by rw [kF_len]; exact hn)]
    | some t =>
      rw [kF_get σ f g l 0 i t ht, kF_get σ f _ l 0 i t ht]
      simp only [kV, Nat.zero_add, if_neg hi]
abbrev xK : Type := Nat × Nat × List Nat
/-- a cell: 100 int[], 101 boolean[], 102 byte[], 103 long[], 104 int[][] (its rows behind it), 105 the book, 106 int[] of a length that it tells itself, 107 no cell; else an object of that class -/
def kE (Y : Nat → ClassId) (σ : Nat → Nat) (t : xK) (k : Nat) (f : Nat → Int32) (g : Nat → Int64) : va_E :=
  if t.1 = 100 then .inl (Y 0, t.2.1, .inl f) else
  if t.1 = 101 then .inl (Y 1, t.2.1, .inl f) else
  if t.1 = 102 then .inl (Y 2, t.2.1, .inl f) else
  if t.1 = 103 then .inl (Y 3, t.2.1, .inr (.inl g)) else
  if t.1 = 104 then .inl (Y 4, t.2.1, .inr (.inr (.inr (.inr (fun j => some (σ (k + 1 + j))))))) else
  if t.1 = 105 then .inl (Y 5, t.2.1, .inr (.inr (.inr (.inr (fun j => if f j = 0 then none else some (σ (f j).toNatClampNeg)))))) else
  if t.1 = 106 then .inl (Y 0, (f 2147483648).toNatClampNeg, .inl f) else
  .inr (t.1, kF σ f g 0 t.2.2)
def tysOf (Y : Nat → ClassId) : List (ClassId × FieldType) := [(Y 0, .int), (Y 1, .boolean), (Y 2, .byte), (Y 3, .long), (Y 4, .array .int), (Y 5, .object "SettlerColony$Statute")]
def kdL : List xK := [(11, 0, [3, 18, 19, 66, 113, 116, 123, 125, 0, 0, 0, 0, 0, 126, 0, 127, 0, 128]), (0, 0, [4, 9, 10]), (104, 4, []), (100, 1000, []), (100, 1000, []), (100, 1000, []), (100, 1000, []), (100, 4, []), (104, 7, []), (100, 1000, []), (100, 1000, []), (100, 1000, []), (100, 1000, []), (100, 1000, []), (100, 1000, []), (100, 1000, []), (105, 12, []), (10, 0, [3, 20, 34, 46, 51, 56, 0, 0, 0, 0, 0, 0, 0, 0, 0, 0, 0, 0]), (4, 0, [21, 23, 24, 25, 26, 27, 28, 29, 30, 0, 31, 32, 33]), (100, 96, []), (107, 0, []), (100, 96, []), (100, 96, []), (100, 96, []), (100, 96, []), (100, 96, []), (101, 96, []), (100, 96, []), (100, 96, []), (100, 4, []), (100, 4, []), (100, 4, []), (3, 0, [0, 0, 0, 0, 35, 36, 37, 38, 39, 40, 41, 42, 43, 44, 45]), (100, 100, []), (100, 100, []), (100, 100, []), (100, 100, []), (100, 100, []), (100, 100, []), (100, 100, []), (100, 100, []), (101, 100, []), (100, 100, []), (100, 100, []), (5, 0, [0, 47, 48, 49, 50]), (100, 4, []), (100, 4, []), (100, 4, []), (100, 48, []), (1, 0, [0, 0, 52, 53, 54, 55]), (100, 20, []), (100, 20, []), (100, 20, []), (100, 20, []), (2, 0, [18, 0, 0, 57, 58, 59, 60, 61, 62, 63, 64, 65]), (100, 12, []), (100, 12, []), (100, 12, []), (100, 12, []), (100, 12, []), (100, 12, []), (101, 1200, []), (100, 5, []), (100, 300, []), (10, 0, [3, 67, 81, 93, 98, 103, 0, 0, 0, 0, 0, 0, 0, 0, 0, 0, 0, 0]), (4, 0, [68, 70, 71, 72, 73, 74, 75, 76, 77, 0, 78, 79, 80]), (100, 96, []), (107, 0, []), (100, 96, []), (100, 96, []), (100, 96, []), (100, 96, []), (100, 96, []), (101, 96, []), (100, 96, []), (100, 96, []), (100, 4, []), (100, 4, []), (100, 4, []), (3, 0, [0, 0, 0, 0, 82, 83, 84, 85, 86, 87, 88, 89, 90, 91, 92]), (100, 100, []), (100, 100, []), (100, 100, []), (100, 100, []), (100, 100, []), (100, 100, []), (100, 100, []), (100, 100, []), (101, 100, []), (100, 100, []), (100, 100, []), (5, 0, [0, 94, 95, 96, 97]), (100, 4, []), (100, 4, []), (100, 4, []), (100, 48, []), (1, 0, [0, 0, 99, 100, 101, 102]), (100, 20, []), (100, 20, []), (100, 20, []), (100, 20, []), (2, 0, [18, 0, 0, 104, 105, 106, 107, 108, 109, 110, 111, 112]), (100, 12, []), (100, 12, []), (100, 12, []), (100, 12, []), (100, 12, []), (100, 12, []), (101, 1200, []), (100, 5, []), (100, 300, []), (9, 0, [114, 115, 0, 0]), (100, 12, []), (100, 12, []), (7, 0, [117, 118, 119, 0, 0, 0, 0, 120, 0, 121, 122, 0]), (100, 301, []), (100, 301, []), (100, 301, []), (100, 300, []), (100, 8, []), (100, 8, []), (6, 0, [124, 0, 1, 1]), (100, 196, []), (100, 300, []), (100, 3, []), (100, 3, []), (100, 4, []), (12, 0, [0, 130, 131, 132, 133, 134, 135, 0, 136, 0, 0, 0, 0, 0, 0, 0, 0, 137, 138, 139, 140, 141, 142, 0, 0, 143, 144, 145, 0, 0, 146, 0, 1, 1]), (100, 2132, []), (100, 2132, []), (100, 96, []), (101, 96, []), (100, 4000, []), (100, 4, []), (102, 300, []), (100, 4800, []), (100, 4800, []), (100, 96, []), (101, 12, []), (101, 1200, []), (100, 400, []), (100, 7007, []), (100, 3, []), (100, 3, []), (100, 196, []), (103, 1, [])]
/-- the cells of the world, in the order in which they are made; then four for each law -/
def kd (k : Nat) : xK := if k < 146 then kdL.getD k (100, 0, []) else match (k - 146) % 4 with
  | 0 => (8, 0, [2 + (k + 1), 2 + (k + 2), 2 + (k + 3), 0])
  | 1 => (106, 0, [])
  | _ => (100, 8, [])
/-- the numbers that no cell bears (two), and the others counted: ix the place in the list, rx back -/
def ph (k : Nat) : Bool := k == 20 || k == 67
def ix (k : Nat) : Nat := if k ≤ 20 then k else if k ≤ 67 then k - 1 else k - 2
def rx (i : Nat) : Nat := if i < 20 then i else if i < 66 then i + 1 else i + 2
abbrev Kn (k np : Nat) : Prop := k < np ∧ ph k = false
theorem ph_f {k : Nat} (h : ph k = false) : k ≠ 20 ∧ k ≠ 67 := by
  constructor <;> (rintro rfl; revert h; decide)
theorem ph_t {k : Nat} (h1 : k ≠ 20) (h2 : k ≠ 67) : ph k = false := by simp [ph, h1, h2]
theorem ix_cs (k : Nat) : (k ≤ 20 ∧ ix k = k) ∨ (20 < k ∧ k ≤ 67 ∧ ix k = k - 1) ∨ (67 < k ∧ ix k = k - 2) := by
  unfold ix
  by_cases h1 : k ≤ 20
  · exact Or.inl ⟨h1, if_pos h1⟩
  · rw [if_neg h1]
    by_cases h2 : k ≤ 67
    · exact Or.inr (Or.inl ⟨by omega, h2, if_pos h2⟩)
    · exact Or.inr (Or.inr ⟨by omega, if_neg h2⟩)
theorem rx_cs (i : Nat) : (i < 20 ∧ rx i = i) ∨ (20 ≤ i ∧ i < 66 ∧ rx i = i + 1) ∨ (66 ≤ i ∧ rx i = i + 2) := by
  unfold rx
  by_cases h1 : i < 20
  · exact Or.inl ⟨h1, if_pos h1⟩
  · rw [if_neg h1]
    by_cases h2 : i < 66
    · exact Or.inr (Or.inl ⟨by omega, h2, if_pos h2⟩)
    · exact Or.inr (Or.inr ⟨by omega, if_neg h2⟩)
theorem rx_ix {k : Nat} (h : ph k = false) : rx (ix k) = k := by
  have := ph_f h
  have := ix_cs k
  have := rx_cs (ix k)
  omega
theorem ix_rx (i : Nat) : ix (rx i) = i := by
  have := rx_cs i
  have := ix_cs (rx i)
  omega
theorem ph_rx (i : Nat) : ph (rx i) = false := by
  have := rx_cs i
  exact ph_t (by omega) (by omega)
theorem ix_lt {k np : Nat} (h : Kn k np) : ix k < ix np := by
  have := ph_f h.2
  have := h.1
  have := ix_cs k
  have := ix_cs np
  omega
theorem rx_lt {i np : Nat} (h : i < ix np) : rx i < np := by
  have := rx_cs i
  have := ix_cs np
  omega
theorem rx_ne {i k : Nat} (h : i ≠ ix k) : rx i ≠ k := by
  rintro rfl
  exact h (ix_rx i).symm
theorem kn_of {k np t n : Nat} {l : List Nat} (h : k < np ∧ kd k = (t, n, l)) (ht : t ≠ 107) : Kn k np := by
  refine ⟨h.1, ph_t ?_ ?_⟩
  · rintro rfl
    have h2 := h.2
    rw [show kd 20 = (107, 0, []) from by decide +kernel] at h2
    exact ht (congrArg Prod.fst h2).symm
  · rintro rfl
    have h2 := h.2
    rw [show kd 67 = (107, 0, []) from by decide +kernel] at h2
    exact ht (congrArg Prod.fst h2).symm
def Wl (Y : Nat → ClassId) (σ : Nat → Nat) (np : Nat) (c : Mc) (d : Md) : va_W := (List.range (ix np)).map (fun i => (σ (rx i), kE Y σ (kd (rx i)) (rx i) (c (rx i)) (d (rx i))))
theorem wl_at {Y : Nat → ClassId} {σ : Nat → Nat} {np : Nat} {c : Mc} {d : Md} {k : Nat} (h : Kn k np) : (Wl Y σ np c d)[ix k]? = some (σ k, kE Y σ (kd k) k (c k) (d k)) := by
  unfold Wl
  rw [List.getElem?_map, List.getElem?_range (ix_lt h)]
  show some (σ (rx (ix k)), kE Y σ (kd (rx (ix k))) (rx (ix k)) (c (rx (ix k))) (d (rx (ix k)))) = _
  rw [rx_ix h.2]
theorem wl_ai {Y : Nat → ClassId} {σ : Nat → Nat} {np : Nat} {c : Mc} {d : Md} {i : Nat} (h : i < ix np) : (Wl Y σ np c d)[i]? = some (σ (rx i), kE Y σ (kd (rx i)) (rx i) (c (rx i)) (d (rx i))) := by
  unfold Wl
  rw [List.getElem?_map, List.getElem?_range h]
  rfl
theorem wl_len {Y : Nat → ClassId} {σ : Nat → Nat} {np : Nat} {c : Mc} {d : Md} : (Wl Y σ np c d).length = ix np := by simp [Wl]
theorem wl_set {Y : Nat → ClassId} {σ : Nat → Nat} {np : Nat} {c : Mc} {d : Md} {k : Nat} {f : Nat → Int32} (h : Kn k np) : (Wl Y σ np c d).set (ix k) (σ k, kE Y σ (kd k) k f (d k)) = Wl Y σ np (up c k f) d := by
  apply List.ext_getElem?
  intro i
  by_cases hi : i = ix k
  · subst hi
    rw [List.getElem?_set_self (by rw [wl_len]; exact ix_lt h), wl_at h]
    simp [up]
  · rw [List.getElem?_set_ne (Ne.symm hi)]
    by_cases hn : i < ix np
    · rw [wl_ai hn, wl_ai hn]
      simp [up, rx_ne hi]
    · rw [List.getElem?_eq_none (by rw [wl_len]; omega), List.getElem?_eq_none (by rw [wl_len]; omega)]
theorem wl_setd {Y : Nat → ClassId} {σ : Nat → Nat} {np : Nat} {c : Mc} {d : Md} {k : Nat} {g : Nat → Int64} (h : Kn k np) : (Wl Y σ np c d).set (ix k) (σ k, kE Y σ (kd k) k (c k) g) = Wl Y σ np c (upd8 d k g) := by
  apply List.ext_getElem?
  intro i
  by_cases hi : i = ix k
  · subst hi
    rw [List.getElem?_set_self (by rw [wl_len]; exact ix_lt h), wl_at h]
    simp [upd8]
  · rw [List.getElem?_set_ne (Ne.symm hi)]
    by_cases hn : i < ix np
    · rw [wl_ai hn, wl_ai hn]
      simp [upd8, rx_ne hi]
    · rw [List.getElem?_eq_none (by rw [wl_len]; omega), List.getElem?_eq_none (by rw [wl_len]; omega)]
/-- a place of the list is a cell's -/
theorem wl_key {Y : Nat → ClassId} {σ : Nat → Nat} {np : Nat} {c : Mc} {d : Md} {i : Nat} {q : Nat × va_E} (h : (Wl Y σ np c d)[i]? = some q) : ∃ k, Kn k np ∧ i = ix k ∧ q = (σ k, kE Y σ (kd k) k (c k) (d k)) := by
  have hl : i < ix np := by
    have := (List.getElem?_eq_some_iff.mp h).1
    rwa [wl_len] at this
  rw [wl_ai hl] at h
  exact ⟨rx i, ⟨rx_lt hl, ph_rx i⟩, (ix_rx i).symm, (Option.some.inj h).symm⟩
def OkS (b0 : Nat) (σ : Nat → Nat) (np : Nat) : Prop := (∀ i j, Kn i np → Kn j np → σ i = σ j → i = j) ∧ ∀ i, i < np → b0 ≤ σ i
def xA (b0 : Nat) : Nat → Prop := fun q => b0 ≤ q
theorem wl_D {Y : Nat → ClassId} {σ : Nat → Nat} {np b0 : Nat} {c : Mc} {d : Md} (h : OkS b0 σ np) : va_D (xA b0) (Wl Y σ np c d) := by
  refine ⟨fun i j p q hi hj hpq => ?_, fun i q hq => ?_⟩
  · obtain ⟨k1, h1, rfl, rfl⟩ := wl_key hi
    obtain ⟨k2, h2, rfl, rfl⟩ := wl_key hj
    rw [h.1 k1 k2 h1 h2 hpq]
  · obtain ⟨k1, h1, rfl, rfl⟩ := wl_key hq
    exact h.2 k1 h1.1
/-- a law's cells: the statute, then its three rows -/
def isStat (np r : Nat) : Prop := 146 ≤ r ∧ r + 3 < np ∧ (r - 146) % 4 = 0
def Bk (np : Nat) (c : Mc) : Prop := ∀ i : Nat, i < 12 → c 16 i = 0 ∨ isStat np (c 16 i).toNatClampNeg
theorem bk_wr {np : Nat} {c : Mc} (h : Bk np c) {k i : Nat} {v : Int32} (hk : k ≠ 16) : Bk np (wr c k i v) := by
  intro j hj
  have e : (wr c k i v) 16 j = c 16 j := by
    unfold wr
    rw [if_neg (fun q => hk q.1.symm)]
  rw [e]
  exact h j hj

