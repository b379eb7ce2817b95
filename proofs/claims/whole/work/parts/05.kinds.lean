abbrev is10 (g : Nat) : Prop := g = 17 ∨ g = 64
theorem hI_17 : is10 17 := Or.inl rfl
theorem hI_64 : is10 64 := Or.inr rfl
theorem kO_10 {g : Nat} (h : is10 g) : g < 146 ∧ kd g = (10, 0, [2 + 1, 2 + (g + 1), 2 + (g + 15), 2 + (g + 27), 2 + (g + 32), 2 + (g + 37), 0, 0, 0, 0, 0, 0, 0, 0, 0, 0, 0, 0]) := by rcases h with rfl | rfl <;> exact ⟨by decide, by decide +kernel⟩
abbrev is4 (g : Nat) : Prop := g = 18 ∨ g = 65
theorem hI_18 : is4 18 := Or.inl rfl
theorem hI_65 : is4 65 := Or.inr rfl
theorem kO_4 {g : Nat} (h : is4 g) : g < 146 ∧ kd g = (4, 0, [2 + (g + 1), 2 + (g + 3), 2 + (g + 4), 2 + (g + 5), 2 + (g + 6), 2 + (g + 7), 2 + (g + 8), 2 + (g + 9), 2 + (g + 10), 0, 2 + (g + 11), 2 + (g + 12), 2 + (g + 13)]) := by rcases h with rfl | rfl <;> exact ⟨by decide, by decide +kernel⟩
abbrev is3 (g : Nat) : Prop := g = 32 ∨ g = 79
theorem hI_32 : is3 32 := Or.inl rfl
theorem hI_79 : is3 79 := Or.inr rfl
theorem kO_3 {g : Nat} (h : is3 g) : g < 146 ∧ kd g = (3, 0, [0, 0, 0, 0, 2 + (g + 1), 2 + (g + 2), 2 + (g + 3), 2 + (g + 4), 2 + (g + 5), 2 + (g + 6), 2 + (g + 7), 2 + (g + 8), 2 + (g + 9), 2 + (g + 10), 2 + (g + 11)]) := by rcases h with rfl | rfl <;> exact ⟨by decide, by decide +kernel⟩
abbrev is5 (g : Nat) : Prop := g = 44 ∨ g = 91
theorem hI_44 : is5 44 := Or.inl rfl
theorem hI_91 : is5 91 := Or.inr rfl
theorem kO_5 {g : Nat} (h : is5 g) : g < 146 ∧ kd g = (5, 0, [0, 2 + (g + 1), 2 + (g + 2), 2 + (g + 3), 2 + (g + 4)]) := by rcases h with rfl | rfl <;> exact ⟨by decide, by decide +kernel⟩
abbrev is1 (g : Nat) : Prop := g = 49 ∨ g = 96
theorem hI_49 : is1 49 := Or.inl rfl
theorem hI_96 : is1 96 := Or.inr rfl
theorem kO_1 {g : Nat} (h : is1 g) : g < 146 ∧ kd g = (1, 0, [0, 0, 2 + (g + 1), 2 + (g + 2), 2 + (g + 3), 2 + (g + 4)]) := by rcases h with rfl | rfl <;> exact ⟨by decide, by decide +kernel⟩
abbrev is2 (g : Nat) : Prop := g = 54 ∨ g = 101
theorem hI_54 : is2 54 := Or.inl rfl
theorem hI_101 : is2 101 := Or.inr rfl
theorem kO_2 {g : Nat} (h : is2 g) : g < 146 ∧ kd g = (2, 0, [2 + 16, 0, 0, 2 + (g + 1), 2 + (g + 2), 2 + (g + 3), 2 + (g + 4), 2 + (g + 5), 2 + (g + 6), 2 + (g + 7), 2 + (g + 8), 2 + (g + 9)]) := by rcases h with rfl | rfl <;> exact ⟨by decide, by decide +kernel⟩
theorem hL_10_1 {g : Nat} (h : is10 g) : is4 (g + 1) := by
  rcases h with rfl | rfl
  · exact Or.inl rfl
  · exact Or.inr rfl
theorem hL_10_2 {g : Nat} (h : is10 g) : is3 (g + 15) := by
  rcases h with rfl | rfl
  · exact Or.inl rfl
  · exact Or.inr rfl
theorem hL_10_3 {g : Nat} (h : is10 g) : is5 (g + 27) := by
  rcases h with rfl | rfl
  · exact Or.inl rfl
  · exact Or.inr rfl
theorem hL_10_4 {g : Nat} (h : is10 g) : is1 (g + 32) := by
  rcases h with rfl | rfl
  · exact Or.inl rfl
  · exact Or.inr rfl
theorem hL_10_5 {g : Nat} (h : is10 g) : is2 (g + 37) := by
  rcases h with rfl | rfl
  · exact Or.inl rfl
  · exact Or.inr rfl
theorem kB_4_0 {g : Nat} (h : is4 g) : (g + 1) < 146 ∧ kd (g + 1) = (100, 96, []) := by rcases h with rfl | rfl <;> exact ⟨by decide, by decide +kernel⟩
theorem kB_4_1 {g : Nat} (h : is4 g) : (g + 3) < 146 ∧ kd (g + 3) = (100, 96, []) := by rcases h with rfl | rfl <;> exact ⟨by decide, by decide +kernel⟩
theorem kB_4_2 {g : Nat} (h : is4 g) : (g + 4) < 146 ∧ kd (g + 4) = (100, 96, []) := by rcases h with rfl | rfl <;> exact ⟨by decide, by decide +kernel⟩
theorem kB_4_3 {g : Nat} (h : is4 g) : (g + 5) < 146 ∧ kd (g + 5) = (100, 96, []) := by rcases h with rfl | rfl <;> exact ⟨by decide, by decide +kernel⟩
theorem kB_4_4 {g : Nat} (h : is4 g) : (g + 6) < 146 ∧ kd (g + 6) = (100, 96, []) := by rcases h with rfl | rfl <;> exact ⟨by decide, by decide +kernel⟩
theorem kB_4_5 {g : Nat} (h : is4 g) : (g + 7) < 146 ∧ kd (g + 7) = (100, 96, []) := by rcases h with rfl | rfl <;> exact ⟨by decide, by decide +kernel⟩
theorem kB_4_6 {g : Nat} (h : is4 g) : (g + 8) < 146 ∧ kd (g + 8) = (101, 96, []) := by rcases h with rfl | rfl <;> exact ⟨by decide, by decide +kernel⟩
theorem kB_4_7 {g : Nat} (h : is4 g) : (g + 9) < 146 ∧ kd (g + 9) = (100, 96, []) := by rcases h with rfl | rfl <;> exact ⟨by decide, by decide +kernel⟩
theorem kB_4_8 {g : Nat} (h : is4 g) : (g + 10) < 146 ∧ kd (g + 10) = (100, 96, []) := by rcases h with rfl | rfl <;> exact ⟨by decide, by decide +kernel⟩
theorem kB_4_10 {g : Nat} (h : is4 g) : (g + 11) < 146 ∧ kd (g + 11) = (100, 4, []) := by rcases h with rfl | rfl <;> exact ⟨by decide, by decide +kernel⟩
theorem kB_4_11 {g : Nat} (h : is4 g) : (g + 12) < 146 ∧ kd (g + 12) = (100, 4, []) := by rcases h with rfl | rfl <;> exact ⟨by decide, by decide +kernel⟩
theorem kB_4_12 {g : Nat} (h : is4 g) : (g + 13) < 146 ∧ kd (g + 13) = (100, 4, []) := by rcases h with rfl | rfl <;> exact ⟨by decide, by decide +kernel⟩
theorem kB_3_4 {g : Nat} (h : is3 g) : (g + 1) < 146 ∧ kd (g + 1) = (100, 100, []) := by rcases h with rfl | rfl <;> exact ⟨by decide, by decide +kernel⟩
theorem kB_3_5 {g : Nat} (h : is3 g) : (g + 2) < 146 ∧ kd (g + 2) = (100, 100, []) := by rcases h with rfl | rfl <;> exact ⟨by decide, by decide +kernel⟩
theorem kB_3_6 {g : Nat} (h : is3 g) : (g + 3) < 146 ∧ kd (g + 3) = (100, 100, []) := by rcases h with rfl | rfl <;> exact ⟨by decide, by decide +kernel⟩
theorem kB_3_7 {g : Nat} (h : is3 g) : (g + 4) < 146 ∧ kd (g + 4) = (100, 100, []) := by rcases h with rfl | rfl <;> exact ⟨by decide, by decide +kernel⟩
theorem kB_3_8 {g : Nat} (h : is3 g) : (g + 5) < 146 ∧ kd (g + 5) = (100, 100, []) := by rcases h with rfl | rfl <;> exact ⟨by decide, by decide +kernel⟩
theorem kB_3_9 {g : Nat} (h : is3 g) : (g + 6) < 146 ∧ kd (g + 6) = (100, 100, []) := by rcases h with rfl | rfl <;> exact ⟨by decide, by decide +kernel⟩
theorem kB_3_10 {g : Nat} (h : is3 g) : (g + 7) < 146 ∧ kd (g + 7) = (100, 100, []) := by rcases h with rfl | rfl <;> exact ⟨by decide, by decide +kernel⟩
theorem kB_3_11 {g : Nat} (h : is3 g) : (g + 8) < 146 ∧ kd (g + 8) = (100, 100, []) := by rcases h with rfl | rfl <;> exact ⟨by decide, by decide +kernel⟩
theorem kB_3_12 {g : Nat} (h : is3 g) : (g + 9) < 146 ∧ kd (g + 9) = (101, 100, []) := by rcases h with rfl | rfl <;> exact ⟨by decide, by decide +kernel⟩
theorem kB_3_13 {g : Nat} (h : is3 g) : (g + 10) < 146 ∧ kd (g + 10) = (100, 100, []) := by rcases h with rfl | rfl <;> exact ⟨by decide, by decide +kernel⟩
theorem kB_3_14 {g : Nat} (h : is3 g) : (g + 11) < 146 ∧ kd (g + 11) = (100, 100, []) := by rcases h with rfl | rfl <;> exact ⟨by decide, by decide +kernel⟩
theorem kB_5_1 {g : Nat} (h : is5 g) : (g + 1) < 146 ∧ kd (g + 1) = (100, 4, []) := by rcases h with rfl | rfl <;> exact ⟨by decide, by decide +kernel⟩
theorem kB_5_2 {g : Nat} (h : is5 g) : (g + 2) < 146 ∧ kd (g + 2) = (100, 4, []) := by rcases h with rfl | rfl <;> exact ⟨by decide, by decide +kernel⟩
theorem kB_5_3 {g : Nat} (h : is5 g) : (g + 3) < 146 ∧ kd (g + 3) = (100, 4, []) := by rcases h with rfl | rfl <;> exact ⟨by decide, by decide +kernel⟩
theorem kB_5_4 {g : Nat} (h : is5 g) : (g + 4) < 146 ∧ kd (g + 4) = (100, 48, []) := by rcases h with rfl | rfl <;> exact ⟨by decide, by decide +kernel⟩
theorem kB_1_2 {g : Nat} (h : is1 g) : (g + 1) < 146 ∧ kd (g + 1) = (100, 20, []) := by rcases h with rfl | rfl <;> exact ⟨by decide, by decide +kernel⟩
theorem kB_1_3 {g : Nat} (h : is1 g) : (g + 2) < 146 ∧ kd (g + 2) = (100, 20, []) := by rcases h with rfl | rfl <;> exact ⟨by decide, by decide +kernel⟩
theorem kB_1_4 {g : Nat} (h : is1 g) : (g + 3) < 146 ∧ kd (g + 3) = (100, 20, []) := by rcases h with rfl | rfl <;> exact ⟨by decide, by decide +kernel⟩
theorem kB_1_5 {g : Nat} (h : is1 g) : (g + 4) < 146 ∧ kd (g + 4) = (100, 20, []) := by rcases h with rfl | rfl <;> exact ⟨by decide, by decide +kernel⟩
theorem kB_2_3 {g : Nat} (h : is2 g) : (g + 1) < 146 ∧ kd (g + 1) = (100, 12, []) := by rcases h with rfl | rfl <;> exact ⟨by decide, by decide +kernel⟩
theorem kB_2_4 {g : Nat} (h : is2 g) : (g + 2) < 146 ∧ kd (g + 2) = (100, 12, []) := by rcases h with rfl | rfl <;> exact ⟨by decide, by decide +kernel⟩
theorem kB_2_5 {g : Nat} (h : is2 g) : (g + 3) < 146 ∧ kd (g + 3) = (100, 12, []) := by rcases h with rfl | rfl <;> exact ⟨by decide, by decide +kernel⟩
theorem kB_2_6 {g : Nat} (h : is2 g) : (g + 4) < 146 ∧ kd (g + 4) = (100, 12, []) := by rcases h with rfl | rfl <;> exact ⟨by decide, by decide +kernel⟩
theorem kB_2_7 {g : Nat} (h : is2 g) : (g + 5) < 146 ∧ kd (g + 5) = (100, 12, []) := by rcases h with rfl | rfl <;> exact ⟨by decide, by decide +kernel⟩
theorem kB_2_8 {g : Nat} (h : is2 g) : (g + 6) < 146 ∧ kd (g + 6) = (100, 12, []) := by rcases h with rfl | rfl <;> exact ⟨by decide, by decide +kernel⟩
theorem kB_2_9 {g : Nat} (h : is2 g) : (g + 7) < 146 ∧ kd (g + 7) = (101, 1200, []) := by rcases h with rfl | rfl <;> exact ⟨by decide, by decide +kernel⟩
theorem kB_2_10 {g : Nat} (h : is2 g) : (g + 8) < 146 ∧ kd (g + 8) = (100, 5, []) := by rcases h with rfl | rfl <;> exact ⟨by decide, by decide +kernel⟩
theorem kB_2_11 {g : Nat} (h : is2 g) : (g + 9) < 146 ∧ kd (g + 9) = (100, 300, []) := by rcases h with rfl | rfl <;> exact ⟨by decide, by decide +kernel⟩
theorem kO_11 : 0 < 146 ∧ kd 0 = (11, 0, [2 + 1, 2 + 16, 2 + 17, 2 + 64, 2 + 111, 2 + 114, 2 + 121, 2 + 123, 0, 0, 0, 0, 0, 2 + 124, 0, 2 + 125, 0, 2 + 126]) := ⟨by decide, by decide +kernel⟩
theorem kO_0 : 1 < 146 ∧ kd 1 = (0, 0, [2 + 2, 2 + 7, 2 + 8]) := ⟨by decide, by decide +kernel⟩
theorem kO_9 : 111 < 146 ∧ kd 111 = (9, 0, [2 + 112, 2 + 113, 0, 0]) := ⟨by decide, by decide +kernel⟩
theorem kO_7 : 114 < 146 ∧ kd 114 = (7, 0, [2 + 115, 2 + 116, 2 + 117, 0, 0, 0, 0, 2 + 118, 0, 2 + 119, 2 + 120, 0]) := ⟨by decide, by decide +kernel⟩
theorem kO_6 : 121 < 146 ∧ kd 121 = (6, 0, [2 + 122, 0, 1, 1]) := ⟨by decide, by decide +kernel⟩
theorem kO_12 : 127 < 146 ∧ kd 127 = (12, 0, [0, 2 + 128, 2 + 129, 2 + 130, 2 + 131, 2 + 132, 2 + 133, 0, 2 + 134, 0, 0, 0, 0, 0, 0, 0, 0, 2 + 135, 2 + 136, 2 + 137, 2 + 138, 2 + 139, 2 + 140, 0, 0, 2 + 141, 2 + 142, 2 + 143, 0, 0, 2 + 144, 0, 1, 1]) := ⟨by decide, by decide +kernel⟩
theorem kA_2 : 2 < 146 ∧ kd 2 = (104, 4, []) := ⟨by decide, by decide +kernel⟩
theorem kA_3 : 3 < 146 ∧ kd 3 = (100, 1000, []) := ⟨by decide, by decide +kernel⟩
theorem kA_4 : 4 < 146 ∧ kd 4 = (100, 1000, []) := ⟨by decide, by decide +kernel⟩
theorem kA_5 : 5 < 146 ∧ kd 5 = (100, 1000, []) := ⟨by decide, by decide +kernel⟩
theorem kA_6 : 6 < 146 ∧ kd 6 = (100, 1000, []) := ⟨by decide, by decide +kernel⟩
theorem kA_7 : 7 < 146 ∧ kd 7 = (100, 4, []) := ⟨by decide, by decide +kernel⟩
theorem kA_8 : 8 < 146 ∧ kd 8 = (104, 7, []) := ⟨by decide, by decide +kernel⟩
theorem kA_9 : 9 < 146 ∧ kd 9 = (100, 1000, []) := ⟨by decide, by decide +kernel⟩
theorem kA_10 : 10 < 146 ∧ kd 10 = (100, 1000, []) := ⟨by decide, by decide +kernel⟩
theorem kA_11 : 11 < 146 ∧ kd 11 = (100, 1000, []) := ⟨by decide, by decide +kernel⟩
theorem kA_12 : 12 < 146 ∧ kd 12 = (100, 1000, []) := ⟨by decide, by decide +kernel⟩
theorem kA_13 : 13 < 146 ∧ kd 13 = (100, 1000, []) := ⟨by decide, by decide +kernel⟩
theorem kA_14 : 14 < 146 ∧ kd 14 = (100, 1000, []) := ⟨by decide, by decide +kernel⟩
theorem kA_15 : 15 < 146 ∧ kd 15 = (100, 1000, []) := ⟨by decide, by decide +kernel⟩
theorem kA_16 : 16 < 146 ∧ kd 16 = (105, 12, []) := ⟨by decide, by decide +kernel⟩
theorem kA_112 : 112 < 146 ∧ kd 112 = (100, 12, []) := ⟨by decide, by decide +kernel⟩
theorem kA_113 : 113 < 146 ∧ kd 113 = (100, 12, []) := ⟨by decide, by decide +kernel⟩
theorem kA_115 : 115 < 146 ∧ kd 115 = (100, 301, []) := ⟨by decide, by decide +kernel⟩
theorem kA_116 : 116 < 146 ∧ kd 116 = (100, 301, []) := ⟨by decide, by decide +kernel⟩
theorem kA_117 : 117 < 146 ∧ kd 117 = (100, 301, []) := ⟨by decide, by decide +kernel⟩
theorem kA_118 : 118 < 146 ∧ kd 118 = (100, 300, []) := ⟨by decide, by decide +kernel⟩
theorem kA_119 : 119 < 146 ∧ kd 119 = (100, 8, []) := ⟨by decide, by decide +kernel⟩
theorem kA_120 : 120 < 146 ∧ kd 120 = (100, 8, []) := ⟨by decide, by decide +kernel⟩
theorem kA_122 : 122 < 146 ∧ kd 122 = (100, 196, []) := ⟨by decide, by decide +kernel⟩
theorem kA_123 : 123 < 146 ∧ kd 123 = (100, 300, []) := ⟨by decide, by decide +kernel⟩
theorem kA_124 : 124 < 146 ∧ kd 124 = (100, 3, []) := ⟨by decide, by decide +kernel⟩
theorem kA_125 : 125 < 146 ∧ kd 125 = (100, 3, []) := ⟨by decide, by decide +kernel⟩
theorem kA_126 : 126 < 146 ∧ kd 126 = (100, 4, []) := ⟨by decide, by decide +kernel⟩
theorem kA_128 : 128 < 146 ∧ kd 128 = (100, 2132, []) := ⟨by decide, by decide +kernel⟩
theorem kA_129 : 129 < 146 ∧ kd 129 = (100, 2132, []) := ⟨by decide, by decide +kernel⟩
theorem kA_130 : 130 < 146 ∧ kd 130 = (100, 96, []) := ⟨by decide, by decide +kernel⟩
theorem kA_131 : 131 < 146 ∧ kd 131 = (101, 96, []) := ⟨by decide, by decide +kernel⟩
theorem kA_132 : 132 < 146 ∧ kd 132 = (100, 4000, []) := ⟨by decide, by decide +kernel⟩
theorem kA_133 : 133 < 146 ∧ kd 133 = (100, 4, []) := ⟨by decide, by decide +kernel⟩
theorem kA_134 : 134 < 146 ∧ kd 134 = (102, 300, []) := ⟨by decide, by decide +kernel⟩
theorem kA_135 : 135 < 146 ∧ kd 135 = (100, 4800, []) := ⟨by decide, by decide +kernel⟩
theorem kA_136 : 136 < 146 ∧ kd 136 = (100, 4800, []) := ⟨by decide, by decide +kernel⟩
theorem kA_137 : 137 < 146 ∧ kd 137 = (100, 96, []) := ⟨by decide, by decide +kernel⟩
theorem kA_138 : 138 < 146 ∧ kd 138 = (101, 12, []) := ⟨by decide, by decide +kernel⟩
theorem kA_139 : 139 < 146 ∧ kd 139 = (101, 1200, []) := ⟨by decide, by decide +kernel⟩
theorem kA_140 : 140 < 146 ∧ kd 140 = (100, 400, []) := ⟨by decide, by decide +kernel⟩
theorem kA_141 : 141 < 146 ∧ kd 141 = (100, 7007, []) := ⟨by decide, by decide +kernel⟩
theorem kA_142 : 142 < 146 ∧ kd 142 = (100, 3, []) := ⟨by decide, by decide +kernel⟩
theorem kA_143 : 143 < 146 ∧ kd 143 = (100, 3, []) := ⟨by decide, by decide +kernel⟩
theorem kA_144 : 144 < 146 ∧ kd 144 = (100, 196, []) := ⟨by decide, by decide +kernel⟩
theorem kA_145 : 145 < 146 ∧ kd 145 = (103, 1, []) := ⟨by decide, by decide +kernel⟩
theorem kA_book : 16 < 146 ∧ kd 16 = (105, 12, []) := kA_16
theorem kR_2 {i : Int32} (h : vp_in i 4) : 2 + 1 + i.toNatClampNeg < 146 ∧ kd (2 + 1 + i.toNatClampNeg) = (100, 1000, []) := by
  have hlt : i.toNatClampNeg < 4 := Nat.not_le.mp fun q => h (Or.inr q)
  generalize i.toNatClampNeg = j at hlt
  refine ⟨by omega, ?_⟩
  rcases (show j = 0 ∨ j = 1 ∨ j = 2 ∨ j = 3 by omega) with rfl | rfl | rfl | rfl <;> decide +kernel
theorem kR_8 {i : Int32} (h : vp_in i 7) : 8 + 1 + i.toNatClampNeg < 146 ∧ kd (8 + 1 + i.toNatClampNeg) = (100, 1000, []) := by
  have hlt : i.toNatClampNeg < 7 := Nat.not_le.mp fun q => h (Or.inr q)
  generalize i.toNatClampNeg = j at hlt
  refine ⟨by omega, ?_⟩
  rcases (show j = 0 ∨ j = 1 ∨ j = 2 ∨ j = 3 ∨ j = 4 ∨ j = 5 ∨ j = 6 by omega) with rfl | rfl | rfl | rfl | rfl | rfl | rfl <;> decide +kernel
theorem kO_8 {np z : Nat} (h : isStat np z) : z < np ∧ kd z = (8, 0, [2 + (z + 1), 2 + (z + 2), 2 + (z + 3), 0]) := by
  unfold isStat at h
  refine ⟨by omega, ?_⟩
  unfold kd
  rw [if_neg (by omega), show (z - 146) % 4 = 0 from h.2.2]
  rfl
theorem kB_8_0 {np z : Nat} (h : isStat np z) : z + 1 < np ∧ kd (z + 1) = (106, 0, []) := by
  unfold isStat at h
  refine ⟨by omega, ?_⟩
  unfold kd
  rw [if_neg (by omega), show (z + 1 - 146) % 4 = 1 by omega]
  rfl
theorem kB_8_1 {np z : Nat} (h : isStat np z) : z + 2 < np ∧ kd (z + 2) = (100, 8, []) := by
  unfold isStat at h
  refine ⟨by omega, ?_⟩
  unfold kd
  rw [if_neg (by omega), show (z + 2 - 146) % 4 = 2 by omega]
  rfl
theorem kB_8_2 {np z : Nat} (h : isStat np z) : z + 3 < np ∧ kd (z + 3) = (100, 8, []) := by
  unfold isStat at h
  refine ⟨by omega, ?_⟩
  unfold kd
  rw [if_neg (by omega), show (z + 3 - 146) % 4 = 3 by omega]
  rfl
/-- the length of a law's code -/
def dlen (c : Mc) (k : Nat) : Nat := (c k 2147483648).toNatClampNeg
def FU : Nat := 100000
def xmax (x y : Int32) : Int32 := if x < y then y else x
def xmin (x y : Int32) : Int32 := if y < x then y else x
def bn3 {α γ δ β : Type} (x : Option (α × γ × δ)) (f : α → γ → δ → Option β) : Option β := match x with | none => none | some a => f a.1 a.2.1 a.2.2
theorem bn3_some {α γ δ β : Type} {x : Option (α × γ × δ)} {f : α → γ → δ → Option β} {r : β} (h : bn3 x f = some r) : ∃ a, x = some a ∧ f a.1 a.2.1 a.2.2 = some r := by
  cases x with
  | none => cases h
  | some a => exact ⟨a, rfl, h⟩
def cpy {β : Type} (c : Mc) (k0 n0 : Nat) (sp : Int32) (k1 n1 : Nat) (dp n : Int32) (f : Mc → Option β) : Option β := if sp < 0 ∨ dp < 0 ∨ n < 0 ∨ n0 < sp.toNatClampNeg + n.toNatClampNeg ∨ n1 < dp.toNatClampNeg + n.toNatClampNeg then none else f (up c k1 (va_cpy (c k0) (c k1) sp.toNatClampNeg dp.toNatClampNeg n.toNatClampNeg))
theorem bk_up {np : Nat} {c : Mc} (h : Bk np c) {k : Nat} {f : Nat → Int32} (hk : k ≠ 16) : Bk np (up c k f) := by
  intro j hj
  have e : (up c k f) 16 j = c 16 j := by
    unfold up
    rw [if_neg (fun q => hk q.symm)]
  rw [e]
  exact h j hj
section XR2
variable {p : Program} {l : Launch} {e : Env} {R : Room} {s : State} {m : MethodId} {args : Array Value} {below : List Frame} {meth : Method} {c : Code} {nL : Nat} {Y : Nat → ClassId} {D : va_G} {σ : Nat → Nat} {np b0 cells slots : Nat} {Q : State → Prop} {pc : Nat} {L : List (Nat × Value)} {rest : List Value} {cm : Mc} {dm : Md} {cc : ByteArray} {own : String}

theorem x_mmax (hE : EOK p s m args meth c cc nL own Y D σ np b0) {d index : Nat} {x y : Int32} (hw : Cond.methodLink own index Lib.Math.max.name ∈ lw_g) (hst : (rest.map fun v => v.category).sum ≤ 8) (hd : decode cc pc = .ok (.invokestatic index, 3)) (k : Xw p l e (rmD (d + 1)) s m args below meth c nL Y D σ np b0 0 0 Q (pc + 3) L (.int (xmax x y) :: rest) cm dm) : Xw p l e (rmD (d + 1)) s m args below meth c nL Y D σ np b0 0 0 Q pc L (.int y :: .int x :: rest) cm dm := by
  intro H locs ls hP hS hB hl
  exact va_mmax hE.1 hE.2.1 (hE.2.2.1.trans hl.1.symm) hE.2.2.2.1 (hE.2.2.2.2.1 _ hw) (hE.2.2.2.2.1 _ (mem_g 668 (by decide +kernel) (by decide +kernel))) (hE.2.2.2.2.1 _ (mem_g 151 (by decide +kernel) (by decide +kernel))) (hE.2.2.2.2.1 _ (mem_g 669 (by decide +kernel) (by decide +kernel))) (Nat.le_add_left 1 d) (by show _ ≤ 64 * (d + 1); omega) (Nat.le_refl 0) (Nat.le_refl 0) hd (k H locs ls hP hS hB hl)
theorem x_mmin (hE : EOK p s m args meth c cc nL own Y D σ np b0) {d index : Nat} {x y : Int32} (hw : Cond.methodLink own index Lib.Math.min.name ∈ lw_g) (hst : (rest.map fun v => v.category).sum ≤ 8) (hd : decode cc pc = .ok (.invokestatic index, 3)) (k : Xw p l e (rmD (d + 1)) s m args below meth c nL Y D σ np b0 0 0 Q (pc + 3) L (.int (xmin x y) :: rest) cm dm) : Xw p l e (rmD (d + 1)) s m args below meth c nL Y D σ np b0 0 0 Q pc L (.int y :: .int x :: rest) cm dm := by
  intro H locs ls hP hS hB hl
  exact va_mmin hE.1 hE.2.1 (hE.2.2.1.trans hl.1.symm) hE.2.2.2.1 (hE.2.2.2.2.1 _ hw) (hE.2.2.2.2.1 _ (mem_g 665 (by decide +kernel) (by decide +kernel))) (hE.2.2.2.2.1 _ (mem_g 151 (by decide +kernel) (by decide +kernel))) (hE.2.2.2.2.1 _ (mem_g 666 (by decide +kernel) (by decide +kernel))) (Nat.le_add_left 1 d) (by show _ ≤ 64 * (d + 1); omega) (Nat.le_refl 0) (Nat.le_refl 0) hd (k H locs ls hP hS hB hl)
theorem x_copy (hE : EOK p s m args meth c cc nL own Y D σ np b0) {d k0 k1 n0 n1 index : Nat} {β : Type} {r : β} {f : Mc → Option β} {sp dp n : Int32} (hk0 : k0 < np ∧ kd k0 = (100, n0, [])) (hk1 : k1 < np ∧ kd k1 = (100, n1, [])) (hw : Cond.methodLink own index arraycopyName ∈ lw_g) (hst : (rest.map fun v => v.category).sum ≤ 8) (hd : decode cc pc = .ok (.invokestatic index, 3)) (hf : cpy cm k0 n0 sp k1 n1 dp n f = some r) (kk : ∀ c1 : Mc, f c1 = some r → Xw p l e (rmD (d + 2)) s m args below meth c nL Y D σ np b0 0 0 Q (pc + 3) L rest c1 dm) : Xw p l e (rmD (d + 2)) s m args below meth c nL Y D σ np b0 0 0 Q pc L (.int n :: .int dp :: .ref (σ k1) :: .int sp :: .ref (σ k0) :: rest) cm dm := by
  intro H locs ls hP hS hB hl
  unfold cpy at hf
  by_cases hc : sp < 0 ∨ dp < 0 ∨ n < 0 ∨ n0 < sp.toNatClampNeg + n.toNatClampNeg ∨ n1 < dp.toNatClampNeg + n.toNatClampNeg
  · rw [if_pos hc] at hf
    cases hf
  rw [if_neg hc] at hf
  have he0 := wl_at (Y := Y) (σ := σ) (c := cm) (d := dm) (kn_of hk0 (by decide))
  have he1 := wl_at (Y := Y) (σ := σ) (c := cm) (d := dm) (kn_of hk1 (by decide))
  have e0 : ∀ f, kE Y σ (kd k0) k0 f (dm k0) = .inl (Y 0, n0, .inl f) := by intro f; rw [hk0.2]; rfl
  have e1 : ∀ f, kE Y σ (kd k1) k1 f (dm k1) = .inl (Y 0, n1, .inl f) := by intro f; rw [hk1.2]; rfl
  rw [e0] at he0
  rw [e1] at he1
  refine va_copyi hE.1 hE.2.1 (hE.2.2.1.trans hl.1.symm) hE.2.2.2.1 (hE.2.2.2.2.1 _ hw) (hE.2.2.2.2.1 _ (mem_g 1043 (by decide +kernel) (by decide +kernel))) (hE.2.2.2.2.1 _ (mem_g 1042 (by decide +kernel) (by decide +kernel))) (hE.2.2.2.2.1 _ (mem_g 149 (by decide +kernel) (by decide +kernel))) hE.2.2.2.2.2.2.1 hP (wl_D hE.2.2.2.2.2.2.2.1) hS (ix k0) (ix k1) 0 0 he0 he1 (ty := .int) rfl rfl rfl (fun q => hc (Or.inl q)) (fun q => hc (Or.inr (Or.inl q))) (fun q => hc (Or.inr (Or.inr (Or.inl q)))) (Nat.not_lt.mp fun q => hc (Or.inr (Or.inr (Or.inr (Or.inl q))))) (Nat.not_lt.mp fun q => hc (Or.inr (Or.inr (Or.inr (Or.inr q))))) (fun _ _ => rfl) (Nat.le_add_left 1 _) (Nat.le_trans (Nat.add_le_add_right hst _) (Nat.le_trans (show 8 + (nativeFrameWords "java/lang/System" "arraycopy" 5 + 11) ≤ 128 by decide +kernel) (show 128 ≤ 64 * (d + 2) by omega))) hd (fun H1 locs1 hP1 hD1 hS1 => ?_)
  rw [← e1, wl_set (kn_of hk1 (by decide))] at hP1
  have hk16 : k1 ≠ 16 := by
    intro q
    subst q
    have := hk1.2
    rw [show kd 16 = (105, 12, []) from by decide +kernel] at this
    have h2 : (105 : Nat) = 100 := congrArg Prod.fst this
    omega
  exact kk _ hf H1 locs1 ls hP1 hS1 (bk_up hB hk16) hl
theorem x_callV0 (hE : EOK p s m args meth c cc nL own Y D σ np b0) {y : MethodName} {bytes : ByteArray} {maxL n index : Nat} {ret : Option FieldType} {rm : Room} {c1 : Mc} {d1 : Md} {C : String} {T : u_T} {N ci k : Nat} {ty0 : Nat → FieldType} {lk : List Nat} (As : List Value) {st0 : List Value} (h0 : As.reverse ++ .ref (σ k) :: rest = st0)
    (hY : YOK y bytes maxL n ret) (hV : YV y) (hw : Cond.methodLink own index y ∈ lw_g) (hC : y.cls = C) (hc : CLok ci C T N ty0) (hk : k < np ∧ kd k = (ci, 0, lk)) (hci : ci < 100) (hrc : rm.cells = 0) (hrs : rm.slots = 0) (hR : rm.frames + 1 ≤ R.frames ∧ 8 + (maxL + 11) + rm.locals ≤ R.locals) (hcs : cells ≤ R.cells ∧ slots ≤ R.slots) (hn : As.length = n) (hst : (rest.map fun v => v.category).sum ≤ 8) (hd : decode cc pc = .ok (.invokevirtual index, 3))
    (hM : Met l y (.code y bytes maxL ret :: lw_g) rm (PR Y D σ np b0 (.ref (σ k) :: As) cm dm) (QR Y D σ np b0 none c1 d1) 0 0 (xA b0))
    (kk : Xw p l e R s m args below meth c nL Y D σ np b0 cells slots Q (pc + 3) L rest c1 d1) : Xw p l e R s m args below meth c nL Y D σ np b0 cells slots Q pc L st0 cm dm := by
  subst h0
  exact x_callV hE As hY hV hw hC hc hk hci hrc hrs hR hcs hn hst hd hM kk
theorem x_callS0 (hE : EOK p s m args meth c cc nL own Y D σ np b0) {y : MethodName} {bytes : ByteArray} {maxL n index : Nat} {ret : Option FieldType} {rm : Room} {c1 : Mc} {d1 : Md} (As : List Value) {st0 : List Value} (h0 : As.reverse ++ rest = st0)
    (hY : YOK y bytes maxL n ret) (hV : Cond.static y ∈ lw_g) (hw : Cond.methodLink own index y ∈ lw_g) (hrc : rm.cells = 0) (hrs : rm.slots = 0) (hR : rm.frames + 1 ≤ R.frames ∧ 8 + (maxL + 11) + rm.locals ≤ R.locals) (hcs : cells ≤ R.cells ∧ slots ≤ R.slots) (hn : As.length = n) (hst : (rest.map fun v => v.category).sum ≤ 8) (hd : decode cc pc = .ok (.invokestatic index, 3))
    (hM : Met l y (.code y bytes maxL ret :: lw_g) rm (PR Y D σ np b0 As cm dm) (QR Y D σ np b0 none c1 d1) 0 0 (xA b0))
    (kk : Xw p l e R s m args below meth c nL Y D σ np b0 cells slots Q (pc + 3) L rest c1 d1) : Xw p l e R s m args below meth c nL Y D σ np b0 cells slots Q pc L st0 cm dm := by
  subst h0
  exact x_callS hE As hY hV hw hrc hrs hR hcs hn hst hd hM kk
theorem x_callSN0 (hE : EOK p s m args meth c cc nL own Y D σ np b0) {y : MethodName} {host : String} {bytes : ByteArray} {maxL n index : Nat} {ret : Option FieldType} {rm : Room} {c1 : Mc} {d1 : Md} (As : List Value) {st0 : List Value} (h0 : As.reverse ++ rest = st0)
    (hY : YOK y bytes maxL n ret) (hV : Cond.static y ∈ lw_g) (hw : Cond.methodLinkNest own index y host ∈ lw_nw) (hrc : rm.cells = 0) (hrs : rm.slots = 0) (hR : rm.frames + 1 ≤ R.frames ∧ 8 + (maxL + 11) + rm.locals ≤ R.locals) (hcs : cells ≤ R.cells ∧ slots ≤ R.slots) (hn : As.length = n) (hst : (rest.map fun v => v.category).sum ≤ 8) (hd : decode cc pc = .ok (.invokestatic index, 3))
    (hM : Met l y (.code y bytes maxL ret :: lw_g) rm (PR Y D σ np b0 As cm dm) (QR Y D σ np b0 none c1 d1) 0 0 (xA b0))
    (kk : Xw p l e R s m args below meth c nL Y D σ np b0 cells slots Q (pc + 3) L rest c1 d1) : Xw p l e R s m args below meth c nL Y D σ np b0 cells slots Q pc L st0 cm dm := by
  subst h0
  exact x_callSN hE As hY hV hw hrc hrs hR hcs hn hst hd hM kk
theorem x_callV1 (hE : EOK p s m args meth c cc nL own Y D σ np b0) {y : MethodName} {bytes : ByteArray} {maxL n index : Nat} {ret : Option FieldType} {rm : Room} {v : Value} {c1 : Mc} {d1 : Md} {C : String} {T : u_T} {N ci k : Nat} {ty0 : Nat → FieldType} {lk : List Nat} (As : List Value) {st0 : List Value} (h0 : As.reverse ++ .ref (σ k) :: rest = st0)
    (hY : YOK y bytes maxL n ret) (hV : YV y) (hw : Cond.methodLink own index y ∈ lw_g) (hC : y.cls = C) (hc : CLok ci C T N ty0) (hk : k < np ∧ kd k = (ci, 0, lk)) (hci : ci < 100) (hrc : rm.cells = 0) (hrs : rm.slots = 0) (hR : rm.frames + 1 ≤ R.frames ∧ 8 + (maxL + 11) + rm.locals ≤ R.locals) (hcs : cells ≤ R.cells ∧ slots ≤ R.slots) (hn : As.length = n) (hst : (rest.map fun v => v.category).sum ≤ 8) (hd : decode cc pc = .ok (.invokevirtual index, 3))
    (hM : Met l y (.code y bytes maxL ret :: lw_g) rm (PR Y D σ np b0 (.ref (σ k) :: As) cm dm) (QR Y D σ np b0 (some v) c1 d1) 0 0 (xA b0))
    (kk : Xw p l e R s m args below meth c nL Y D σ np b0 cells slots Q (pc + 3) L (v :: rest) c1 d1) : Xw p l e R s m args below meth c nL Y D σ np b0 cells slots Q pc L st0 cm dm := by
  subst h0
  exact x_callV hE As hY hV hw hC hc hk hci hrc hrs hR hcs hn hst hd hM kk
theorem x_callS1 (hE : EOK p s m args meth c cc nL own Y D σ np b0) {y : MethodName} {bytes : ByteArray} {maxL n index : Nat} {ret : Option FieldType} {rm : Room} {v : Value} {c1 : Mc} {d1 : Md} (As : List Value) {st0 : List Value} (h0 : As.reverse ++ rest = st0)
    (hY : YOK y bytes maxL n ret) (hV : Cond.static y ∈ lw_g) (hw : Cond.methodLink own index y ∈ lw_g) (hrc : rm.cells = 0) (hrs : rm.slots = 0) (hR : rm.frames + 1 ≤ R.frames ∧ 8 + (maxL + 11) + rm.locals ≤ R.locals) (hcs : cells ≤ R.cells ∧ slots ≤ R.slots) (hn : As.length = n) (hst : (rest.map fun v => v.category).sum ≤ 8) (hd : decode cc pc = .ok (.invokestatic index, 3))
    (hM : Met l y (.code y bytes maxL ret :: lw_g) rm (PR Y D σ np b0 As cm dm) (QR Y D σ np b0 (some v) c1 d1) 0 0 (xA b0))
    (kk : Xw p l e R s m args below meth c nL Y D σ np b0 cells slots Q (pc + 3) L (v :: rest) c1 d1) : Xw p l e R s m args below meth c nL Y D σ np b0 cells slots Q pc L st0 cm dm := by
  subst h0
  exact x_callS hE As hY hV hw hrc hrs hR hcs hn hst hd hM kk
theorem x_callSN1 (hE : EOK p s m args meth c cc nL own Y D σ np b0) {y : MethodName} {host : String} {bytes : ByteArray} {maxL n index : Nat} {ret : Option FieldType} {rm : Room} {v : Value} {c1 : Mc} {d1 : Md} (As : List Value) {st0 : List Value} (h0 : As.reverse ++ rest = st0)
    (hY : YOK y bytes maxL n ret) (hV : Cond.static y ∈ lw_g) (hw : Cond.methodLinkNest own index y host ∈ lw_nw) (hrc : rm.cells = 0) (hrs : rm.slots = 0) (hR : rm.frames + 1 ≤ R.frames ∧ 8 + (maxL + 11) + rm.locals ≤ R.locals) (hcs : cells ≤ R.cells ∧ slots ≤ R.slots) (hn : As.length = n) (hst : (rest.map fun v => v.category).sum ≤ 8) (hd : decode cc pc = .ok (.invokestatic index, 3))
    (hM : Met l y (.code y bytes maxL ret :: lw_g) rm (PR Y D σ np b0 As cm dm) (QR Y D σ np b0 (some v) c1 d1) 0 0 (xA b0))
    (kk : Xw p l e R s m args below meth c nL Y D σ np b0 cells slots Q (pc + 3) L (v :: rest) c1 d1) : Xw p l e R s m args below meth c nL Y D σ np b0 cells slots Q pc L st0 cm dm := by
  subst h0
  exact x_callSN hE As hY hV hw hrc hrs hR hcs hn hst hd hM kk
theorem x_ialdS (hE : EOK p s m args meth c cc nL own Y D σ np b0) {k : Nat} {β : Type} {r : β} {B : Option β} {i : Int32} (hk : k < np ∧ kd k = (106, 0, [])) (hd : decode cc pc = .ok (.iaload, 1)) (hf : chk i (dlen cm k) B = some r) (kk : B = some r → Xw p l e R s m args below meth c nL Y D σ np b0 cells slots Q (pc + 1) L (.int (cm k i.toNatClampNeg) :: rest) cm dm) : Xw p l e R s m args below meth c nL Y D σ np b0 cells slots Q pc L (.int i :: .ref (σ k) :: rest) cm dm := by
  intro H locs ls hP hS hB hl
  have he := wl_at (Y := Y) (σ := σ) (c := cm) (d := dm) (kn_of hk (by decide))
  rw [hk.2] at he
  exact va_iald hE.1 hE.2.1 hE.2.2.2.2.2.2.1 hP (ix k) 0 he rfl (chk_some hf).1 hd (kk (chk_some hf).2 H locs ls hP hS hB hl)
theorem x_alenS (hE : EOK p s m args meth c cc nL own Y D σ np b0) {k : Nat} (hk : k < np ∧ kd k = (106, 0, [])) (hd : decode cc pc = .ok (.arraylength, 1)) (kk : Xw p l e R s m args below meth c nL Y D σ np b0 cells slots Q (pc + 1) L (.int (nI (dlen cm k)) :: rest) cm dm) : Xw p l e R s m args below meth c nL Y D σ np b0 cells slots Q pc L (.ref (σ k) :: rest) cm dm := by
  intro H locs ls hP hS hB hl
  have he := wl_at (Y := Y) (σ := σ) (c := cm) (d := dm) (kn_of hk (by decide))
  rw [hk.2] at he
  exact va_alen hE.1 hE.2.1 hE.2.2.2.2.2.2.1 hP (ix k) 0 he (ty := .int) rfl rfl hd (kk H locs ls hP hS hB hl)
theorem x_vrf {β : Type} {r : β} {A B : Option β} {z : Nat} (hz : z = 0 ∨ isStat np z) (hf : (if z = 0 then A else B) = some r) (k1 : A = some r → Xw p l e R s m args below meth c nL Y D σ np b0 cells slots Q pc L (.null :: rest) cm dm) (k2 : isStat np z → B = some r → Xw p l e R s m args below meth c nL Y D σ np b0 cells slots Q pc L (.ref (σ z) :: rest) cm dm) : Xw p l e R s m args below meth c nL Y D σ np b0 cells slots Q pc L (vrf σ z :: rest) cm dm := by
  unfold vrf
  by_cases h : z = 0
  · rw [if_pos h] at hf ⊢
    exact k1 hf
  · rw [if_neg h] at hf ⊢
    exact k2 (hz.resolve_left h) hf
def i2c5 (x : Int32) : Int32 := (x.toUInt32 % 65536).toInt32
abbrev isC (x : Int32) : Prop := i2c5 x = x
theorem nar_C0 (x : Int32) : narrow .char (.int (i2c5 x)) = .int (i2c5 x) := by
  show Value.int (((x.toUInt32 % 65536) % 65536).toInt32) = Value.int (x.toUInt32 % 65536).toInt32
  refine congrArg (fun u : UInt32 => Value.int u.toInt32) ?_
  apply UInt32.toNat_inj.mp
  simp
theorem nar_C {x : Int32} (h : isC x) : narrow .char (.int x) = .int x := by
  have := nar_C0 x
  rwa [show i2c5 x = x from h] at this
theorem x_i2c (hE : EOK p s m args meth c cc nL own Y D σ np b0) {x : Int32} (hd : decode cc pc = .ok (.i2c, 1)) (k : Xw p l e R s m args below meth c nL Y D σ np b0 cells slots Q (pc + 1) L (.int (i2c5 x) :: rest) cm dm) : Xw p l e R s m args below meth c nL Y D σ np b0 cells slots Q pc L (.int x :: rest) cm dm := fun H locs ls hP hS hB hl => lv_i2c hE.1 hE.2.1 hd rfl (k H locs ls hP hS hB hl)
theorem EOK.st (hE : EOK p s m args meth c cc nL own Y D σ np b0) : xS b0 Y s := hE.2.2.2.2.2.2.2.2.2.2.2
theorem x_ldcS (hE : EOK p s m args meth c cc nL own Y D σ np b0) {index : Nat} (i : Nat) (hi : i < 23) (h1 : sOwn i = own) (h2 : sIdx i = index) (hd : decode cc pc = .ok (.ldc index, 2)) (k : Xw p l e R s m args below meth c nL Y D σ np b0 cells slots Q (pc + 2) L (.ref (Y (200 + i)) :: rest) cm dm) : Xw p l e R s m args below meth c nL Y D σ np b0 cells slots Q pc L rest cm dm := by
  intro H locs ls hP hS hB hl
  subst h1; subst h2
  exact va_ldcS hE.1 hE.2.1 hE.2.2.2.1 (hE.st.2.2.2.2.2.2.2.1 i hi) hd (k H locs ls hP hS hB hl)
theorem x_ldcSw (hE : EOK p s m args meth c cc nL own Y D σ np b0) {index : Nat} (i : Nat) (hi : i < 23) (h1 : sOwn i = own) (h2 : sIdx i = index) (hd : decode cc pc = .ok (.ldc_w index, 3)) (k : Xw p l e R s m args below meth c nL Y D σ np b0 cells slots Q (pc + 3) L (.ref (Y (200 + i)) :: rest) cm dm) : Xw p l e R s m args below meth c nL Y D σ np b0 cells slots Q pc L rest cm dm := by
  intro H locs ls hP hS hB hl
  subst h1; subst h2
  have hZ := hE.st.2.2.2.2.2.2.2.1 i hi
  intro T hT X
  obtain ⟨t, a1, b1⟩ := k H locs ls hP hS hB hl T hT X
  exact ⟨t, X.ldcStringW hE.1 (text := sTxt i) (index := sIdx i) (a := Y (200 + i)) hE.2.2.2.1 hZ.1 hZ.2 (g := F0 m pc ls rest) rfl (by rw [hE.2.1]; exact hd) t a1, b1⟩
theorem x_sval (hE : EOK p s m args meth c cc nL own Y D σ np b0) {i index : Nat} (hi : i < 23) (hw : Cond.fieldLink own index "java/lang/String" "value" "[B" ∈ lw_g) (hd : decode cc pc = .ok (.getfield index, 3)) (k : Xw p l e R s m args below meth c nL Y D σ np b0 cells slots Q (pc + 3) L (.ref (Y (300 + i)) :: rest) cm dm) : Xw p l e R s m args below meth c nL Y D σ np b0 cells slots Q pc L (.ref (Y (200 + i)) :: rest) cm dm := by
  intro H locs ls hP hS hB hl
  exact vk_getf (o := "java/lang/String") (ref := "java/lang/String") hE.1 hE.2.1 (hE.st.2.2.2.2.2.2.1.1 i hi).2.2.1 hS hE.2.2.2.1 (hE.2.2.2.2.1 _ hw) (fun _ h => h) hd (k H locs ls hP hS hB hl)
theorem x_scod (hE : EOK p s m args meth c cc nL own Y D σ np b0) {i index : Nat} (hi : i < 23) (hw : Cond.fieldLink own index "java/lang/String" "coder" "B" ∈ lw_g) (hd : decode cc pc = .ok (.getfield index, 3)) (k : Xw p l e R s m args below meth c nL Y D σ np b0 cells slots Q (pc + 3) L (.int 0 :: rest) cm dm) : Xw p l e R s m args below meth c nL Y D σ np b0 cells slots Q pc L (.ref (Y (200 + i)) :: rest) cm dm := by
  intro H locs ls hP hS hB hl
  exact vk_getf (o := "java/lang/String") (ref := "java/lang/String") hE.1 hE.2.1 (hE.st.2.2.2.2.2.2.1.1 i hi).2.1 hS hE.2.2.2.1 (hE.2.2.2.2.1 _ hw) (fun _ h => h) hd (k H locs ls hP hS hB hl)
/-- the length of a text, and its bytes -/
def sN (i : Nat) : Nat := sLen.getD i 0
def sC (i j : Nat) : Int32 := (sByt.getD i []).getD j 0
theorem x_sblen (hE : EOK p s m args meth c cc nL own Y D σ np b0) {i : Nat} (hi : i < 23) (hd : decode cc pc = .ok (.arraylength, 1)) (k : Xw p l e R s m args below meth c nL Y D σ np b0 cells slots Q (pc + 1) L (.int (nI (sN i)) :: rest) cm dm) : Xw p l e R s m args below meth c nL Y D σ np b0 cells slots Q pc L (.ref (Y (300 + i)) :: rest) cm dm := by
  intro H locs ls hP hS hB hl
  obtain ⟨cell, h1, h2, h3, h4, h5, h6, h7⟩ := (hE.st.2.2.2.2.2.2.1.1 i hi).2.2.2.kept (H1 := H) (fun a x y => hS.2.1 a x y)
  exact W.alen hE.1 hE.2.1 h1 h2 h5 rfl rfl hd (k H locs ls hP hS hB hl)
theorem x_sbld (hE : EOK p s m args meth c cc nL own Y D σ np b0) {β : Type} {r : β} {B : Option β} {i : Nat} {j : Int32} (hi : i < 23) (hd : decode cc pc = .ok (.baload, 1)) (hf : chk j (sN i) B = some r) (k : B = some r → Xw p l e R s m args below meth c nL Y D σ np b0 cells slots Q (pc + 1) L (.int (sC i j.toNatClampNeg) :: rest) cm dm) : Xw p l e R s m args below meth c nL Y D σ np b0 cells slots Q pc L (.int j :: .ref (Y (300 + i)) :: rest) cm dm := by
  intro H locs ls hP hS hB hl
  exact va_tb hE.1 hE.2.1 (hE.st.2.2.2.2.2.2.1.1 i hi).2.2.2 hS (chk_some hf).1 rfl hd (k (chk_some hf).2 H locs ls hP hS hB hl)
theorem x_scomp (hE : EOK p s m args meth c cc nL own Y D σ np b0) {index : Nat} (hw : Cond.fieldLink own index "java/lang/String" "COMPACT_STRINGS" "Z" ∈ lw_g) (hd : decode cc pc = .ok (.getstatic index, 3)) (k : Xw p l e R s m args below meth c nL Y D σ np b0 cells slots Q (pc + 3) L (.int (nI 1) :: rest) cm dm) : Xw p l e R s m args below meth c nL Y D σ np b0 cells slots Q pc L rest cm dm := fun H locs ls hP hS hB hl => va_gets hE.1 hE.2.1 hE.st.2.2.1 hS hE.2.2.2.1 (hE.2.2.2.2.1 _ hw) (fun _ h => h) hd (k H locs ls hP hS hB hl)
theorem x_ssio (hE : EOK p s m args meth c cc nL own Y D σ np b0) {index : Nat} (hw : Cond.fieldLink own index "jdk/internal/util/Preconditions" "SIOOBE_FORMATTER" "Ljava/util/function/BiFunction;" ∈ lw_g) (hd : decode cc pc = .ok (.getstatic index, 3)) (k1 : Xw p l e R s m args below meth c nL Y D σ np b0 cells slots Q (pc + 3) L (.null :: rest) cm dm) (k2 : ∀ t : Nat, Xw p l e R s m args below meth c nL Y D σ np b0 cells slots Q (pc + 3) L (.ref t :: rest) cm dm) : Xw p l e R s m args below meth c nL Y D σ np b0 cells slots Q pc L rest cm dm := by
  intro H locs ls hP hS hB hl
  rcases hE.st.2.2.2.2.2.1 with h | ⟨t, h⟩
  · exact va_gets hE.1 hE.2.1 h hS hE.2.2.2.1 (hE.2.2.2.2.1 _ hw) (fun _ h => h) hd (k1 H locs ls hP hS hB hl)
  · exact va_gets hE.1 hE.2.1 h hS hE.2.2.2.1 (hE.2.2.2.2.1 _ hw) (fun _ h => h) hd (k2 t H locs ls hP hS hB hl)
theorem x_areturn (hE : EOK p s m args meth c cc nL own Y D σ np b0) {a : Nat} {n : String} (hr : meth.sig.returnType = some (.object n)) (hd : decode cc pc = .ok (.areturn, 1)) : Xw p l e R s m args below meth c nL Y D σ np b0 cells slots (MQ below (QR Y D σ np b0 (some (.ref a)) cm dm) args s cells slots (xA b0)) pc L [.ref a] cm dm := by
  intro H locs ls hP hS hB hl
  exact W.aret hE.1 hE.2.1 hr (Or.inl ⟨n, rfl⟩) (Or.inr ⟨a, rfl⟩) (fun t ht hW => ⟨rfl, by rw [ht]; exact hP, hB, hS.F ht⟩) hS.2.2 hd hE.2.2.2.2.2.2.2.2.2.2.1
theorem x_callVS1 (hE : EOK p s m args meth c cc nL own Y D σ np b0) {y : MethodName} {bytes : ByteArray} {maxL n index : Nat} {ret : Option FieldType} {rm : Room} {v : Value} {c1 : Mc} {d1 : Md} {i : Nat} (As : List Value) {st0 : List Value} (h0 : As.reverse ++ .ref (Y (200 + i)) :: rest = st0)
    (hY : YOK y bytes maxL n ret) (hV : YV y) (hw : Cond.methodLink own index y ∈ lw_g) (hC : y.cls = "java/lang/String") (hi : i < 23) (hrc : rm.cells = 0) (hrs : rm.slots = 0) (hR : rm.frames + 1 ≤ R.frames ∧ 8 + (maxL + 11) + rm.locals ≤ R.locals) (hcs : cells ≤ R.cells ∧ slots ≤ R.slots) (hn : As.length = n) (hst : (rest.map fun v => v.category).sum ≤ 8) (hd : decode cc pc = .ok (.invokevirtual index, 3))
    (hM : Met l y (.code y bytes maxL ret :: lw_g) rm (PR Y D σ np b0 (.ref (Y (200 + i)) :: As) cm dm) (QR Y D σ np b0 (some v) c1 d1) 0 0 (xA b0))
    (kk : Xw p l e R s m args below meth c nL Y D σ np b0 cells slots Q (pc + 3) L (v :: rest) c1 d1) : Xw p l e R s m args below meth c nL Y D σ np b0 cells slots Q pc L st0 cm dm := by
  subst h0
  intro H locs ls hP hS hB hl
  refine x_ret hE (va_runV (As := As) (rest := rest) (Ts := lw_g) ⟨hE.1, hE.2.1, hE.2.2.1, hE.2.2.2.1, hE.2.2.2.2.1⟩ hM ⟨cb_of hE hY hw hrc hrs hR, hE.2.2.2.2.1 _ hV.1, hE.2.2.2.2.1 _ hV.2⟩ ⟨pr_blind, ?_, fun U hU hW => pr_of hE hP hS hB hU hW⟩ rfl hn hl.1 rfl ?_ hd hcs) hS hl kk
  · rw [hC]
    exact vk_recv (adK := fun i => Y (200 + i)) (adV := fun i => Y (300 + i)) (i := i) hE.st.2.2.2.2.2.2.1 hi hS
  · show 2 * 0 + _ ≤ 8
    rw [Nat.mul_zero, Nat.zero_add]
    exact hst
end XR2
