/-! ===== the tape ===== -/
section AW
theorem nar_b (v : Int32) : vp_nar .byte v = v.toInt8.toInt32 := rfl
theorem b255 : ∀ i, i < 32 → (nI 255).toBitVec.getLsbD i = decide (i < 8) := by decide +kernel
theorem byte_sh {k : Nat} (hk : k ≤ 24) (x s : Int32) (e1 : (s &&& 31) = nI k) (e2 : s.toUInt32 &&& Int32.toUInt32 31 = UInt32.ofNat k) (e3 : ((nI k).toBitVec.smod 32#32).toNat = k) : (vp_nar .byte ((x >>> (s &&& 31)).toInt8.toInt32)) &&& nI 255 = iushr5 x s &&& nI 255 := by
  apply Int32.toBitVec_inj.mp
  unfold iushr5
  rw [e1, e2, nar_b]
  ext i hi
  have hb := b255 i hi
  rw [BitVec.getLsbD_eq_getElem hi] at hb
  simp [hb]
  by_cases h8 : i < 8
  · have h32 : k % 32 = k := by omega
    simp [h8, e3, h32, BitVec.getElem_signExtend, BitVec.getLsbD_sshiftRight]
    rw [dif_pos hi, ← BitVec.getLsbD_eq_getElem, BitVec.getLsbD_sshiftRight]
    rw [if_pos (by omega), decide_eq_false (by omega)]
    rfl
  · simp [h8]
theorem and_255 (x : Int32) : ∃ b, b < 256 ∧ x &&& nI 255 = nI b := by
  refine ⟨(x &&& nI 255).toBitVec.toNat, ?_, ?_⟩
  · simp [nI]
    exact Nat.lt_of_le_of_lt Nat.and_le_right (by decide)
  · apply Int32.toBitVec_inj.mp
    apply BitVec.eq_of_toNat_eq
    simp [nI]
end AW
