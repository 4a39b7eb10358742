/-! ===== feed() ===== -/
theorem b64 (z : Int64) : ∀ i, i < 8 → ((jushl z (8 * nI i)).toInt32 &&& 255) = (((z >>> ((8 * nI i).toInt64 &&& 63)) &&& (255 : Int64)).toInt32) := by
  intro i hi
  have key : ∀ k, k < 8 → (((8 * nI k).toInt64.toUInt64 &&& Int64.toUInt64 63).toNat % 64 = 8 * k) ∧ (((8 * nI k).toInt64 &&& 63).toBitVec.smod 64).toNat = 8 * k := by decide
  obtain ⟨k1, k2⟩ := key i hi
  apply Int32.toBitVec_inj.mp
  rw [Int32.toBitVec_and, Int64.toBitVec_toInt32, Int64.toBitVec_toInt32, Int64.toBitVec_and, Int64.toBitVec_shiftRight, BitVec.sshiftRight_eq', k2]
  unfold jushl
  have e1 : ((z.toUInt64 >>> ((8 * nI i).toInt64.toUInt64 &&& Int64.toUInt64 63)).toInt64).toBitVec = z.toBitVec >>> (8 * i) := by
    show (z.toUInt64 >>> ((8 * nI i).toInt64.toUInt64 &&& Int64.toUInt64 63)).toBitVec = _
    rw [UInt64.toBitVec_shiftRight, BitVec.ushiftRight_eq']
    show z.toBitVec >>> _ = _
    rw [← k1]
    rfl
  rw [e1]
  apply BitVec.eq_of_getLsbD_eq
  intro j hj
  rw [BitVec.getLsbD_and, BitVec.getLsbD_signExtend, BitVec.getLsbD_signExtend, if_pos (show j < 64 by omega), if_pos (show j < 64 by omega), BitVec.getLsbD_and, BitVec.getLsbD_ushiftRight, BitVec.getLsbD_sshiftRight]
  have h255 : ∀ j, j < 32 → (255 : Int32).toBitVec.getLsbD j = decide (j < 8) ∧ (255 : Int64).toBitVec.getLsbD j = decide (j < 8) := by decide
  rw [(h255 j hj).1, (h255 j hj).2]
  by_cases h8 : j < 8
  · have : 8 * i + j < 64 := by omega
    simp [h8, hj, this]
    omega
  · simp [h8]
