theorem bit255 : ∀ i, i < 32 → 8 ≤ i → (255#32).getLsbD i = false := by decide +kernel
theorem b8_255 (y : Int32) : y.toInt8.toInt32 &&& 255 = y &&& 255 := by
  apply Int32.toBitVec_inj.mp
  show (BitVec.signExtend 32 (BitVec.signExtend 8 y.toBitVec)) &&& 255#32 = y.toBitVec &&& 255#32
  apply BitVec.eq_of_getLsbD_eq
  intro i hi
  rw [BitVec.getLsbD_and, BitVec.getLsbD_and, BitVec.getLsbD_signExtend]
  by_cases q : i < 8
  · rw [if_pos q, BitVec.getLsbD_signExtend, if_pos hi, decide_eq_true q, decide_eq_true hi, Bool.true_and, Bool.true_and]
  · rw [bit255 i hi (by omega), Bool.and_false, Bool.and_false]
