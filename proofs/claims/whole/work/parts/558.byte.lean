theorem by255 (y : Int32) : ∃ k, k < 256 ∧ y &&& 255 = jI k := by
  refine ⟨(y.toBitVec &&& 255#32).toNat, ?_, ?_⟩
  · rw [BitVec.toNat_and]
    exact Nat.lt_of_le_of_lt Nat.and_le_right (by decide)
  · apply Int32.toBitVec_inj.mp
    show y.toBitVec &&& 255#32 = BitVec.ofNat 32 (y.toBitVec &&& 255#32).toNat
    rw [BitVec.ofNat_toNat, BitVec.setWidth_eq]
/-- a byte as a number -/
def byK (x s : Int32) : Nat := (byB x s).toNatClampNeg
theorem byK_eq (x s : Int32) : byB x s = jI (byK x s) ∧ byK x s < 256 := by
  obtain ⟨k, h1, h2⟩ := by255 (x >>> (s &&& 31))
  have e : byB x s = jI k := h2
  have e2 : byK x s = k := by
    unfold byK
    rw [e, jI_cl (by omega)]
  rw [e2]
  exact ⟨e, h1⟩
