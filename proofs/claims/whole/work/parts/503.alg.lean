/-! place: one pair of numbers (polynomials) -/
section
variable {a c : Nat → Nat → Int32} {f R Q y : Nat → Int64} {z0 z1 z2 : Int32}
theorem rp1_0 : rP a 1 0 = (a 0 0).toInt64 := by
  show ((0 + 1 * (a 0 0).toInt64) + 0 * (a 1 0).toInt64) + 0 * (a 2 0).toInt64 = _
  grind
theorem rp1_1 : rP a 1 1 = (a 0 1).toInt64 := by
  show ((0 + 1 * (a 0 1).toInt64) + 0 * (a 1 1).toInt64) + 0 * (a 2 1).toInt64 = _
  grind
theorem rp1_2 : rP a 1 2 = (a 0 2).toInt64 := by
  show ((0 + 1 * (a 0 2).toInt64) + 0 * (a 1 2).toInt64) + 0 * (a 2 2).toInt64 = _
  grind
theorem rp1_3 : rP a 1 3 = (a 1 0).toInt64 := by
  show ((0 + 0 * (a 0 0).toInt64) + 1 * (a 1 0).toInt64) + 0 * (a 2 0).toInt64 = _
  grind
theorem rp1_4 : rP a 1 4 = (a 1 1).toInt64 := by
  show ((0 + 0 * (a 0 1).toInt64) + 1 * (a 1 1).toInt64) + 0 * (a 2 1).toInt64 = _
  grind
theorem rp1_5 : rP a 1 5 = (a 1 2).toInt64 := by
  show ((0 + 0 * (a 0 2).toInt64) + 1 * (a 1 2).toInt64) + 0 * (a 2 2).toInt64 = _
  grind
theorem rp1_6 : rP a 1 6 = (a 2 0).toInt64 := by
  show ((0 + 0 * (a 0 0).toInt64) + 0 * (a 1 0).toInt64) + 1 * (a 2 0).toInt64 = _
  grind
theorem rp1_7 : rP a 1 7 = (a 2 1).toInt64 := by
  show ((0 + 0 * (a 0 1).toInt64) + 0 * (a 1 1).toInt64) + 1 * (a 2 1).toInt64 = _
  grind
theorem rp1_8 : rP a 1 8 = (a 2 2).toInt64 := by
  show ((0 + 0 * (a 0 2).toInt64) + 0 * (a 1 2).toInt64) + 1 * (a 2 2).toInt64 = _
  grind
theorem rp2_0 : rP a 2 0 = ((a 0 0).toInt64 * (a 0 0).toInt64 + (a 0 1).toInt64 * (a 1 0).toInt64 + (a 0 2).toInt64 * (a 2 0).toInt64) := by
  show ((0 + rP a 1 0 * (a 0 0).toInt64) + rP a 1 1 * (a 1 0).toInt64) + rP a 1 2 * (a 2 0).toInt64 = _
  rw [rp1_0, rp1_1, rp1_2, Int64.zero_add]
theorem rp2_1 : rP a 2 1 = ((a 0 0).toInt64 * (a 0 1).toInt64 + (a 0 1).toInt64 * (a 1 1).toInt64 + (a 0 2).toInt64 * (a 2 1).toInt64) := by
  show ((0 + rP a 1 0 * (a 0 1).toInt64) + rP a 1 1 * (a 1 1).toInt64) + rP a 1 2 * (a 2 1).toInt64 = _
  rw [rp1_0, rp1_1, rp1_2, Int64.zero_add]
theorem rp2_2 : rP a 2 2 = ((a 0 0).toInt64 * (a 0 2).toInt64 + (a 0 1).toInt64 * (a 1 2).toInt64 + (a 0 2).toInt64 * (a 2 2).toInt64) := by
  show ((0 + rP a 1 0 * (a 0 2).toInt64) + rP a 1 1 * (a 1 2).toInt64) + rP a 1 2 * (a 2 2).toInt64 = _
  rw [rp1_0, rp1_1, rp1_2, Int64.zero_add]
theorem rp2_3 : rP a 2 3 = ((a 1 0).toInt64 * (a 0 0).toInt64 + (a 1 1).toInt64 * (a 1 0).toInt64 + (a 1 2).toInt64 * (a 2 0).toInt64) := by
  show ((0 + rP a 1 3 * (a 0 0).toInt64) + rP a 1 4 * (a 1 0).toInt64) + rP a 1 5 * (a 2 0).toInt64 = _
  rw [rp1_3, rp1_4, rp1_5, Int64.zero_add]
theorem rp2_4 : rP a 2 4 = ((a 1 0).toInt64 * (a 0 1).toInt64 + (a 1 1).toInt64 * (a 1 1).toInt64 + (a 1 2).toInt64 * (a 2 1).toInt64) := by
  show ((0 + rP a 1 3 * (a 0 1).toInt64) + rP a 1 4 * (a 1 1).toInt64) + rP a 1 5 * (a 2 1).toInt64 = _
  rw [rp1_3, rp1_4, rp1_5, Int64.zero_add]
theorem rp2_5 : rP a 2 5 = ((a 1 0).toInt64 * (a 0 2).toInt64 + (a 1 1).toInt64 * (a 1 2).toInt64 + (a 1 2).toInt64 * (a 2 2).toInt64) := by
  show ((0 + rP a 1 3 * (a 0 2).toInt64) + rP a 1 4 * (a 1 2).toInt64) + rP a 1 5 * (a 2 2).toInt64 = _
  rw [rp1_3, rp1_4, rp1_5, Int64.zero_add]
theorem rp2_6 : rP a 2 6 = ((a 2 0).toInt64 * (a 0 0).toInt64 + (a 2 1).toInt64 * (a 1 0).toInt64 + (a 2 2).toInt64 * (a 2 0).toInt64) := by
  show ((0 + rP a 1 6 * (a 0 0).toInt64) + rP a 1 7 * (a 1 0).toInt64) + rP a 1 8 * (a 2 0).toInt64 = _
  rw [rp1_6, rp1_7, rp1_8, Int64.zero_add]
theorem rp2_7 : rP a 2 7 = ((a 2 0).toInt64 * (a 0 1).toInt64 + (a 2 1).toInt64 * (a 1 1).toInt64 + (a 2 2).toInt64 * (a 2 1).toInt64) := by
  show ((0 + rP a 1 6 * (a 0 1).toInt64) + rP a 1 7 * (a 1 1).toInt64) + rP a 1 8 * (a 2 1).toInt64 = _
  rw [rp1_6, rp1_7, rp1_8, Int64.zero_add]
theorem rp2_8 : rP a 2 8 = ((a 2 0).toInt64 * (a 0 2).toInt64 + (a 2 1).toInt64 * (a 1 2).toInt64 + (a 2 2).toInt64 * (a 2 2).toInt64) := by
  show ((0 + rP a 1 6 * (a 0 2).toInt64) + rP a 1 7 * (a 1 2).toInt64) + rP a 1 8 * (a 2 2).toInt64 = _
  rw [rp1_6, rp1_7, rp1_8, Int64.zero_add]
theorem rp3_0 : rP a 3 0 = (((a 0 0).toInt64 * (a 0 0).toInt64 + (a 0 1).toInt64 * (a 1 0).toInt64 + (a 0 2).toInt64 * (a 2 0).toInt64) * (a 0 0).toInt64 + ((a 0 0).toInt64 * (a 0 1).toInt64 + (a 0 1).toInt64 * (a 1 1).toInt64 + (a 0 2).toInt64 * (a 2 1).toInt64) * (a 1 0).toInt64 + ((a 0 0).toInt64 * (a 0 2).toInt64 + (a 0 1).toInt64 * (a 1 2).toInt64 + (a 0 2).toInt64 * (a 2 2).toInt64) * (a 2 0).toInt64) := by
  show ((0 + rP a 2 0 * (a 0 0).toInt64) + rP a 2 1 * (a 1 0).toInt64) + rP a 2 2 * (a 2 0).toInt64 = _
  rw [rp2_0, rp2_1, rp2_2, Int64.zero_add]
theorem rp3_1 : rP a 3 1 = (((a 0 0).toInt64 * (a 0 0).toInt64 + (a 0 1).toInt64 * (a 1 0).toInt64 + (a 0 2).toInt64 * (a 2 0).toInt64) * (a 0 1).toInt64 + ((a 0 0).toInt64 * (a 0 1).toInt64 + (a 0 1).toInt64 * (a 1 1).toInt64 + (a 0 2).toInt64 * (a 2 1).toInt64) * (a 1 1).toInt64 + ((a 0 0).toInt64 * (a 0 2).toInt64 + (a 0 1).toInt64 * (a 1 2).toInt64 + (a 0 2).toInt64 * (a 2 2).toInt64) * (a 2 1).toInt64) := by
  show ((0 + rP a 2 0 * (a 0 1).toInt64) + rP a 2 1 * (a 1 1).toInt64) + rP a 2 2 * (a 2 1).toInt64 = _
  rw [rp2_0, rp2_1, rp2_2, Int64.zero_add]
theorem rp3_2 : rP a 3 2 = (((a 0 0).toInt64 * (a 0 0).toInt64 + (a 0 1).toInt64 * (a 1 0).toInt64 + (a 0 2).toInt64 * (a 2 0).toInt64) * (a 0 2).toInt64 + ((a 0 0).toInt64 * (a 0 1).toInt64 + (a 0 1).toInt64 * (a 1 1).toInt64 + (a 0 2).toInt64 * (a 2 1).toInt64) * (a 1 2).toInt64 + ((a 0 0).toInt64 * (a 0 2).toInt64 + (a 0 1).toInt64 * (a 1 2).toInt64 + (a 0 2).toInt64 * (a 2 2).toInt64) * (a 2 2).toInt64) := by
  show ((0 + rP a 2 0 * (a 0 2).toInt64) + rP a 2 1 * (a 1 2).toInt64) + rP a 2 2 * (a 2 2).toInt64 = _
  rw [rp2_0, rp2_1, rp2_2, Int64.zero_add]
theorem rp3_3 : rP a 3 3 = (((a 1 0).toInt64 * (a 0 0).toInt64 + (a 1 1).toInt64 * (a 1 0).toInt64 + (a 1 2).toInt64 * (a 2 0).toInt64) * (a 0 0).toInt64 + ((a 1 0).toInt64 * (a 0 1).toInt64 + (a 1 1).toInt64 * (a 1 1).toInt64 + (a 1 2).toInt64 * (a 2 1).toInt64) * (a 1 0).toInt64 + ((a 1 0).toInt64 * (a 0 2).toInt64 + (a 1 1).toInt64 * (a 1 2).toInt64 + (a 1 2).toInt64 * (a 2 2).toInt64) * (a 2 0).toInt64) := by
  show ((0 + rP a 2 3 * (a 0 0).toInt64) + rP a 2 4 * (a 1 0).toInt64) + rP a 2 5 * (a 2 0).toInt64 = _
  rw [rp2_3, rp2_4, rp2_5, Int64.zero_add]
theorem rp3_4 : rP a 3 4 = (((a 1 0).toInt64 * (a 0 0).toInt64 + (a 1 1).toInt64 * (a 1 0).toInt64 + (a 1 2).toInt64 * (a 2 0).toInt64) * (a 0 1).toInt64 + ((a 1 0).toInt64 * (a 0 1).toInt64 + (a 1 1).toInt64 * (a 1 1).toInt64 + (a 1 2).toInt64 * (a 2 1).toInt64) * (a 1 1).toInt64 + ((a 1 0).toInt64 * (a 0 2).toInt64 + (a 1 1).toInt64 * (a 1 2).toInt64 + (a 1 2).toInt64 * (a 2 2).toInt64) * (a 2 1).toInt64) := by
  show ((0 + rP a 2 3 * (a 0 1).toInt64) + rP a 2 4 * (a 1 1).toInt64) + rP a 2 5 * (a 2 1).toInt64 = _
  rw [rp2_3, rp2_4, rp2_5, Int64.zero_add]
theorem rp3_5 : rP a 3 5 = (((a 1 0).toInt64 * (a 0 0).toInt64 + (a 1 1).toInt64 * (a 1 0).toInt64 + (a 1 2).toInt64 * (a 2 0).toInt64) * (a 0 2).toInt64 + ((a 1 0).toInt64 * (a 0 1).toInt64 + (a 1 1).toInt64 * (a 1 1).toInt64 + (a 1 2).toInt64 * (a 2 1).toInt64) * (a 1 2).toInt64 + ((a 1 0).toInt64 * (a 0 2).toInt64 + (a 1 1).toInt64 * (a 1 2).toInt64 + (a 1 2).toInt64 * (a 2 2).toInt64) * (a 2 2).toInt64) := by
  show ((0 + rP a 2 3 * (a 0 2).toInt64) + rP a 2 4 * (a 1 2).toInt64) + rP a 2 5 * (a 2 2).toInt64 = _
  rw [rp2_3, rp2_4, rp2_5, Int64.zero_add]
theorem rp3_6 : rP a 3 6 = (((a 2 0).toInt64 * (a 0 0).toInt64 + (a 2 1).toInt64 * (a 1 0).toInt64 + (a 2 2).toInt64 * (a 2 0).toInt64) * (a 0 0).toInt64 + ((a 2 0).toInt64 * (a 0 1).toInt64 + (a 2 1).toInt64 * (a 1 1).toInt64 + (a 2 2).toInt64 * (a 2 1).toInt64) * (a 1 0).toInt64 + ((a 2 0).toInt64 * (a 0 2).toInt64 + (a 2 1).toInt64 * (a 1 2).toInt64 + (a 2 2).toInt64 * (a 2 2).toInt64) * (a 2 0).toInt64) := by
  show ((0 + rP a 2 6 * (a 0 0).toInt64) + rP a 2 7 * (a 1 0).toInt64) + rP a 2 8 * (a 2 0).toInt64 = _
  rw [rp2_6, rp2_7, rp2_8, Int64.zero_add]
theorem rp3_7 : rP a 3 7 = (((a 2 0).toInt64 * (a 0 0).toInt64 + (a 2 1).toInt64 * (a 1 0).toInt64 + (a 2 2).toInt64 * (a 2 0).toInt64) * (a 0 1).toInt64 + ((a 2 0).toInt64 * (a 0 1).toInt64 + (a 2 1).toInt64 * (a 1 1).toInt64 + (a 2 2).toInt64 * (a 2 1).toInt64) * (a 1 1).toInt64 + ((a 2 0).toInt64 * (a 0 2).toInt64 + (a 2 1).toInt64 * (a 1 2).toInt64 + (a 2 2).toInt64 * (a 2 2).toInt64) * (a 2 1).toInt64) := by
  show ((0 + rP a 2 6 * (a 0 1).toInt64) + rP a 2 7 * (a 1 1).toInt64) + rP a 2 8 * (a 2 1).toInt64 = _
  rw [rp2_6, rp2_7, rp2_8, Int64.zero_add]
theorem rp3_8 : rP a 3 8 = (((a 2 0).toInt64 * (a 0 0).toInt64 + (a 2 1).toInt64 * (a 1 0).toInt64 + (a 2 2).toInt64 * (a 2 0).toInt64) * (a 0 2).toInt64 + ((a 2 0).toInt64 * (a 0 1).toInt64 + (a 2 1).toInt64 * (a 1 1).toInt64 + (a 2 2).toInt64 * (a 2 1).toInt64) * (a 1 2).toInt64 + ((a 2 0).toInt64 * (a 0 2).toInt64 + (a 2 1).toInt64 * (a 1 2).toInt64 + (a 2 2).toInt64 * (a 2 2).toInt64) * (a 2 2).toInt64) := by
  show ((0 + rP a 2 6 * (a 0 2).toInt64) + rP a 2 7 * (a 1 2).toInt64) + rP a 2 8 * (a 2 2).toInt64 = _
  rw [rp2_6, rp2_7, rp2_8, Int64.zero_add]
theorem td3_0 : tdS a (byS 3 z0 z1 z2) 4 0 = z0.toInt64 + z1.toInt64 * (a 0 0).toInt64 + z2.toInt64 * ((a 0 0).toInt64 * (a 0 0).toInt64 + (a 0 1).toInt64 * (a 1 0).toInt64 + (a 0 2).toInt64 * (a 2 0).toInt64) + (((a 0 0).toInt64 * (a 0 0).toInt64 + (a 0 1).toInt64 * (a 1 0).toInt64 + (a 0 2).toInt64 * (a 2 0).toInt64) * (a 0 0).toInt64 + ((a 0 0).toInt64 * (a 0 1).toInt64 + (a 0 1).toInt64 * (a 1 1).toInt64 + (a 0 2).toInt64 * (a 2 1).toInt64) * (a 1 0).toInt64 + ((a 0 0).toInt64 * (a 0 2).toInt64 + (a 0 1).toInt64 * (a 1 2).toInt64 + (a 0 2).toInt64 * (a 2 2).toInt64) * (a 2 0).toInt64) := by
  show (((0 + z0.toInt64 * 1) + z1.toInt64 * rP a 1 0) + z2.toInt64 * rP a 2 0) + 1 * rP a 3 0 = _
  rw [rp1_0, rp2_0, rp3_0]
  simp only [Int64.zero_add, Int64.mul_one, Int64.one_mul, Int64.mul_zero]
theorem td3_1 : tdS a (byS 3 z0 z1 z2) 4 1 = z1.toInt64 * (a 0 1).toInt64 + z2.toInt64 * ((a 0 0).toInt64 * (a 0 1).toInt64 + (a 0 1).toInt64 * (a 1 1).toInt64 + (a 0 2).toInt64 * (a 2 1).toInt64) + (((a 0 0).toInt64 * (a 0 0).toInt64 + (a 0 1).toInt64 * (a 1 0).toInt64 + (a 0 2).toInt64 * (a 2 0).toInt64) * (a 0 1).toInt64 + ((a 0 0).toInt64 * (a 0 1).toInt64 + (a 0 1).toInt64 * (a 1 1).toInt64 + (a 0 2).toInt64 * (a 2 1).toInt64) * (a 1 1).toInt64 + ((a 0 0).toInt64 * (a 0 2).toInt64 + (a 0 1).toInt64 * (a 1 2).toInt64 + (a 0 2).toInt64 * (a 2 2).toInt64) * (a 2 1).toInt64) := by
  show (((0 + z0.toInt64 * 0) + z1.toInt64 * rP a 1 1) + z2.toInt64 * rP a 2 1) + 1 * rP a 3 1 = _
  rw [rp1_1, rp2_1, rp3_1]
  simp only [Int64.zero_add, Int64.mul_one, Int64.one_mul, Int64.mul_zero]
theorem td3_2 : tdS a (byS 3 z0 z1 z2) 4 2 = z1.toInt64 * (a 0 2).toInt64 + z2.toInt64 * ((a 0 0).toInt64 * (a 0 2).toInt64 + (a 0 1).toInt64 * (a 1 2).toInt64 + (a 0 2).toInt64 * (a 2 2).toInt64) + (((a 0 0).toInt64 * (a 0 0).toInt64 + (a 0 1).toInt64 * (a 1 0).toInt64 + (a 0 2).toInt64 * (a 2 0).toInt64) * (a 0 2).toInt64 + ((a 0 0).toInt64 * (a 0 1).toInt64 + (a 0 1).toInt64 * (a 1 1).toInt64 + (a 0 2).toInt64 * (a 2 1).toInt64) * (a 1 2).toInt64 + ((a 0 0).toInt64 * (a 0 2).toInt64 + (a 0 1).toInt64 * (a 1 2).toInt64 + (a 0 2).toInt64 * (a 2 2).toInt64) * (a 2 2).toInt64) := by
  show (((0 + z0.toInt64 * 0) + z1.toInt64 * rP a 1 2) + z2.toInt64 * rP a 2 2) + 1 * rP a 3 2 = _
  rw [rp1_2, rp2_2, rp3_2]
  simp only [Int64.zero_add, Int64.mul_one, Int64.one_mul, Int64.mul_zero]
theorem td3_3 : tdS a (byS 3 z0 z1 z2) 4 3 = z1.toInt64 * (a 1 0).toInt64 + z2.toInt64 * ((a 1 0).toInt64 * (a 0 0).toInt64 + (a 1 1).toInt64 * (a 1 0).toInt64 + (a 1 2).toInt64 * (a 2 0).toInt64) + (((a 1 0).toInt64 * (a 0 0).toInt64 + (a 1 1).toInt64 * (a 1 0).toInt64 + (a 1 2).toInt64 * (a 2 0).toInt64) * (a 0 0).toInt64 + ((a 1 0).toInt64 * (a 0 1).toInt64 + (a 1 1).toInt64 * (a 1 1).toInt64 + (a 1 2).toInt64 * (a 2 1).toInt64) * (a 1 0).toInt64 + ((a 1 0).toInt64 * (a 0 2).toInt64 + (a 1 1).toInt64 * (a 1 2).toInt64 + (a 1 2).toInt64 * (a 2 2).toInt64) * (a 2 0).toInt64) := by
  show (((0 + z0.toInt64 * 0) + z1.toInt64 * rP a 1 3) + z2.toInt64 * rP a 2 3) + 1 * rP a 3 3 = _
  rw [rp1_3, rp2_3, rp3_3]
  simp only [Int64.zero_add, Int64.mul_one, Int64.one_mul, Int64.mul_zero]
theorem td3_4 : tdS a (byS 3 z0 z1 z2) 4 4 = z0.toInt64 + z1.toInt64 * (a 1 1).toInt64 + z2.toInt64 * ((a 1 0).toInt64 * (a 0 1).toInt64 + (a 1 1).toInt64 * (a 1 1).toInt64 + (a 1 2).toInt64 * (a 2 1).toInt64) + (((a 1 0).toInt64 * (a 0 0).toInt64 + (a 1 1).toInt64 * (a 1 0).toInt64 + (a 1 2).toInt64 * (a 2 0).toInt64) * (a 0 1).toInt64 + ((a 1 0).toInt64 * (a 0 1).toInt64 + (a 1 1).toInt64 * (a 1 1).toInt64 + (a 1 2).toInt64 * (a 2 1).toInt64) * (a 1 1).toInt64 + ((a 1 0).toInt64 * (a 0 2).toInt64 + (a 1 1).toInt64 * (a 1 2).toInt64 + (a 1 2).toInt64 * (a 2 2).toInt64) * (a 2 1).toInt64) := by
  show (((0 + z0.toInt64 * 1) + z1.toInt64 * rP a 1 4) + z2.toInt64 * rP a 2 4) + 1 * rP a 3 4 = _
  rw [rp1_4, rp2_4, rp3_4]
  simp only [Int64.zero_add, Int64.mul_one, Int64.one_mul, Int64.mul_zero]
theorem td3_5 : tdS a (byS 3 z0 z1 z2) 4 5 = z1.toInt64 * (a 1 2).toInt64 + z2.toInt64 * ((a 1 0).toInt64 * (a 0 2).toInt64 + (a 1 1).toInt64 * (a 1 2).toInt64 + (a 1 2).toInt64 * (a 2 2).toInt64) + (((a 1 0).toInt64 * (a 0 0).toInt64 + (a 1 1).toInt64 * (a 1 0).toInt64 + (a 1 2).toInt64 * (a 2 0).toInt64) * (a 0 2).toInt64 + ((a 1 0).toInt64 * (a 0 1).toInt64 + (a 1 1).toInt64 * (a 1 1).toInt64 + (a 1 2).toInt64 * (a 2 1).toInt64) * (a 1 2).toInt64 + ((a 1 0).toInt64 * (a 0 2).toInt64 + (a 1 1).toInt64 * (a 1 2).toInt64 + (a 1 2).toInt64 * (a 2 2).toInt64) * (a 2 2).toInt64) := by
  show (((0 + z0.toInt64 * 0) + z1.toInt64 * rP a 1 5) + z2.toInt64 * rP a 2 5) + 1 * rP a 3 5 = _
  rw [rp1_5, rp2_5, rp3_5]
  simp only [Int64.zero_add, Int64.mul_one, Int64.one_mul, Int64.mul_zero]
theorem td3_6 : tdS a (byS 3 z0 z1 z2) 4 6 = z1.toInt64 * (a 2 0).toInt64 + z2.toInt64 * ((a 2 0).toInt64 * (a 0 0).toInt64 + (a 2 1).toInt64 * (a 1 0).toInt64 + (a 2 2).toInt64 * (a 2 0).toInt64) + (((a 2 0).toInt64 * (a 0 0).toInt64 + (a 2 1).toInt64 * (a 1 0).toInt64 + (a 2 2).toInt64 * (a 2 0).toInt64) * (a 0 0).toInt64 + ((a 2 0).toInt64 * (a 0 1).toInt64 + (a 2 1).toInt64 * (a 1 1).toInt64 + (a 2 2).toInt64 * (a 2 1).toInt64) * (a 1 0).toInt64 + ((a 2 0).toInt64 * (a 0 2).toInt64 + (a 2 1).toInt64 * (a 1 2).toInt64 + (a 2 2).toInt64 * (a 2 2).toInt64) * (a 2 0).toInt64) := by
  show (((0 + z0.toInt64 * 0) + z1.toInt64 * rP a 1 6) + z2.toInt64 * rP a 2 6) + 1 * rP a 3 6 = _
  rw [rp1_6, rp2_6, rp3_6]
  simp only [Int64.zero_add, Int64.mul_one, Int64.one_mul, Int64.mul_zero]
theorem td3_7 : tdS a (byS 3 z0 z1 z2) 4 7 = z1.toInt64 * (a 2 1).toInt64 + z2.toInt64 * ((a 2 0).toInt64 * (a 0 1).toInt64 + (a 2 1).toInt64 * (a 1 1).toInt64 + (a 2 2).toInt64 * (a 2 1).toInt64) + (((a 2 0).toInt64 * (a 0 0).toInt64 + (a 2 1).toInt64 * (a 1 0).toInt64 + (a 2 2).toInt64 * (a 2 0).toInt64) * (a 0 1).toInt64 + ((a 2 0).toInt64 * (a 0 1).toInt64 + (a 2 1).toInt64 * (a 1 1).toInt64 + (a 2 2).toInt64 * (a 2 1).toInt64) * (a 1 1).toInt64 + ((a 2 0).toInt64 * (a 0 2).toInt64 + (a 2 1).toInt64 * (a 1 2).toInt64 + (a 2 2).toInt64 * (a 2 2).toInt64) * (a 2 1).toInt64) := by
  show (((0 + z0.toInt64 * 0) + z1.toInt64 * rP a 1 7) + z2.toInt64 * rP a 2 7) + 1 * rP a 3 7 = _
  rw [rp1_7, rp2_7, rp3_7]
  simp only [Int64.zero_add, Int64.mul_one, Int64.one_mul, Int64.mul_zero]
theorem td3_8 : tdS a (byS 3 z0 z1 z2) 4 8 = z0.toInt64 + z1.toInt64 * (a 2 2).toInt64 + z2.toInt64 * ((a 2 0).toInt64 * (a 0 2).toInt64 + (a 2 1).toInt64 * (a 1 2).toInt64 + (a 2 2).toInt64 * (a 2 2).toInt64) + (((a 2 0).toInt64 * (a 0 0).toInt64 + (a 2 1).toInt64 * (a 1 0).toInt64 + (a 2 2).toInt64 * (a 2 0).toInt64) * (a 0 2).toInt64 + ((a 2 0).toInt64 * (a 0 1).toInt64 + (a 2 1).toInt64 * (a 1 1).toInt64 + (a 2 2).toInt64 * (a 2 1).toInt64) * (a 1 2).toInt64 + ((a 2 0).toInt64 * (a 0 2).toInt64 + (a 2 1).toInt64 * (a 1 2).toInt64 + (a 2 2).toInt64 * (a 2 2).toInt64) * (a 2 2).toInt64) := by
  show (((0 + z0.toInt64 * 1) + z1.toInt64 * rP a 1 8) + z2.toInt64 * rP a 2 8) + 1 * rP a 3 8 = _
  rw [rp1_8, rp2_8, rp3_8]
  simp only [Int64.zero_add, Int64.mul_one, Int64.one_mul, Int64.mul_zero]
theorem alg3 (hR : svR 3 a f R) (hQ : isCv false a c 1 3 Q) (hf : ∀ j, j < 4 → f j = fmW 3 (trP (a 0 0).toInt64 (a 1 1).toInt64 (a 2 2).toInt64) (miP (a 0 0).toInt64 (a 0 1).toInt64 (a 0 2).toInt64 (a 1 0).toInt64 (a 1 1).toInt64 (a 1 2).toInt64 (a 2 0).toInt64 (a 2 1).toInt64 (a 2 2).toInt64) (deP (a 0 0).toInt64 (a 0 1).toInt64 (a 0 2).toInt64 (a 1 0).toInt64 (a 1 1).toInt64 (a 1 2).toInt64 (a 2 0).toInt64 (a 2 1).toInt64 (a 2 2).toInt64) j) (hy : ∀ i, i < 3 → y i = rhY 3 f z0 z1 z2 i) :
    dt3 R 0 1 2 = -(detV 3 Q) ∧ ∀ i, i < 3 → dt3 (swp R y i) 0 1 2 = -(ovS 3 Q (tdS a (byS 3 z0 z1 z2) 4) i) := by
  have f2 : f 2 = -(trP (a 0 0).toInt64 (a 1 1).toInt64 (a 2 2).toInt64) := hf 2 (by decide)
  have f1 : f 1 = miP (a 0 0).toInt64 (a 0 1).toInt64 (a 0 2).toInt64 (a 1 0).toInt64 (a 1 1).toInt64 (a 1 2).toInt64 (a 2 0).toInt64 (a 2 1).toInt64 (a 2 2).toInt64 := hf 1 (by decide)
  have f0 : f 0 = -(deP (a 0 0).toInt64 (a 0 1).toInt64 (a 0 2).toInt64 (a 1 0).toInt64 (a 1 1).toInt64 (a 1 2).toInt64 (a 2 0).toInt64 (a 2 1).toInt64 (a 2 2).toInt64) := hf 0 (by decide)
  have R6 : R 6 = bbL a 0 := hR.1 0 (by decide)
  have R7 : R 7 = bbL a 1 := hR.1 1 (by decide)
  have R8 : R 8 = bbL a 2 := hR.1 2 (by decide)
  have Q0 : Q 0 = bbL a 0 := hQ.1 0 (by decide) 0 (by decide)
  have Q1 : Q 1 = bbL a 1 := hQ.1 0 (by decide) 1 (by decide)
  have Q2 : Q 2 = bbL a 2 := hQ.1 0 (by decide) 2 (by decide)
  have v0 : Q 3 = bbL a 0 * (a 0 0).toInt64 + bbL a 1 * (a 0 1).toInt64 + bbL a 2 * (a 0 2).toInt64 := by
    have e : Q 3 = ((0 + Q 0 * (a 0 0).toInt64) + Q 1 * (a 0 1).toInt64) + Q 2 * (a 0 2).toInt64 := hQ.2 1 (by decide) (by decide) 0 (by decide)
    rw [e, Q0, Q1, Q2, Int64.zero_add]
  have v1 : Q 4 = bbL a 0 * (a 1 0).toInt64 + bbL a 1 * (a 1 1).toInt64 + bbL a 2 * (a 1 2).toInt64 := by
    have e : Q 4 = ((0 + Q 0 * (a 1 0).toInt64) + Q 1 * (a 1 1).toInt64) + Q 2 * (a 1 2).toInt64 := hQ.2 1 (by decide) (by decide) 1 (by decide)
    rw [e, Q0, Q1, Q2, Int64.zero_add]
  have v2 : Q 5 = bbL a 0 * (a 2 0).toInt64 + bbL a 1 * (a 2 1).toInt64 + bbL a 2 * (a 2 2).toInt64 := by
    have e : Q 5 = ((0 + Q 0 * (a 2 0).toInt64) + Q 1 * (a 2 1).toInt64) + Q 2 * (a 2 2).toInt64 := hQ.2 1 (by decide) (by decide) 2 (by decide)
    rw [e, Q0, Q1, Q2, Int64.zero_add]
  have w0 : Q 6 = Q 3 * (a 0 0).toInt64 + Q 4 * (a 0 1).toInt64 + Q 5 * (a 0 2).toInt64 := by
    have e : Q 6 = ((0 + Q 3 * (a 0 0).toInt64) + Q 4 * (a 0 1).toInt64) + Q 5 * (a 0 2).toInt64 := hQ.2 2 (by decide) (by decide) 0 (by decide)
    rw [e, Int64.zero_add]
  have w1 : Q 7 = Q 3 * (a 1 0).toInt64 + Q 4 * (a 1 1).toInt64 + Q 5 * (a 1 2).toInt64 := by
    have e : Q 7 = ((0 + Q 3 * (a 1 0).toInt64) + Q 4 * (a 1 1).toInt64) + Q 5 * (a 1 2).toInt64 := hQ.2 2 (by decide) (by decide) 1 (by decide)
    rw [e, Int64.zero_add]
  have w2 : Q 8 = Q 3 * (a 2 0).toInt64 + Q 4 * (a 2 1).toInt64 + Q 5 * (a 2 2).toInt64 := by
    have e : Q 8 = ((0 + Q 3 * (a 2 0).toInt64) + Q 4 * (a 2 1).toInt64) + Q 5 * (a 2 2).toInt64 := hQ.2 2 (by decide) (by decide) 2 (by decide)
    rw [e, Int64.zero_add]
  have s0 : R 3 = Q 3 - trP (a 0 0).toInt64 (a 1 1).toInt64 (a 2 2).toInt64 * bbL a 0 := by
    have e : R 3 = (((0 + R 6 * (a 0 0).toInt64) + R 7 * (a 0 1).toInt64) + R 8 * (a 0 2).toInt64) + f 2 * bbL a 0 := hR.2 1 (by decide) 0 (by decide)
    rw [e, R6, R7, R8, f2, v0]
    grind
  have s1 : R 4 = Q 4 - trP (a 0 0).toInt64 (a 1 1).toInt64 (a 2 2).toInt64 * bbL a 1 := by
    have e : R 4 = (((0 + R 6 * (a 1 0).toInt64) + R 7 * (a 1 1).toInt64) + R 8 * (a 1 2).toInt64) + f 2 * bbL a 1 := hR.2 1 (by decide) 1 (by decide)
    rw [e, R6, R7, R8, f2, v1]
    grind
  have s2 : R 5 = Q 5 - trP (a 0 0).toInt64 (a 1 1).toInt64 (a 2 2).toInt64 * bbL a 2 := by
    have e : R 5 = (((0 + R 6 * (a 2 0).toInt64) + R 7 * (a 2 1).toInt64) + R 8 * (a 2 2).toInt64) + f 2 * bbL a 2 := hR.2 1 (by decide) 2 (by decide)
    rw [e, R6, R7, R8, f2, v2]
    grind
  have t0 : R 0 = R 3 * (a 0 0).toInt64 + R 4 * (a 0 1).toInt64 + R 5 * (a 0 2).toInt64 + miP (a 0 0).toInt64 (a 0 1).toInt64 (a 0 2).toInt64 (a 1 0).toInt64 (a 1 1).toInt64 (a 1 2).toInt64 (a 2 0).toInt64 (a 2 1).toInt64 (a 2 2).toInt64 * bbL a 0 := by
    have e : R 0 = (((0 + R 3 * (a 0 0).toInt64) + R 4 * (a 0 1).toInt64) + R 5 * (a 0 2).toInt64) + f 1 * bbL a 0 := hR.2 0 (by decide) 0 (by decide)
    rw [e, f1, Int64.zero_add]
  have t1 : R 1 = R 3 * (a 1 0).toInt64 + R 4 * (a 1 1).toInt64 + R 5 * (a 1 2).toInt64 + miP (a 0 0).toInt64 (a 0 1).toInt64 (a 0 2).toInt64 (a 1 0).toInt64 (a 1 1).toInt64 (a 1 2).toInt64 (a 2 0).toInt64 (a 2 1).toInt64 (a 2 2).toInt64 * bbL a 1 := by
    have e : R 1 = (((0 + R 3 * (a 1 0).toInt64) + R 4 * (a 1 1).toInt64) + R 5 * (a 1 2).toInt64) + f 1 * bbL a 1 := hR.2 0 (by decide) 1 (by decide)
    rw [e, f1, Int64.zero_add]
  have t2 : R 2 = R 3 * (a 2 0).toInt64 + R 4 * (a 2 1).toInt64 + R 5 * (a 2 2).toInt64 + miP (a 0 0).toInt64 (a 0 1).toInt64 (a 0 2).toInt64 (a 1 0).toInt64 (a 1 1).toInt64 (a 1 2).toInt64 (a 2 0).toInt64 (a 2 1).toInt64 (a 2 2).toInt64 * bbL a 2 := by
    have e : R 2 = (((0 + R 3 * (a 2 0).toInt64) + R 4 * (a 2 1).toInt64) + R 5 * (a 2 2).toInt64) + f 1 * bbL a 2 := hR.2 0 (by decide) 2 (by decide)
    rw [e, f1, Int64.zero_add]
  have l0 : lastV 3 Q 0 = bbL a 1 * Q 5 - bbL a 2 * Q 4 := by rw [← Q1, ← Q2]; rfl
  have l1 : lastV 3 Q 1 = bbL a 2 * Q 3 - bbL a 0 * Q 5 := by rw [← Q0, ← Q2]; rfl
  have l2 : lastV 3 Q 2 = bbL a 0 * Q 4 - bbL a 1 * Q 3 := by rw [← Q0, ← Q1]; rfl
  have y0 : y 0 = -(deP (a 0 0).toInt64 (a 0 1).toInt64 (a 0 2).toInt64 (a 1 0).toInt64 (a 1 1).toInt64 (a 1 2).toInt64 (a 2 0).toInt64 (a 2 1).toInt64 (a 2 2).toInt64) - z0.toInt64 := by rw [hy 0 (by decide), ← f0]; rfl
  have y1 : y 1 = miP (a 0 0).toInt64 (a 0 1).toInt64 (a 0 2).toInt64 (a 1 0).toInt64 (a 1 1).toInt64 (a 1 2).toInt64 (a 2 0).toInt64 (a 2 1).toInt64 (a 2 2).toInt64 - z1.toInt64 := by rw [hy 1 (by decide), ← f1]; rfl
  have y2 : y 2 = -(trP (a 0 0).toInt64 (a 1 1).toInt64 (a 2 2).toInt64) - z2.toInt64 := by rw [hy 2 (by decide), ← f2]; rfl
  constructor
  · have key := gn3_d ((a 0 0).toInt64) ((a 0 1).toInt64) ((a 0 2).toInt64) ((a 1 0).toInt64) ((a 1 1).toInt64) ((a 1 2).toInt64) ((a 2 0).toInt64) ((a 2 1).toInt64) ((a 2 2).toInt64) (bbL a 0) (bbL a 1) (bbL a 2) (Q 3) (Q 4) (Q 5) (R 3) (R 4) (R 5) (R 0) (R 1) (R 2) v0 v1 v2 s0 s1 s2 t0 t1 t2 (Q 6) (Q 7) (Q 8) w0 w1 w2
    show R 0 * (R 4 * R 8 - R 5 * R 7) - R 1 * (R 3 * R 8 - R 5 * R 6) + R 2 * (R 3 * R 7 - R 4 * R 6) = -(Q 0 * (Q 4 * Q 8 - Q 5 * Q 7) - Q 1 * (Q 3 * Q 8 - Q 5 * Q 6) + Q 2 * (Q 3 * Q 7 - Q 4 * Q 6))
    rw [R6, R7, R8, Q0, Q1, Q2]
    exact key
  · intro i hi
    match i, hi with
    | 0, _ =>
      have key := gn3_0 ((a 0 0).toInt64) ((a 0 1).toInt64) ((a 0 2).toInt64) ((a 1 0).toInt64) ((a 1 1).toInt64) ((a 1 2).toInt64) ((a 2 0).toInt64) ((a 2 1).toInt64) ((a 2 2).toInt64) (bbL a 0) (bbL a 1) (bbL a 2) z0.toInt64 z1.toInt64 z2.toInt64 (Q 3) (Q 4) (Q 5) (R 3) (R 4) (R 5) (R 0) (R 1) (R 2) (lastV 3 Q 0) (lastV 3 Q 1) (lastV 3 Q 2) (y 0) (y 1) (y 2) v0 v1 v2 s0 s1 s2 t0 t1 t2 l0 l1 l2 y0 y1 y2
      show y 0 * (R 4 * R 8 - R 5 * R 7) - R 1 * (y 1 * R 8 - R 5 * y 2) + R 2 * (y 1 * R 7 - R 4 * y 2) = -(-(((0 + lastV 3 Q 0 * tdS a (byS 3 z0 z1 z2) 4 0) + lastV 3 Q 1 * tdS a (byS 3 z0 z1 z2) 4 3) + lastV 3 Q 2 * tdS a (byS 3 z0 z1 z2) 4 6))
      rw [R7, R8, td3_0, td3_3, td3_6, Int64.neg_neg, Int64.zero_add]
      exact key
    | 1, _ =>
      have key := gn3_1 ((a 0 0).toInt64) ((a 0 1).toInt64) ((a 0 2).toInt64) ((a 1 0).toInt64) ((a 1 1).toInt64) ((a 1 2).toInt64) ((a 2 0).toInt64) ((a 2 1).toInt64) ((a 2 2).toInt64) (bbL a 0) (bbL a 1) (bbL a 2) z0.toInt64 z1.toInt64 z2.toInt64 (Q 3) (Q 4) (Q 5) (R 3) (R 4) (R 5) (R 0) (R 1) (R 2) (lastV 3 Q 0) (lastV 3 Q 1) (lastV 3 Q 2) (y 0) (y 1) (y 2) v0 v1 v2 s0 s1 s2 t0 t1 t2 l0 l1 l2 y0 y1 y2
      show R 0 * (y 1 * R 8 - R 5 * y 2) - y 0 * (R 3 * R 8 - R 5 * R 6) + R 2 * (R 3 * y 2 - y 1 * R 6) = -(-(((0 + lastV 3 Q 0 * tdS a (byS 3 z0 z1 z2) 4 1) + lastV 3 Q 1 * tdS a (byS 3 z0 z1 z2) 4 4) + lastV 3 Q 2 * tdS a (byS 3 z0 z1 z2) 4 7))
      rw [R6, R8, td3_1, td3_4, td3_7, Int64.neg_neg, Int64.zero_add]
      exact key
    | 2, _ =>
      have key := gn3_2 ((a 0 0).toInt64) ((a 0 1).toInt64) ((a 0 2).toInt64) ((a 1 0).toInt64) ((a 1 1).toInt64) ((a 1 2).toInt64) ((a 2 0).toInt64) ((a 2 1).toInt64) ((a 2 2).toInt64) (bbL a 0) (bbL a 1) (bbL a 2) z0.toInt64 z1.toInt64 z2.toInt64 (Q 3) (Q 4) (Q 5) (R 3) (R 4) (R 5) (R 0) (R 1) (R 2) (lastV 3 Q 0) (lastV 3 Q 1) (lastV 3 Q 2) (y 0) (y 1) (y 2) v0 v1 v2 s0 s1 s2 t0 t1 t2 l0 l1 l2 y0 y1 y2
      show R 0 * (R 4 * y 2 - y 1 * R 7) - R 1 * (R 3 * y 2 - y 1 * R 6) + y 0 * (R 3 * R 7 - R 4 * R 6) = -(-(((0 + lastV 3 Q 0 * tdS a (byS 3 z0 z1 z2) 4 2) + lastV 3 Q 1 * tdS a (byS 3 z0 z1 z2) 4 5) + lastV 3 Q 2 * tdS a (byS 3 z0 z1 z2) 4 8))
      rw [R6, R7, td3_2, td3_5, td3_8, Int64.neg_neg, Int64.zero_add]
      exact key
theorem td2_0 : tdS a (byS 2 z0 z1 z2) 3 0 = z0.toInt64 + z1.toInt64 * (a 0 0).toInt64 + ((a 0 0).toInt64 * (a 0 0).toInt64 + (a 0 1).toInt64 * (a 1 0).toInt64 + (a 0 2).toInt64 * (a 2 0).toInt64) := by
  show ((0 + z0.toInt64 * 1) + z1.toInt64 * rP a 1 0) + 1 * rP a 2 0 = _
  rw [rp1_0, rp2_0]
  simp only [Int64.zero_add, Int64.mul_one, Int64.one_mul, Int64.mul_zero]
theorem td2_1 : tdS a (byS 2 z0 z1 z2) 3 1 = z1.toInt64 * (a 0 1).toInt64 + ((a 0 0).toInt64 * (a 0 1).toInt64 + (a 0 1).toInt64 * (a 1 1).toInt64 + (a 0 2).toInt64 * (a 2 1).toInt64) := by
  show ((0 + z0.toInt64 * 0) + z1.toInt64 * rP a 1 1) + 1 * rP a 2 1 = _
  rw [rp1_1, rp2_1]
  simp only [Int64.zero_add, Int64.mul_one, Int64.one_mul, Int64.mul_zero]
theorem td2_3 : tdS a (byS 2 z0 z1 z2) 3 3 = z1.toInt64 * (a 1 0).toInt64 + ((a 1 0).toInt64 * (a 0 0).toInt64 + (a 1 1).toInt64 * (a 1 0).toInt64 + (a 1 2).toInt64 * (a 2 0).toInt64) := by
  show ((0 + z0.toInt64 * 0) + z1.toInt64 * rP a 1 3) + 1 * rP a 2 3 = _
  rw [rp1_3, rp2_3]
  simp only [Int64.zero_add, Int64.mul_one, Int64.one_mul, Int64.mul_zero]
theorem td2_4 : tdS a (byS 2 z0 z1 z2) 3 4 = z0.toInt64 + z1.toInt64 * (a 1 1).toInt64 + ((a 1 0).toInt64 * (a 0 1).toInt64 + (a 1 1).toInt64 * (a 1 1).toInt64 + (a 1 2).toInt64 * (a 2 1).toInt64) := by
  show ((0 + z0.toInt64 * 1) + z1.toInt64 * rP a 1 4) + 1 * rP a 2 4 = _
  rw [rp1_4, rp2_4]
  simp only [Int64.zero_add, Int64.mul_one, Int64.one_mul, Int64.mul_zero]
theorem alg2 (hR : svR 2 a f R) (hI : svI 2 R) (hQ : isCv false a c 1 2 Q) (hf : ∀ j, j < 4 → f j = fmW 2 (trP (a 0 0).toInt64 (a 1 1).toInt64 (a 2 2).toInt64) (miP (a 0 0).toInt64 (a 0 1).toInt64 (a 0 2).toInt64 (a 1 0).toInt64 (a 1 1).toInt64 (a 1 2).toInt64 (a 2 0).toInt64 (a 2 1).toInt64 (a 2 2).toInt64) (deP (a 0 0).toInt64 (a 0 1).toInt64 (a 0 2).toInt64 (a 1 0).toInt64 (a 1 1).toInt64 (a 1 2).toInt64 (a 2 0).toInt64 (a 2 1).toInt64 (a 2 2).toInt64) j) (hy : ∀ i, i < 3 → y i = rhY 2 f z0 z1 z2 i) (x02 : a 0 2 = 0) (x12 : a 1 2 = 0) (x20 : a 2 0 = 0) (x21 : a 2 1 = 0) (x22 : a 2 2 = 0) (xb : bbL a 2 = 0) :
    dt3 R 0 1 2 = -(detV 2 Q) ∧ ∀ i, i < 2 → dt3 (swp R y i) 0 1 2 = -(ovS 2 Q (tdS a (byS 2 z0 z1 z2) 3) i) := by
  have o0 : (0 : Int32).toInt64 = 0 := rfl
  have f1 : f 1 = -((a 0 0).toInt64 + (a 1 1).toInt64) := by
    have e : f 1 = -(trP (a 0 0).toInt64 (a 1 1).toInt64 (a 2 2).toInt64) := hf 1 (by decide)
    rw [e, x22, o0]; unfold trP; rw [Int64.add_zero]
  have f0 : f 0 = (a 0 0).toInt64 * (a 1 1).toInt64 - (a 0 1).toInt64 * (a 1 0).toInt64 := by
    have e : f 0 = miP (a 0 0).toInt64 (a 0 1).toInt64 (a 0 2).toInt64 (a 1 0).toInt64 (a 1 1).toInt64 (a 1 2).toInt64 (a 2 0).toInt64 (a 2 1).toInt64 (a 2 2).toInt64 := hf 0 (by decide)
    rw [e, x22, x02, x12, x20, x21, o0]; unfold miP; grind
  have R3 : R 3 = bbL a 0 := hR.1 0 (by decide)
  have R4 : R 4 = bbL a 1 := hR.1 1 (by decide)
  have R5 : R 5 = bbL a 2 := hR.1 2 (by decide)
  have R6 : R 6 = 0 := hI 2 0 (by decide) (by decide) (by decide)
  have R7 : R 7 = 0 := hI 2 1 (by decide) (by decide) (by decide)
  have R8 : R 8 = 1 := hI 2 2 (by decide) (by decide) (by decide)
  have Q0 : Q 0 = bbL a 0 := hQ.1 0 (by decide) 0 (by decide)
  have Q1 : Q 1 = bbL a 1 := hQ.1 0 (by decide) 1 (by decide)
  have Q2 : Q 2 = bbL a 2 := hQ.1 0 (by decide) 2 (by decide)
  have v0 : Q 3 = bbL a 0 * (a 0 0).toInt64 + bbL a 1 * (a 0 1).toInt64 := by
    have e : Q 3 = ((0 + Q 0 * (a 0 0).toInt64) + Q 1 * (a 0 1).toInt64) + Q 2 * (a 0 2).toInt64 := hQ.2 1 (by decide) (by decide) 0 (by decide)
    rw [e, Q0, Q1, Q2, Int64.zero_add, xb, Int64.zero_mul, Int64.add_zero]
  have v1 : Q 4 = bbL a 0 * (a 1 0).toInt64 + bbL a 1 * (a 1 1).toInt64 := by
    have e : Q 4 = ((0 + Q 0 * (a 1 0).toInt64) + Q 1 * (a 1 1).toInt64) + Q 2 * (a 1 2).toInt64 := hQ.2 1 (by decide) (by decide) 1 (by decide)
    rw [e, Q0, Q1, Q2, Int64.zero_add, xb, Int64.zero_mul, Int64.add_zero]
  have t0 : R 0 = Q 3 - ((a 0 0).toInt64 + (a 1 1).toInt64) * bbL a 0 := by
    have e : R 0 = (((0 + R 3 * (a 0 0).toInt64) + R 4 * (a 0 1).toInt64) + R 5 * (a 0 2).toInt64) + f 1 * bbL a 0 := hR.2 0 (by decide) 0 (by decide)
    rw [e, f1, R3, R4, R5, xb, v0]
    grind
  have t1 : R 1 = Q 4 - ((a 0 0).toInt64 + (a 1 1).toInt64) * bbL a 1 := by
    have e : R 1 = (((0 + R 3 * (a 1 0).toInt64) + R 4 * (a 1 1).toInt64) + R 5 * (a 1 2).toInt64) + f 1 * bbL a 1 := hR.2 0 (by decide) 1 (by decide)
    rw [e, f1, R3, R4, R5, xb, v1]
    grind
  have y0 : y 0 = ((a 0 0).toInt64 * (a 1 1).toInt64 - (a 0 1).toInt64 * (a 1 0).toInt64) - z0.toInt64 := by rw [hy 0 (by decide), ← f0]; rfl
  have y1 : y 1 = -((a 0 0).toInt64 + (a 1 1).toInt64) - z1.toInt64 := by rw [hy 1 (by decide), ← f1]; rfl
  have y2 : y 2 = 0 := hy 2 (by decide)
  constructor
  · have key := gn2_d ((a 0 0).toInt64) ((a 0 1).toInt64) ((a 1 0).toInt64) ((a 1 1).toInt64) (bbL a 0) (bbL a 1) (Q 3) (Q 4) (R 0) (R 1) v0 v1 t0 t1
    show R 0 * (R 4 * R 8 - R 5 * R 7) - R 1 * (R 3 * R 8 - R 5 * R 6) + R 2 * (R 3 * R 7 - R 4 * R 6) = -(Q 0 * Q 4 - Q 1 * Q 3)
    rw [R3, R4, R5, R6, R7, R8, Q0, Q1, ← key, xb]
    grind
  · intro i hi
    match i, hi with
    | 0, _ =>
      have key := gn2_0 ((a 0 0).toInt64) ((a 0 1).toInt64) ((a 1 0).toInt64) ((a 1 1).toInt64) (bbL a 0) (bbL a 1) (Q 3) (Q 4) (R 0) (R 1) z0.toInt64 z1.toInt64 (y 0) (y 1) v0 v1 t0 t1 y0 y1
      show y 0 * (R 4 * R 8 - R 5 * R 7) - R 1 * (y 1 * R 8 - R 5 * y 2) + R 2 * (y 1 * R 7 - R 4 * y 2) = -(-((0 + (-Q 1) * tdS a (byS 2 z0 z1 z2) 3 0) + Q 0 * tdS a (byS 2 z0 z1 z2) 3 3))
      rw [R4, R5, R7, R8, y2, td2_0, td2_3, Int64.neg_neg, Int64.zero_add, Q0, Q1, x02, x12, xb, o0]
      grind
    | 1, _ =>
      have key := gn2_1 ((a 0 0).toInt64) ((a 0 1).toInt64) ((a 1 0).toInt64) ((a 1 1).toInt64) (bbL a 0) (bbL a 1) (Q 3) (Q 4) (R 0) (R 1) z0.toInt64 z1.toInt64 (y 0) (y 1) v0 v1 t0 t1 y0 y1
      show R 0 * (y 1 * R 8 - R 5 * y 2) - y 0 * (R 3 * R 8 - R 5 * R 6) + R 2 * (R 3 * y 2 - y 1 * R 6) = -(-((0 + (-Q 1) * tdS a (byS 2 z0 z1 z2) 3 1) + Q 0 * tdS a (byS 2 z0 z1 z2) 3 4))
      rw [R3, R5, R6, R8, y2, td2_1, td2_4, Int64.neg_neg, Int64.zero_add, Q0, Q1, x02, x12, xb, o0]
      grind
theorem alg1 (hR : svR 1 a f R) (hI : svI 1 R) (hQ : isCv false a c 1 1 Q) (hf : ∀ j, j < 4 → f j = fmW 1 (trP (a 0 0).toInt64 (a 1 1).toInt64 (a 2 2).toInt64) (miP (a 0 0).toInt64 (a 0 1).toInt64 (a 0 2).toInt64 (a 1 0).toInt64 (a 1 1).toInt64 (a 1 2).toInt64 (a 2 0).toInt64 (a 2 1).toInt64 (a 2 2).toInt64) (deP (a 0 0).toInt64 (a 0 1).toInt64 (a 0 2).toInt64 (a 1 0).toInt64 (a 1 1).toInt64 (a 1 2).toInt64 (a 2 0).toInt64 (a 2 1).toInt64 (a 2 2).toInt64) j) (hy : ∀ i, i < 3 → y i = rhY 1 f z0 z1 z2 i) (x11 : a 1 1 = 0) (x22 : a 2 2 = 0) :
    dt3 R 0 1 2 = detV 1 Q ∧ dt3 (swp R y 0) 0 1 2 = ovS 1 Q (tdS a (byS 1 z0 z1 z2) 2) 0 := by
  have o0 : (0 : Int32).toInt64 = 0 := rfl
  have f0 : f 0 = -((a 0 0).toInt64) := by
    have e : f 0 = -(trP (a 0 0).toInt64 (a 1 1).toInt64 (a 2 2).toInt64) := hf 0 (by decide)
    rw [e, x11, x22, o0]; unfold trP; rw [Int64.add_zero, Int64.add_zero]
  have R0 : R 0 = bbL a 0 := hR.1 0 (by decide)
  have R3 : R 3 = 0 := hI 1 0 (by decide) (by decide) (by decide)
  have R4 : R 4 = 1 := hI 1 1 (by decide) (by decide) (by decide)
  have R5 : R 5 = 0 := hI 1 2 (by decide) (by decide) (by decide)
  have R6 : R 6 = 0 := hI 2 0 (by decide) (by decide) (by decide)
  have R7 : R 7 = 0 := hI 2 1 (by decide) (by decide) (by decide)
  have R8 : R 8 = 1 := hI 2 2 (by decide) (by decide) (by decide)
  have Q0 : Q 0 = bbL a 0 := hQ.1 0 (by decide) 0 (by decide)
  have y0 : y 0 = -((a 0 0).toInt64) - z0.toInt64 := by rw [hy 0 (by decide), ← f0]; rfl
  have y1 : y 1 = 0 := hy 1 (by decide)
  have y2 : y 2 = 0 := hy 2 (by decide)
  constructor
  · show R 0 * (R 4 * R 8 - R 5 * R 7) - R 1 * (R 3 * R 8 - R 5 * R 6) + R 2 * (R 3 * R 7 - R 4 * R 6) = Q 0
    rw [R0, R3, R4, R5, R6, R7, R8, Q0]
    grind
  · show y 0 * (R 4 * R 8 - R 5 * R 7) - R 1 * (y 1 * R 8 - R 5 * y 2) + R 2 * (y 1 * R 7 - R 4 * y 2) = -(0 + 1 * ((0 + z0.toInt64 * 1) + 1 * rP a 1 0))
    rw [R4, R5, R7, R8, y0, y1, y2, rp1_0]
    grind
end
