/-! bounds: the class's in ints, the reference's in longs -/
def cz (x : Int) : Int := max (-1000000) (min 1000000 x)
theorem cl6_int (x : Int32) : (cl6 x).toInt = cz x.toInt := by
  unfold cl6 cz jmax jmin
  have e1 : (1000000 : Int32).toInt = 1000000 := rfl
  have e2 : (-1000000 : Int32).toInt = -1000000 := rfl
  split
  · split at * <;> rename_i h1 h2
    all_goals (rw [Int32.lt_iff_toInt_lt] at *; omega)
  · split at * <;> rename_i h1 h2
    all_goals (rw [Int32.lt_iff_toInt_lt] at *; omega)
theorem bdR_int (x : Int64) : (bdR x).toInt = cz x.toInt := by
  unfold bdR cz
  have e1 : (1000000 : Int64).toInt = 1000000 := rfl
  have e2 : (-1000000 : Int64).toInt = -1000000 := rfl
  have key : (jmaxL (-1000000) (jminL 1000000 x)).toInt = max (-1000000) (min 1000000 x.toInt) := by
    unfold jmaxL jminL
    split
    · split at * <;> rename_i h1 h2
      all_goals (rw [Int64.lt_iff_toInt_lt] at *; omega)
    · split at * <;> rename_i h1 h2
      all_goals (rw [Int64.lt_iff_toInt_lt] at *; omega)
  rw [Int64.toInt_toInt32, key]
  exact Int.bmod_eq_of_le (by omega) (by omega)
def sm (M : Int) (x : Int32) : Prop := -M ≤ x.toInt ∧ x.toInt ≤ M
theorem cl6_sm (x : Int32) : sm 1000000 (cl6 x) := by
  unfold sm
  rw [cl6_int]
  unfold cz
  omega
theorem cl6_id {x : Int32} (h : sm 1000000 x) : cl6 x = x := by
  apply Int32.toInt_inj.mp
  rw [cl6_int]
  unfold sm at h
  unfold cz
  omega
theorem i64_of (x : Int32) : x.toInt64.toInt = x.toInt := Int32.toInt_toInt64 x
theorem bd_add {a b : Int32} (ha : sm 1000000 a) (hb : sm 1000000 b) : bdR (a.toInt64 + b.toInt64) = cl6 (a + b) := by
  unfold sm at ha hb
  apply Int32.toInt_inj.mp
  rw [bdR_int, cl6_int, Int64.toInt_add, Int32.toInt_add, i64_of, i64_of, Int.bmod_eq_of_le (by omega) (by omega), Int.bmod_eq_of_le (by omega) (by omega)]
theorem bd_sub {a b : Int32} (ha : sm 1000000 a) (hb : sm 1000000 b) : bdR (a.toInt64 - b.toInt64) = cl6 (a - b) := by
  unfold sm at ha hb
  apply Int32.toInt_inj.mp
  rw [bdR_int, cl6_int, Int64.toInt_sub, Int32.toInt_sub, i64_of, i64_of, Int.bmod_eq_of_le (by omega) (by omega), Int.bmod_eq_of_le (by omega) (by omega)]
theorem mul_rng {a b : Int} (ha : -1000000 ≤ a ∧ a ≤ 1000000) (hb : -1000 ≤ b ∧ b ≤ 1000) : -1000000000 ≤ a * b ∧ a * b ≤ 1000000000 := by
  have h1 : (a * b).natAbs = a.natAbs * b.natAbs := Int.natAbs_mul a b
  have h2 : a.natAbs * b.natAbs ≤ 1000000 * 1000 := Nat.mul_le_mul (by omega) (by omega)
  omega
theorem bd_mul {a b : Int32} (ha : sm 1000000 a) (hb : sm 1000 b) : bdR (a.toInt64 * b.toInt64) = cl6 (a * b) := by
  unfold sm at ha hb
  have hm := mul_rng ha hb
  apply Int32.toInt_inj.mp
  rw [bdR_int, cl6_int, Int64.toInt_mul, Int32.toInt_mul, i64_of, i64_of, Int.bmod_eq_of_le (by omega) (by omega), Int.bmod_eq_of_le (by omega) (by omega)]
theorem neg_sub0 (a : Int32) : 0 - a = -a := Int32.zero_sub a
