/-! reduced pairs -/
def bd62 (x : Int64) : Prop := -4611686018427387904 ≤ x.toInt ∧ x.toInt ≤ 4611686018427387904
theorem dvL_int {x : Int64} {g : Nat} (hx : bd62 x) (hg : 0 < g) (hg2 : g ≤ 4611686018427387904) : (x / jL g).toInt = x.toInt.tdiv (g : Int) ∧ bd62 (x / jL g) := by
  have e : (x.toInt.tdiv (g : Int)).natAbs = x.toInt.natAbs / g := by rw [Int.natAbs_tdiv]; rfl
  have le : x.toInt.natAbs / g ≤ x.toInt.natAbs := Nat.div_le_self _ _
  unfold bd62 at hx ⊢
  obtain ⟨d, hd⟩ : ∃ d, d = x.toInt.tdiv (g : Int) := ⟨_, rfl⟩
  obtain ⟨p, hp⟩ : ∃ p, p = x.toInt.natAbs / g := ⟨_, rfl⟩
  have e1 : (x / jL g).toInt = d := by
    rw [Int64.toInt_div, jL_int (by omega), ← hd]
    rw [← hd, ← hp] at e
    rw [← hp] at le
    exact Int.bmod_eq_of_le (by omega) (by omega)
  rw [← hd, ← hp] at e
  rw [← hp] at le
  rw [e1, ← hd]
  omega
theorem negL_int {x : Int64} (hx : bd62 x) : (-x).toInt = -x.toInt ∧ bd62 (-x) := by
  unfold bd62 at hx ⊢
  have e : (-x).toInt = -x.toInt := by
    rw [Int64.toInt_neg]
    exact Int.bmod_eq_of_le (by omega) (by omega)
  rw [e]
  omega
theorem neg_dv {x : Int64} {g : Nat} (hx : bd62 x) (hg : 0 < g) (hg2 : g ≤ 4611686018427387904) : (-x) / jL g = -(x / jL g) := by
  obtain ⟨n1, n2⟩ := negL_int hx
  obtain ⟨d1, d2⟩ := dvL_int hx hg hg2
  obtain ⟨d3, -⟩ := dvL_int n2 hg hg2
  obtain ⟨m1, -⟩ := negL_int d2
  apply Int64.toInt_inj.mp
  rw [d3, n1, m1, d1, Int.neg_tdiv]
theorem dv_neg {x : Int64} {g : Nat} (hx : bd62 x) (hg : 0 < g) (hg2 : g ≤ 4611686018427387904) : x / (-(jL g)) = -(x / jL g) := by
  obtain ⟨d1, d2⟩ := dvL_int hx hg hg2
  obtain ⟨m1, -⟩ := negL_int d2
  have hb : bd62 (jL g) := by unfold bd62; rw [jL_int (by omega)]; omega
  apply Int64.toInt_inj.mp
  rw [m1, d1, Int64.toInt_div, (negL_int hb).1, jL_int (by omega), Int.tdiv_neg, ← d1]
  unfold bd62 at d2
  exact Int.bmod_eq_of_le (by omega) (by omega)
/-- the class's pair by its sign, the reference's by its own -/
theorem red_one {x y : Int64} {g : Nat} (hx : bd62 x) (hg : 0 < g) (hg2 : g ≤ 4611686018427387904) :
    (if 0 ≤ lg_cmp y 0 then 1 * (x / jL g) else (-1) * (x / jL g)) = (if 0 ≤ lg_cmp y 0 then x / jL g else x / (-(jL g))) := by
  by_cases q : 0 ≤ lg_cmp y 0
  · rw [if_pos q, if_pos q, Int64.one_mul]
  · rw [if_neg q, if_neg q, dv_neg hx hg hg2]
    grind
theorem red_neg {x y : Int64} {g : Nat} (hx : bd62 x) (hy : bd62 y) (h0 : y ≠ 0) (hg : 0 < g) (hg2 : g ≤ 4611686018427387904) :
    (if 0 ≤ lg_cmp (-y) 0 then 1 * ((-x) / jL g) else (-1) * ((-x) / jL g)) = (if 0 ≤ lg_cmp y 0 then x / jL g else x / (-(jL g))) := by
  have hy0 : y.toInt ≠ 0 := fun z => h0 (Int64.toInt_inj.mp z)
  have z0 : (0 : Int64).toInt = 0 := rfl
  by_cases q : 0 ≤ lg_cmp y 0
  · have q1 := (lg_cmp_ge _ _).mp q
    rw [Int64.le_iff_toInt_le, z0] at q1
    rw [if_pos q, if_neg (fun u => by
      have := (lg_cmp_ge _ _).mp u
      rw [Int64.le_iff_toInt_le, (negL_int hy).1, z0] at this
      omega), neg_dv hx hg hg2]
    grind
  · rw [if_neg q, if_pos (by
      apply (lg_cmp_ge _ _).mpr
      rw [Int64.le_iff_toInt_le, (negL_int hy).1, z0]
      have : ¬ (0 : Int64) ≤ y := fun u => q ((lg_cmp_ge _ _).mpr u)
      rw [Int64.le_iff_toInt_le, z0] at this
      omega), neg_dv hx hg hg2, dv_neg hx hg hg2, Int64.one_mul]
theorem jabs_at {x : Int64} (hx : bd62 x) : jabsL x = jL x.toInt.natAbs := by
  apply Int64.toInt_inj.mp
  unfold bd62 at hx
  rw [jL_int (by omega)]
  unfold jabsL
  have z0 : (0 : Int64).toInt = 0 := rfl
  by_cases q : 0 < x
  · rw [if_pos q]
    rw [Int64.lt_iff_toInt_lt, z0] at q
    omega
  · rw [if_neg q, (negL_int hx).1]
    rw [Int64.lt_iff_toInt_lt, z0] at q
    omega
