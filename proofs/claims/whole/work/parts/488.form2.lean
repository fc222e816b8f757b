/-! the form of A: the reference's, and that the two are one -/
def trR (g : Nat → Int32) : Nat → Nat → Int32 → Int32
  | _, 0, x => x
  | i, k + 1, x => trR g (i + 1) k (x + g (4 * i))
def prR (g : Nat → Int32) (n : Nat) : Int32 := if n ≤ 2 then (g 0 * g 4) - (g 1 * g 3) else ((g 0 * g 4) - (g 1 * g 3)) + ((((g 0 * g 8) - (g 2 * g 6)) + (g 4 * g 8)) - (g 5 * g 7))
def d32 (g : Nat → Int32) : Int32 := ((g 0 * ((g 4 * g 8) - (g 5 * g 7))) - (g 1 * ((g 3 * g 8) - (g 5 * g 6)))) + (g 2 * ((g 3 * g 7) - (g 4 * g 6)))
def fmR (g : Nat → Int32) (n p : Nat) (tr : Int32) : Int32 := if n - p = 0 then 1 else if n - p = 1 then -tr else if n - p = 2 then prR g n else -(d32 g)
section
variable {wd : Int64} {t : Nat} {fv nv : Value} {A : Nat → Nat → Int32} {m F : Nat → Nat} {B : Nat → Nat → Int32} {W : Nat → Int64} {G : Nat → Nat} {S : Nat → Int32} {V : Nat → Nat → Int32} {Z : Nat → Nat → Int64} {h : aH}
theorem fm15_go (C : RC h S wd t fv nv V Z A m F B W G) {n p : Nat} (h3 : n ≤ 3) (hp : p ≤ n) : ∀ (k i f : Nat) (tr : Int32), i + k = n → k < f →
    s_X14_formOf_15 f 104 (jI p) (jI n) tr (jI i) h = some (.inl (some (.int (fmR (V 163) n p (trR (V 163) i k tr)))), h)
  | _, _, 0, _, _, hf => by omega
  | 0, i, f + 1, tr, hi, hf => by
    have g45 : gO h (.ref 104) 14 45 = some 163 := gO_of (ltE (by decide)) C.1.1 rfl
    have l163 : ∀ j, j < 9 → ldI .int h (.ref 163) (jI j) = some (V 163 j) := fun j hj => C.1.ld (a := 163) rfl hj
    have a0 : ldI .int h (.ref 163) 0 = some (V 163 0) := l163 0 (by decide)
    have a1 : ldI .int h (.ref 163) 1 = some (V 163 1) := l163 1 (by decide)
    have a2 : ldI .int h (.ref 163) 2 = some (V 163 2) := l163 2 (by decide)
    have a3 : ldI .int h (.ref 163) 3 = some (V 163 3) := l163 3 (by decide)
    have a4 : ldI .int h (.ref 163) 4 = some (V 163 4) := l163 4 (by decide)
    have a5 : ldI .int h (.ref 163) 5 = some (V 163 5) := l163 5 (by decide)
    have a6 : ldI .int h (.ref 163) 6 = some (V 163 6) := l163 6 (by decide)
    have a7 : ldI .int h (.ref 163) 7 = some (V 163 7) := l163 7 (by decide)
    have a8 : ldI .int h (.ref 163) 8 = some (V 163 8) := l163 8 (by decide)
    have tail : ∀ pr : Int32, pr = prR (V 163) n → s_X14_formOf_137 104 (jI p) (jI n) tr pr h = some (.inl (some (.int (fmR (V 163) n p tr))), h) := by
      intro pr hpr
      have e : s_X14_formOf_137 104 (jI p) (jI n) tr pr h = if jI (n - p) = 0 then some (.inl (some (.int 1)), h) else if jI (n - p) = 1 then some (.inl (some (.int (-tr))), h) else if jI (n - p) = 2 then some (.inl (some (.int pr)), h) else some (.inl (some (.int (-(d32 (V 163))))), h) := by
        unfold s_X14_formOf_137
        simp only [g45, Option.bind_some, a0, a1, a2, a3, a4, a5, a6, a7, a8]
        rw [jI_sub hp]
        rfl
      rw [e]
      unfold fmR
      by_cases q0 : n - p = 0
      · rw [if_pos (show jI (n - p) = 0 by rw [q0]; rfl), if_pos q0]
      · rw [if_neg (show ¬ jI (n - p) = 0 from fun u => q0 ((jI_inj (k := 0) (by omega) (by omega)).mp u)), if_neg q0]
        by_cases q1 : n - p = 1
        · rw [if_pos (show jI (n - p) = 1 by rw [q1]; rfl), if_pos q1]
        · rw [if_neg (show ¬ jI (n - p) = 1 from fun u => q1 ((jI_inj (k := 1) (by omega) (by omega)).mp u)), if_neg q1]
          by_cases q2 : n - p = 2
          · rw [if_pos (show jI (n - p) = 2 by rw [q2]; rfl), if_pos q2, hpr]
          · rw [if_neg (show ¬ jI (n - p) = 2 from fun u => q2 ((jI_inj (k := 2) (by omega) (by omega)).mp u)), if_neg q2]
    show s_X14_formOf_15_b (s_X14_formOf_15 f) 104 (jI p) (jI n) tr (jI i) h = some (.inl (some (.int (fmR (V 163) n p tr))), h)
    unfold s_X14_formOf_15_b
    rw [if_pos ((jI_le (by omega) (by omega)).mpr (by omega))]
    simp only [g45, Option.bind_some, a0, a1, a2, a3, a4, a5, a6, a7, a8]
    by_cases n2 : n ≤ 2
    · rw [if_pos (show jI n ≤ 2 from (jI_le (k := 2) (by omega) (by omega)).mpr n2)]
      exact tail _ (by unfold prR; rw [if_pos n2])
    · rw [if_neg (show ¬ jI n ≤ 2 from fun u => n2 ((jI_le (k := 2) (by omega) (by omega)).mp u))]
      exact tail _ (by unfold prR; rw [if_neg n2])
  | k + 1, i, f + 1, tr, hi, hf => by
    have g45 : gO h (.ref 104) 14 45 = some 163 := gO_of (ltE (by decide)) C.1.1 rfl
    have l163 : ldI .int h (.ref 163) (jI (4 * i)) = some (V 163 (4 * i)) := C.1.ld (a := 163) rfl (show 4 * i < 9 by omega)
    show s_X14_formOf_15_b (s_X14_formOf_15 f) 104 (jI p) (jI n) tr (jI i) h = _
    unfold s_X14_formOf_15_b
    rw [if_neg (fun u => by have := (jI_le (by omega) (by omega)).mp u; omega), g45, Option.bind_some, show 4 * jI i = jI (4 * i) by rw [show (4 : Int32) = jI 4 from rfl, jI_mul], l163, Option.bind_some, jI_inc]
    exact fm15_go C h3 hp k (i + 1) f _ (by omega) (by omega)
theorem RC.formOf (C : RC h S wd t fv nv V Z A m F B W G) {p : Nat} (hp : p ≤ m 0) : s_X14_formOf 104 (jI p) h = some (.inl (some (.int (fmR (V 163) (m 0) p (trR (V 163) 0 (m 0) 0)))), h) := by
  have h3 := C.2.2.2.2.1.1.1.1
  have hT := C.2.1.1
  have g4 : gO h (.ref 104) 14 4 = some t := gO_of (ltE (by decide)) C.1.1 rfl
  have g0 : gO h (.ref t) 13 0 = some (t + 1) := gO_of (by omega) C.2.1.2.1 rfl
  have l0 : ldI .int h (.ref (t + 1)) 0 = some (jI (m 0)) := (C.2.2.2.1.1 0 (by decide)) ▸ C.2.1.ld (j := 0) (by decide) (by decide) (by decide) (by decide)
  unfold s_X14_formOf
  rw [g4, Option.bind_some, g0, Option.bind_some, l0, Option.bind_some]
  exact fm15_go C h3 hp (m 0) 0 FU 0 (by omega) (by show m 0 < 1000000; omega)
end
theorem de_32 (g : Nat → Int32) : (deV g).toInt32 = d32 g := by
  unfold deV dt3 d32
  simp only [Int64.toInt32_add, Int64.toInt32_sub, Int64.toInt32_mul, Int32.toInt32_toInt64]
/-- one form -/
theorem form_one {g : Nat → Int32} {n p : Nat} (h1 : 1 ≤ n) (h3 : n ≤ 3) (hp : p ≤ n) (z : ∀ r k, r < 3 → k < 3 → (n ≤ r ∨ n ≤ k) → g (r * 3 + k) = 0) :
    (fmW n (trV g).toInt64 (miV g).toInt64 (deV g) p).toInt32 = fmR g n p (trR g 0 n 0) := by
  have z8 : n ≤ 2 → g 8 = 0 := fun q => z 2 2 (by decide) (by decide) (Or.inl q)
  have z7 : n ≤ 2 → g 7 = 0 := fun q => z 2 1 (by decide) (by decide) (Or.inl q)
  have z6 : n ≤ 2 → g 6 = 0 := fun q => z 2 0 (by decide) (by decide) (Or.inl q)
  have z4 : n ≤ 1 → g 4 = 0 := fun q => z 1 1 (by decide) (by decide) (Or.inl q)
  unfold fmW fmR
  by_cases q0 : p = n
  · rw [if_pos q0, if_pos (show n - p = 0 by omega)]
    rfl
  · rw [if_neg q0, if_neg (show ¬ n - p = 0 by omega)]
    by_cases q1 : p + 1 = n
    · rw [if_pos q1, if_pos (show n - p = 1 by omega), Int64.toInt32_neg, Int32.toInt32_toInt64]
      congr 1
      unfold trV
      match n, h1, h3, z8, z4 with
      | 1, _, _, z8, z4 => show (g 0 + g 4) + g 8 = 0 + g (4 * 0); rw [z4 (by decide), z8 (by decide), Int32.add_zero, Int32.add_zero, Int32.zero_add]
      | 2, _, _, z8, z4 => show (g 0 + g 4) + g 8 = (0 + g (4 * 0)) + g (4 * 1); rw [z8 (by decide), Int32.add_zero, Int32.zero_add]
      | 3, _, _, z8, z4 => show (g 0 + g 4) + g 8 = ((0 + g (4 * 0)) + g (4 * 1)) + g (4 * 2); rw [Int32.zero_add]
    · rw [if_neg q1, if_neg (show ¬ n - p = 1 by omega)]
      by_cases q2 : p + 2 = n
      · rw [if_pos q2, if_pos (show n - p = 2 by omega), Int32.toInt32_toInt64]
        unfold miV prR
        by_cases n2 : n ≤ 2
        · rw [if_pos n2, z8 n2, z7 n2, z6 n2]
          simp only [Int32.mul_zero, Int32.add_zero, Int32.sub_zero]
        · rw [if_neg n2]
          grind
      · rw [if_neg q2, if_neg (show ¬ n - p = 2 by omega), if_pos (show p + 3 = n by omega), Int64.toInt32_neg, de_32]
