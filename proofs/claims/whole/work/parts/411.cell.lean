/-! cells as numbers -/
theorem i32_cancel (x y z : Int32) : (x + (y + z)) - y = x + z := by
  rw [Int32.sub_eq_add_neg, Int32.add_assoc, Int32.add_comm y z, Int32.add_assoc, Int32.add_right_neg, Int32.add_zero]
/-- a span as a text can tell it -/
def okR (A : Nat → Nat → Int32) (s : Nat) : Prop := -20 ≤ (A 3 s).toInt ∧ (A 3 s).toInt ≤ (A 4 s).toInt ∧ (A 4 s).toInt ≤ 20
theorem toInt_small {x y : Int32} (hx : -100 ≤ x.toInt ∧ x.toInt ≤ 100) (hy : -100 ≤ y.toInt ∧ y.toInt ≤ 100) : (x - y).toInt = x.toInt - y.toInt ∧ (x + y).toInt = x.toInt + y.toInt := by
  constructor
  · rw [Int32.toInt_sub]
    exact Int.bmod_eq_of_le (by omega) (by omega)
  · rw [Int32.toInt_add]
    exact Int.bmod_eq_of_le (by omega) (by omega)
theorem wdN_R {A : Nat → Nat → Int32} {s : Nat} (h : okR A s) : (wdN A 0 s : Int) = (A 4 s).toInt - (A 3 s).toInt + 1 ∧ wdN A 0 s ≤ 41 := by
  obtain ⟨h1, h2, h3⟩ := h
  have e1 := (toInt_small (x := A 4 s) (y := A 3 s) (by omega) (by omega)).1
  have e2 : (A 4 s - A 3 s + 1).toInt = (A 4 s).toInt - (A 3 s).toInt + 1 := by
    rw [(toInt_small (x := A 4 s - A 3 s) (y := 1) (by omega) (by decide)).2, e1]
    rfl
  have e3 : A 4 s - A 3 s + 1 + 2 * (0 : Int32) = A 4 s - A 3 s + 1 := by
    rw [show (2 : Int32) * 0 = 0 from rfl, Int32.add_zero]
  have e4 : (wdt A 0 s).toInt = (A 4 s).toInt - (A 3 s).toInt + 1 := by
    unfold wdt
    rw [e3]
    unfold jmax
    by_cases q : (1 : Int32) < A 4 s - A 3 s + 1
    · rw [if_pos q, e2]
    · rw [if_neg q]
      rw [Int32.lt_iff_toInt_lt, e2] at q
      have : (1 : Int32).toInt = 1 := rfl
      omega
  have e5 : wdN A 0 s = (wdt A 0 s).toInt.toNat := rfl
  omega
def digN (A : Nat → Nat → Int32) (f : Nat → Int32) (s : Nat) : Nat := ((f s).toInt - (A 3 s).toInt).toNat
def cellN (A : Nat → Nat → Int32) (f : Nat → Int32) : Nat → Nat → Nat → Nat
  | _, 0, c => c
  | i, n + 1, c => cellN A f (i + 1) n (c * wdN A 0 i + digN A f i)
theorem dig_of {A : Nat → Nat → Int32} {f : Nat → Int32} {s : Nat} (h : okR A s) (hf : A 3 s ≤ f s ∧ f s ≤ A 4 s) : f s = A 3 s + jI (digN A f s) ∧ digN A f s < wdN A 0 s := by
  obtain ⟨h1, h2, h3⟩ := id h
  have w1 := (wdN_R h).1
  have q1 := Int32.le_iff_toInt_le.mp hf.1
  have q2 := Int32.le_iff_toInt_le.mp hf.2
  have e0 : digN A f s = ((f s).toInt - (A 3 s).toInt).toNat := rfl
  have e1 : (jI (digN A f s)).toInt = (f s).toInt - (A 3 s).toInt := by
    rw [jI_int (by omega)]
    omega
  refine ⟨?_, by omega⟩
  apply Int32.toInt_inj.mp
  rw [(toInt_small (x := A 3 s) (y := jI (digN A f s)) (by omega) (by omega)).2, e1]
  omega
theorem cellGo_N {A : Nat → Nat → Int32} {f : Nat → Int32} : ∀ (n i c : Nat), (∀ k, i ≤ k → k < i + n → okR A k ∧ A 3 k ≤ f k ∧ f k ≤ A 4 k) → cellGo A f i n (jI c) = jI (cellN A f i n c) ∧ cellN A f i n c < (c + 1) * prtN A 0 i n
  | 0, i, c, _ => ⟨rfl, by show c < (c + 1) * 1; omega⟩
  | n + 1, i, c, h => by
    obtain ⟨r, h1, h2⟩ := h i (by omega) (by omega)
    obtain ⟨d1, d2⟩ := dig_of r ⟨h1, h2⟩
    have ih := cellGo_N n (i + 1) (c * wdN A 0 i + digN A f i) (fun k h3 h4 => h k (by omega) (by omega))
    have e : ((jI c * wdt A 0 i) + f i) - A 3 i = jI (c * wdN A 0 i + digN A f i) := by
      rw [wdt_N, jI_mul]
      conv => lhs; rw [d1]
      rw [i32_cancel, jI_add]
    refine ⟨?_, ?_⟩
    · show (if f i < A 3 i then -2 else if f i ≤ A 4 i then cellGo A f (i + 1) n (((jI c * wdt A 0 i) + f i) - A 3 i) else -2) = _
      rw [if_neg (i32_nlt.mpr h1), if_pos h2, e]
      exact ih.1
    · refine Nat.lt_of_lt_of_le ih.2 ?_
      show _ ≤ (c + 1) * (wdN A 0 i * prtN A 0 (i + 1) n)
      rw [← Nat.mul_assoc]
      refine Nat.mul_le_mul_right _ ?_
      rw [Nat.add_mul]
      omega
/-- a lead is out, or a cell that there is -/
theorem leadV_rng {A : Nat → Nat → Int32} {m F : Nat → Nat} (hR : ∀ k, k < m 0 → okR A k) (v : Nat → Int32) : leadV A m F v = -2 ∨ ∃ c, leadV A m F v = jI c ∧ c < prtN A 0 0 (m 0) := by
  unfold leadV
  rcases cellGo_rng (A := A) (f := fun s => stepGo A v s 0 (F 4)) (m 0) 0 0 with z | z
  · exact Or.inl z
  · obtain ⟨e1, e2⟩ := cellGo_N (A := A) (f := fun s => stepGo A v s 0 (F 4)) (m 0) 0 0 (fun k h1 h2 => ⟨hR k (by omega), z k h1 h2⟩)
    exact Or.inr ⟨_, e1, by omega⟩
