/-! feed: the new tape -/
def fdT (T : Nat → Nat) (k : Nat) (a1 a2 a3 a4 a5 : Int32) (j : Nat) : Nat := if k ≤ j ∧ j < k + 20 then byK (aS5 a1 a2 a3 a4 a5 (j - k)) (jI (24 - 8 * ((j - k) % 4))) else T j
theorem fdT_in {T : Nat → Nat} {k : Nat} {a1 a2 a3 a4 a5 : Int32} {i : Nat} (hi : i < 20) : fdT T k a1 a2 a3 a4 a5 (k + i) = byK (aS5 a1 a2 a3 a4 a5 i) (jI (24 - 8 * (i % 4))) := by
  unfold fdT
  rw [if_pos (by omega), Nat.add_sub_cancel_left]
theorem fdT_out {T : Nat → Nat} {k : Nat} {a1 a2 a3 a4 a5 : Int32} {j : Nat} (hj : j < k ∨ k + 20 ≤ j) : fdT T k a1 a2 a3 a4 a5 j = T j := if_neg (by omega)
theorem fdT_ok {T : Nat → Nat} (h : okTp T) (k : Nat) (a1 a2 a3 a4 a5 : Int32) : okTp (fdT T k a1 a2 a3 a4 a5) := by
  intro j
  unfold fdT
  split
  · exact (byK_eq _ _).2
  · exact h j
theorem tp4_ne {g : Nat → Int32} {t j : Nat} {x : Int32} (h : j < t ∨ t + 4 ≤ j) : tp4 g t x j = g j := by
  unfold tp4
  rw [upd_ne (by omega), upd_ne (by omega), upd_ne (by omega), upd_ne (by omega)]
theorem tp4_in {g : Nat → Int32} {t i : Nat} {x : Int32} (hi : i < 4) : tp4 g t x (t + i) = byB x (jI (24 - 8 * i)) := by
  have h : i = 0 ∨ i = 1 ∨ i = 2 ∨ i = 3 := by omega
  unfold tp4
  rcases h with rfl | rfl | rfl | rfl
  · rw [upd_ne (by omega), upd_ne (by omega), upd_ne (by omega)]
    exact upd_eq
  · rw [upd_ne (by omega), upd_ne (by omega), upd_eq]
    rfl
  · rw [upd_ne (by omega), upd_eq]
    rfl
  · rw [upd_eq]
    rfl
theorem tp20 {g : Nat → Int32} {T : Nat → Nat} (hg : ∀ j, j < 400 → g j = jI (T j)) (t : Nat) (a c d e f : Int32) : ∀ j, j < 400 → tp4 (tp4 (tp4 (tp4 (tp4 g t a) (t + 4) c) (t + 8) d) (t + 12) e) (t + 16) f j = jI (fdT T t a c d e f j) := by
  intro j hj
  by_cases q : j < t ∨ t + 20 ≤ j
  · rw [fdT_out q, tp4_ne (by omega), tp4_ne (by omega), tp4_ne (by omega), tp4_ne (by omega), tp4_ne (by omega), hg j hj]
  · obtain ⟨i, rfl⟩ : ∃ i, j = t + i := ⟨j - t, by omega⟩
    have hi : i < 20 := by omega
    rw [fdT_in hi, ← (byK_eq _ _).1]
    unfold aS5
    by_cases q4 : i < 4
    · rw [if_pos q4, tp4_ne (by omega), tp4_ne (by omega), tp4_ne (by omega), tp4_ne (by omega), tp4_in q4, Nat.mod_eq_of_lt q4]
    · rw [if_neg q4]
      by_cases q8 : i < 8
      · rw [if_pos q8, tp4_ne (by omega), tp4_ne (by omega), tp4_ne (by omega), show t + i = t + 4 + (i - 4) by omega, tp4_in (by omega), show i % 4 = i - 4 by omega]
      · rw [if_neg q8]
        by_cases q12 : i < 12
        · rw [if_pos q12, tp4_ne (by omega), tp4_ne (by omega), show t + i = t + 8 + (i - 8) by omega, tp4_in (by omega), show i % 4 = i - 8 by omega]
        · rw [if_neg q12]
          by_cases q16 : i < 16
          · rw [if_pos q16, tp4_ne (by omega), show t + i = t + 12 + (i - 12) by omega, tp4_in (by omega), show i % 4 = i - 12 by omega]
          · rw [if_neg q16, show t + i = t + 16 + (i - 16) by omega, tp4_in (by omega), show i % 4 = i - 16 by omega]
theorem byR_at (x : Int32) {i : Nat} (hi : i < 20) : byR x i &&& 255 = jI (byK x (jI (24 - 8 * (i % 4)))) := by
  have s : ∀ i, i < 20 → (24 - (8 * (jI i - jI i / 4 * 4)) : Int32) = jI (24 - 8 * (i % 4)) := by decide +kernel
  have e : byR x i = (x >>> ((24 - (8 * (jI i - jI i / 4 * 4))) &&& 31)).toInt8.toInt32.toInt8.toInt32 := rfl
  rw [e, b8_255, b8_255, s i hi, ← (byK_eq _ _).1]
  rfl
theorem tpR {V V' : Nat → Nat → Int32} {T : Nat → Nat} (h : TPr V T) {k : Nat} (a1 a2 a3 a4 a5 : Int32) (vl : ∀ j, j < k → V' 119 j = V 119 j) (vu : ∀ j, k + 20 ≤ j → V' 119 j = V 119 j) (vh : ∀ j, j < 20 → V' 119 (k + j) = byR (aS5 a1 a2 a3 a4 a5 j) j) : TPr V' (fdT T k a1 a2 a3 a4 a5) := by
  intro j hj
  by_cases q : j < k ∨ k + 20 ≤ j
  · rw [fdT_out q]
    rcases q with q | q
    · rw [vl j q]
      exact h j hj
    · rw [vu j q]
      exact h j hj
  · obtain ⟨i, rfl⟩ : ∃ i, j = k + i := ⟨j - k, by omega⟩
    rw [vh i (by omega), byR_at _ (by omega), fdT_in (by omega)]
