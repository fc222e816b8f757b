/-! sets of cells as bits, thirty-two in a word -/
def b1 (k : Nat) : Int32 := (1 : Int32) <<< jI k
theorem b1_code : ∀ c, c < 512 → (1 : Int32) <<< ((jI c &&& 31) &&& 31) = b1 (c % 32) := by decide +kernel
theorem sh5_code : ∀ c, c < 512 → jI c >>> ((5 : Int32) &&& 31) = jI (c / 32) := by decide +kernel
theorem and31_code : ∀ c, c < 512 → (jI c &&& 31) = jI (c % 32) := by decide +kernel
theorem b1_bit : ∀ k, k < 32 → ∀ i, i < 32 → (b1 k).toBitVec.getLsbD i = decide (i = k) := by decide +kernel
def bit (R : Nat → Int32) (b c : Nat) : Bool := (R (b + c / 32)).toBitVec.getLsbD (c % 32)
def orb (R : Nat → Int32) (b c : Nat) : Nat → Int32 := upd R (b + c / 32) (R (b + c / 32) ||| b1 (c % 32))
theorem bit_orb (R : Nat → Int32) (b c c' : Nat) : bit (orb R b c) b c' = (bit R b c' || decide (c' = c)) := by
  unfold bit orb
  by_cases q : c' / 32 = c / 32
  · rw [q, upd_eq, Int32.toBitVec_or, BitVec.getLsbD_or, b1_bit _ (Nat.mod_lt _ (by decide)) _ (Nat.mod_lt _ (by decide))]
    congr 1
    by_cases q2 : c' % 32 = c % 32
    · rw [decide_eq_true q2, decide_eq_true (by omega)]
    · rw [decide_eq_false q2, decide_eq_false (by omega)]
  · rw [upd_ne (by omega), decide_eq_false (by omega), Bool.or_false]
/-- another row of words is not touched -/
theorem orb_out {R : Nat → Int32} {b c j : Nat} (h : j ≠ b + c / 32) : orb R b c j = R j := upd_ne h
/-- the test of a bit: shift, then the last bit -/
theorem bit_test (x : Int32) : ∀ k, k < 32 → ((x >>> (jI k &&& 31) &&& 1) = 0 ↔ x.toBitVec.getLsbD k = false) := by
  intro k hk
  have key : ∀ k, k < 32 → ((jI k &&& 31).toBitVec.smod 32).toNat = k := by decide +kernel
  have e : (x >>> (jI k &&& 31)).toBitVec.getLsbD 0 = x.toBitVec.getLsbD k := by
    show (x.toBitVec.sshiftRight' ((jI k &&& 31).toBitVec.smod 32)).getLsbD 0 = _
    rw [BitVec.sshiftRight', BitVec.getLsbD_sshiftRight, key k hk]
    simp [hk]
  have e2 : ∀ y : Int32, (y &&& 1) = 0 ↔ y.toBitVec.getLsbD 0 = false := by
    intro y
    constructor
    · intro h
      have := congrArg (fun z : Int32 => z.toBitVec.getLsbD 0) h
      simpa [Int32.toBitVec_and, BitVec.getLsbD_and] using this
    · intro h
      apply Int32.toBitVec_inj.mp
      apply BitVec.eq_of_getLsbD_eq
      intro i hi
      rw [Int32.toBitVec_and, BitVec.getLsbD_and]
      by_cases q : i = 0
      · subst q; rw [h]; rfl
      · have : (1 : Int32).toBitVec.getLsbD i = false := by
          have : ∀ i, i < 32 → i ≠ 0 → (1 : Int32).toBitVec.getLsbD i = false := by decide +kernel
          exact this i hi q
        rw [this, Bool.and_false]
        simp
  rw [e2, e]
/-- two words meet where one bit is in both -/
theorem and_zero (x y : Int32) : (x &&& y) = 0 ↔ ∀ i, i < 32 → (x.toBitVec.getLsbD i && y.toBitVec.getLsbD i) = false := by
  constructor
  · intro h i hi
    have := congrArg (fun z : Int32 => z.toBitVec.getLsbD i) h
    simp only [Int32.toBitVec_and, BitVec.getLsbD_and] at this
    rw [this]
    simp
  · intro h
    apply Int32.toBitVec_inj.mp
    apply BitVec.eq_of_getLsbD_eq
    intro i hi
    rw [Int32.toBitVec_and, BitVec.getLsbD_and, h i hi]
    simp
theorem not_bit (x : Int32) {i : Nat} (hi : i < 32) : (~~~ x).toBitVec.getLsbD i = !x.toBitVec.getLsbD i := by
  rw [Int32.toBitVec_not, BitVec.getLsbD_not]
  simp [hi]
