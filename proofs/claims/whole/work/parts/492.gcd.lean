/-! the shared factor, both -/
def jL (n : Nat) : Int64 := Int64.ofNat n
theorem jL_int {n : Nat} (h : n < 9223372036854775808) : (jL n).toInt = n := Int64.toInt_ofNat_of_lt h
theorem jL_inj0 {n : Nat} (h : n < 9223372036854775808) : jL n = 0 ↔ n = 0 := by
  constructor
  · intro e
    have := congrArg Int64.toInt e
    rw [jL_int h] at this
    have h0 : (0 : Int64).toInt = 0 := rfl
    omega
  · intro e
    rw [e]
    rfl
theorem jL_div {a b : Nat} (ha : a < 9223372036854775808) (hb : b < 9223372036854775808) (_ : 0 < b) : jL a / jL b = jL (a / b) := by
  have hd : a / b ≤ a := Nat.div_le_self a b
  apply Int64.toInt_inj.mp
  rw [Int64.toInt_div, jL_int ha, jL_int hb, jL_int (by omega)]
  have e : (a : Int).tdiv (b : Int) = ((a / b : Nat) : Int) := by rw [Int.ofNat_tdiv]
  rw [e]
  obtain ⟨d, hq⟩ : ∃ d, d = a / b := ⟨_, rfl⟩
  rw [← hq] at hd ⊢
  exact Int.bmod_eq_of_le (by omega) (by omega)
theorem jL_mod {a b : Nat} (ha : a < 9223372036854775808) (hb : b < 9223372036854775808) (h0 : 0 < b) : jL a - jL a / jL b * jL b = jL (a % b) := by
  rw [jL_div ha hb h0]
  have hm : a / b * b + a % b = a := by
    have := Nat.mod_add_div a b
    rw [Nat.mul_comm b (a / b)] at this
    omega
  apply Int64.toInt_inj.mp
  have hd : a / b ≤ a := Nat.div_le_self a b
  have hr : a % b < b := Nat.mod_lt a h0
  rw [Int64.toInt_sub, Int64.toInt_mul, jL_int ha, jL_int hb, jL_int (by omega), jL_int (by omega)]
  have e : ((a / b : Nat) : Int) * (b : Int) = ((a / b * b : Nat) : Int) := by rw [Int.natCast_mul]
  rw [e]
  obtain ⟨p, hp⟩ : ∃ p, p = a / b * b := ⟨_, rfl⟩
  obtain ⟨r, hr'⟩ : ∃ r, r = a % b := ⟨_, rfl⟩
  rw [← hp, ← hr'] at hm
  rw [← hp, ← hr']
  rw [Int.bmod_eq_of_le (n := (p : Int)) (by omega) (by omega), Int.bmod_eq_of_le (by omega) (by omega)]
  omega
theorem mod_half {a b : Nat} (hb : 0 < b) (h : 0 < a % b) : 2 * (b % (a % b)) < b := by
  have h1 : a % b < b := Nat.mod_lt a hb
  obtain ⟨r, hr⟩ : ∃ r, r = a % b := ⟨_, rfl⟩
  rw [← hr] at h h1 ⊢
  have h2 : b % r < r := Nat.mod_lt b h
  have h3 := Nat.mod_add_div b r
  have h4 : 1 ≤ b / r := (Nat.le_div_iff_mul_le h).mpr (by omega)
  have h5 : r * 1 ≤ r * (b / r) := Nat.mul_le_mul_left r h4
  omega
section
variable {h : aH}
theorem sf_zero {a i f : Nat} : s_X1_sharedFactor_15 (f + 1) (jL a) (jL 0) (jI i) h = some (.inl (some (.long (jL a))), h) := by
  show s_X1_sharedFactor_15_b (s_X1_sharedFactor_15 f) (jL a) (jL 0) (jI i) h = _
  unfold s_X1_sharedFactor_15_b
  by_cases q : (100 : Int32) ≤ jI i
  · rw [if_pos q]
  · rw [if_neg q, if_pos (show lg_cmp (jL 0) 0 = 0 from (lgc_eq _ _).mpr rfl)]
theorem sf_step {a b i f : Nat} (ha : a < 9223372036854775808) (hb : b < 9223372036854775808) (h0 : 0 < b) (hi : i < 100) : s_X1_sharedFactor_15 (f + 1) (jL a) (jL b) (jI i) h = s_X1_sharedFactor_15 f (jL b) (jL (a % b)) (jI (i + 1)) h := by
  show s_X1_sharedFactor_15_b (s_X1_sharedFactor_15 f) (jL a) (jL b) (jI i) h = _
  unfold s_X1_sharedFactor_15_b
  have ne : jL b ≠ 0 := fun z => by have := (jL_inj0 hb).mp z; omega
  rw [if_neg (fun u => by have := (jI_le (j := 100) (by omega) (by omega)).mp u; omega), if_neg (fun u => ne ((lgc_eq _ _).mp u)), jL_mod ha hb h0, jI_inc]
  unfold nzL
  rw [if_neg ne]
theorem sf_go : ∀ (k a b i f : Nat), b < 2 ^ k → k ≤ 50 → i + 2 * k ≤ 100 → 2 * k < f → a < 9223372036854775808 → s_X1_sharedFactor_15 f (jL a) (jL b) (jI i) h = some (.inl (some (.long (jL (Nat.gcd b a)))), h)
  | k, a, b, i, 0, _, _, _, hf, _ => by omega
  | 0, a, b, i, f + 1, hb, _, _, _, _ => by
    have eb : b = 0 := by omega
    subst eb
    rw [sf_zero, Nat.gcd_zero_left]
  | k + 1, a, b, i, f + 1, hb, hk, hi, hf, ha => by
    by_cases eb : b = 0
    · subst eb
      rw [sf_zero, Nat.gcd_zero_left]
    · have hb63 : b < 9223372036854775808 := by
        have : 2 ^ (k + 1) ≤ 2 ^ 50 := Nat.pow_le_pow_right (by decide) hk
        omega
      have hr : a % b < b := Nat.mod_lt a (by omega)
      rw [sf_step ha hb63 (by omega) (by omega), Nat.gcd_rec b a]
      obtain ⟨f', ef⟩ : ∃ f', f = f' + 1 := ⟨f - 1, by omega⟩
      subst ef
      by_cases er : a % b = 0
      · rw [er, sf_zero, Nat.gcd_zero_left]
      · rw [sf_step hb63 (by omega) (by omega) (by omega), Nat.gcd_rec (a % b) b]
        have hh := mod_half (a := a) (b := b) (by omega) (by omega)
        have h2 : 2 ^ (k + 1) = 2 * 2 ^ k := by rw [Nat.pow_succ, Nat.mul_comm]
        exact sf_go k (a % b) (b % (a % b)) (i + 1 + 1) f' (by omega) (by omega) (by omega) (by omega) (by omega)
theorem re_zero {y i f : Nat} : s_X14_reduces_21 (f + 1) 104 (jI i) (jL 0) (jL y) h = s_X14_reduces_21 1 104 (jI i) (jL 0) (jL y) h := by
  have e : ∀ g, s_X14_reduces_21 (g + 1) 104 (jI i) (jL 0) (jL y) h = (gO h (.ref 104) 14 53).bind fun x43 => (ldJ h (.ref x43) (jI i)).bind fun x47 => if 0 ≤ (lg_cmp x47 0) then (s_X14_reduces_58 104 (jI i) (jL y) h) else (s_X14_reduces_58 104 (jI i) (-(jL y)) h) := fun g => by
    show s_X14_reduces_21_b (s_X14_reduces_21 g) 104 (jI i) (jL 0) (jL y) h = _
    unfold s_X14_reduces_21_b
    rw [if_pos (show lg_cmp (jL 0) 0 ≤ 0 by decide)]
  rw [e f]
  exact (e 0).symm
theorem re_step {x y i f : Nat} (hx : x < 9223372036854775808) (hy : y < 9223372036854775808) (h0 : 0 < x) : s_X14_reduces_21 (f + 1) 104 (jI i) (jL x) (jL y) h = s_X14_reduces_21 f 104 (jI i) (jL (y % x)) (jL x) h := by
  show s_X14_reduces_21_b (s_X14_reduces_21 f) 104 (jI i) (jL x) (jL y) h = _
  unfold s_X14_reduces_21_b
  have ne : jL x ≠ 0 := fun z => by have := (jL_inj0 hx).mp z; omega
  have gt : ¬ lg_cmp (jL x) 0 ≤ 0 := fun z => by
    have := (lgc_le _ _).mp z
    rw [Int64.le_iff_toInt_le, jL_int hx] at this
    have h0' : (0 : Int64).toInt = 0 := rfl
    omega
  rw [if_neg gt, jL_mod hy hx h0]
  unfold nzL
  rw [if_neg ne]
theorem re_go {i : Nat} : ∀ (k x y f : Nat), x < 2 ^ k → k ≤ 50 → 2 * k < f → y < 9223372036854775808 → s_X14_reduces_21 f 104 (jI i) (jL x) (jL y) h = s_X14_reduces_21 1 104 (jI i) (jL 0) (jL (Nat.gcd x y)) h
  | k, x, y, 0, _, _, hf, _ => by omega
  | 0, x, y, f + 1, hx, _, _, _ => by
    have ex : x = 0 := by omega
    subst ex
    rw [re_zero, Nat.gcd_zero_left]
  | k + 1, x, y, f + 1, hx, hk, hf, hy => by
    by_cases ex : x = 0
    · subst ex
      rw [re_zero, Nat.gcd_zero_left]
    · have hx63 : x < 9223372036854775808 := by
        have : 2 ^ (k + 1) ≤ 2 ^ 50 := Nat.pow_le_pow_right (by decide) hk
        omega
      have hr : y % x < x := Nat.mod_lt y (by omega)
      rw [re_step hx63 hy (by omega), Nat.gcd_rec x y]
      obtain ⟨f', ef⟩ : ∃ f', f = f' + 1 := ⟨f - 1, by omega⟩
      subst ef
      by_cases er : y % x = 0
      · rw [er, re_zero, Nat.gcd_zero_left]
      · rw [re_step (by omega) hx63 (by omega), Nat.gcd_rec (y % x) x]
        have hh := mod_half (a := y) (b := x) (by omega) (by omega)
        have h2 : 2 ^ (k + 1) = 2 * 2 ^ k := by rw [Nat.pow_succ, Nat.mul_comm]
        exact re_go k (x % (y % x)) (y % x) f' (by omega) (by omega) (by omega) (by omega)
end
