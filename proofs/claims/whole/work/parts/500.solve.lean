/-! the class's place: its rows, its right sides, its gains -/
def bbL (a : Nat → Nat → Int32) (k : Nat) : Int64 := (a k 3).toInt64
def svR (n : Nat) (a : Nat → Nat → Int32) (f R : Nat → Int64) : Prop := (∀ k, k < 3 → R ((n - 1) * 3 + k) = bbL a k) ∧ ∀ p, p + 1 < n → ∀ k, k < 3 → R (p * 3 + k) = mulV false a R (p + 1) k + f (p + 1) * bbL a k
def rhY (n : Nat) (f : Nat → Int64) (z0 z1 z2 : Int32) (i : Nat) : Int64 := if i = 0 then f 0 - z0.toInt64 else if i = 1 then (if n ≤ 1 then 0 else f 1 - z1.toInt64) else (if n ≤ 2 then 0 else f 2 - z2.toInt64)
theorem jI_2 (x : Nat) : jI x * 2 = jI (x * 2) := by rw [show (2 : Int32) = jI 2 from rfl, jI_mul]
section
variable {S V : Nat → Nat → Int32} {D Ln : Nat → Nat} {b : Nat} {A : Nat → Nat → Int32} {N : Nat → Int64} {m F : Nat → Nat} {a c : Nat → Nat → Int32}
theorem CC.l83 {h : aH} {Z : Nat → Nat → Int64} (C : CC h S V Z D Ln b A N m F) (hA : okLn V a c) {i : Nat} (hi : i < 3) : ldI .int h (.ref 83) (jI (i * 2)) = some (a i 3) := by
  have e : V 83 (i * 2 + 0) = a i (3 + 0) := (show (∀ k, k < 3 → V 82 (i * 3 + k) = a i k) ∧ ∀ k, k < 2 → V 83 (i * 2 + k) = a i (3 + k) from hA.1 i hi).2 0 (by decide)
  have l := C.1.ld (a := 83) (j := i * 2) rfl (show i * 2 < 6 by omega)
  rw [l]
  exact congrArg some e
theorem sv22_go {z0 z1 z2 : Int32} {n : Nat} (hn1 : 1 ≤ n) (hn3 : n ≤ 3) (hA : okLn V a c) : ∀ (r i f : Nat) (h : aH) (Z : Nat → Nat → Int64), i + r = n → r < f → CC h S V Z D Ln b A N m F →
    ∃ h' Z', s_X1_solve_22 f 81 z0 z1 z2 (jI n) (jI i) h = s_X1_solve_65 FU 81 z0 z1 z2 (jI n) (jI (n - 1)) h' ∧ CC h' S V Z' D Ln b A N m F ∧ Oc D h h' ∧ SmZ [86] Z Z' ∧ (∀ j, (j < (n - 1) * 3 + i ∨ (n - 1) * 3 + n ≤ j) → Z' 86 j = Z 86 j) ∧ ∀ k, i ≤ k → k < n → Z' 86 ((n - 1) * 3 + k) = bbL a k
  | _, _, 0, _, _, _, hf, _ => by omega
  | 0, i, f + 1, h, Z, hi, hf, C => by
    refine ⟨h, Z, ?_, C, Oc.refl, SmZ.refl, fun _ _ => rfl, fun k h1 h2 => by omega⟩
    show s_X1_solve_22_b (s_X1_solve_22 f) 81 z0 z1 z2 (jI n) (jI i) h = _
    unfold s_X1_solve_22_b
    rw [if_pos ((jI_le (by omega) (by omega)).mpr (by omega)), jI_dec (by omega)]
  | r + 1, i, f + 1, h, Z, hi, hf, C => by
    have g7 : gO h (.ref 81) 1 7 = some 86 := gO_of (ltE (by decide)) (C.1.1 81 rfl) rfl
    have g4 : gO h (.ref 81) 1 4 = some 83 := gO_of (ltE (by decide)) (C.1.1 81 rfl) rfl
    have l83 := C.l83 hA (i := i) (by omega)
    obtain ⟨h1, e1, X1, O1⟩ := C.1.stJ (a := 86) (j := (n - 1) * 3 + i) rfl (show (n - 1) * 3 + i < 18 by omega) (bbL a i)
    obtain ⟨h', Z', i1, i2, i3, i4, i5, i6⟩ := sv22_go (z0 := z0) (z1 := z1) (z2 := z2) hn1 hn3 hA r (i + 1) f h1 _ (by omega) (by omega) (C.to X1 O1 rfl)
    refine ⟨h', Z', ?_, i2, O1.trans i3, (SmZ.refl.upd (by decide)).trans i4, fun j hj => ?_, fun k h1 h2 => ?_⟩
    · show s_X1_solve_22_b (s_X1_solve_22 f) 81 z0 z1 z2 (jI n) (jI i) h = _
      unfold s_X1_solve_22_b
      rw [if_neg (fun u => by have := (jI_le (by omega) (by omega)).mp u; omega), g7, Option.bind_some, g4, Option.bind_some, jI_2, l83, Option.bind_some, jI_dec (by omega), jI_3, jI_add]
      rw [show (a i 3).toInt64 = bbL a i from rfl, e1, Option.bind_some, jI_inc]
      exact i1
    · rw [i5 j (by omega), upd2_eq, updL_ne (by omega)]
    · by_cases u : k = i
      · rw [u, i5 _ (by omega), upd2_eq, updL_eq]
      · exact i6 k (by omega) h2
theorem sv84_go {k65 : Nat → Int32 → Int32 → Int32 → Int32 → Int32 → aH → aO} {z0 z1 z2 : Int32} {n p : Nat} (hn3 : n ≤ 3) (hp : p + 1 < n) (hA : okLn V a c) : ∀ (r i f : Nat) (h : aH) (Z : Nat → Nat → Int64), i + r = n → r < f → CC h S V Z D Ln b A N m F →
    ∃ h' Z', s_X1_solve_84 k65 f 81 z0 z1 z2 (jI n) (jI (p + 1)) (jI i) h = k65 81 z0 z1 z2 (jI n) (jI p) h' ∧ CC h' S V Z' D Ln b A N m F ∧ Oc D h h' ∧ SmZ [86] Z Z' ∧ (∀ j, (j < p * 3 + i ∨ p * 3 + n ≤ j) → Z' 86 j = Z 86 j) ∧ ∀ k, i ≤ k → k < n → Z' 86 (p * 3 + k) = Z 86 (p * 3 + k) + Z 85 (p + 1) * bbL a k
  | _, _, 0, _, _, _, hf, _ => by omega
  | 0, i, f + 1, h, Z, hi, hf, C => by
    refine ⟨h, Z, ?_, C, Oc.refl, SmZ.refl, fun _ _ => rfl, fun k h1 h2 => by omega⟩
    show s_X1_solve_84_b k65 (s_X1_solve_84 k65 f) 81 z0 z1 z2 (jI n) (jI (p + 1)) (jI i) h = _
    unfold s_X1_solve_84_b
    rw [if_pos ((jI_le (by omega) (by omega)).mpr (by omega)), jI_dec' (by omega), Nat.add_sub_cancel]
  | r + 1, i, f + 1, h, Z, hi, hf, C => by
    have g7 : gO h (.ref 81) 1 7 = some 86 := gO_of (ltE (by decide)) (C.1.1 81 rfl) rfl
    have g6 : gO h (.ref 81) 1 6 = some 85 := gO_of (ltE (by decide)) (C.1.1 81 rfl) rfl
    have g4 : gO h (.ref 81) 1 4 = some 83 := gO_of (ltE (by decide)) (C.1.1 81 rfl) rfl
    have l83 := C.l83 hA (i := i) (by omega)
    have l86 : ldJ h (.ref 86) (jI (p * 3 + i)) = some (Z 86 (p * 3 + i)) := C.1.ldJ (a := 86) rfl (show p * 3 + i < 18 by omega)
    have l85 : ldJ h (.ref 85) (jI (p + 1)) = some (Z 85 (p + 1)) := C.1.ldJ (a := 85) rfl (show p + 1 < 4 by omega)
    obtain ⟨h1, e1, X1, O1⟩ := C.1.stJ (a := 86) (j := p * 3 + i) rfl (show p * 3 + i < 18 by omega) (Z 86 (p * 3 + i) + Z 85 (p + 1) * bbL a i)
    obtain ⟨h', Z', i1, i2, i3, i4, i5, i6⟩ := sv84_go (k65 := k65) (z0 := z0) (z1 := z1) (z2 := z2) hn3 hp hA r (i + 1) f h1 _ (by omega) (by omega) (C.to X1 O1 rfl)
    refine ⟨h', Z', ?_, i2, O1.trans i3, (SmZ.refl.upd (by decide)).trans i4, fun j hj => ?_, fun k h1 h2 => ?_⟩
    · show s_X1_solve_84_b k65 (s_X1_solve_84 k65 f) 81 z0 z1 z2 (jI n) (jI (p + 1)) (jI i) h = _
      unfold s_X1_solve_84_b
      rw [if_neg (fun u => by have := (jI_le (by omega) (by omega)).mp u; omega), g7, Option.bind_some, jI_dec (by omega), Nat.add_sub_cancel, jI_3, jI_add, l86, Option.bind_some, g6, Option.bind_some, l85, Option.bind_some, g4, Option.bind_some, jI_2, l83, Option.bind_some]
      rw [show (a i 3).toInt64 = bbL a i from rfl, e1, Option.bind_some, jI_inc]
      exact i1
    · rw [i5 j (by omega), upd2_eq, updL_ne (by omega)]
    · by_cases u : k = i
      · rw [u, i5 _ (by omega), upd2_eq, updL_eq]
      · rw [i6 k (by omega) h2, upd2_eq, updL_ne (by omega), upd2_ne (by decide)]
theorem mulV_cg {see : Bool} {a : Nat → Nat → Int32} {R R' : Nat → Int64} {l k : Nat} (h : ∀ j, j < 3 → R (l * 3 + j) = R' (l * 3 + j)) : mulV see a R l k = mulV see a R' l k := by
  unfold mulV
  have := h 0 (by decide)
  rw [Nat.add_zero] at this
  rw [this, h 1 (by decide), h 2 (by decide)]
theorem sv65_go {z0 z1 z2 : Int32} {n : Nat} (hn1 : 1 ≤ n) (hn3 : n ≤ 3) (hA : okLn V a c) (hb : ∀ k, n ≤ k → k < 3 → bbL a k = 0) : ∀ (p f : Nat) (h : aH) (Z : Nat → Nat → Int64), p < n → p < f → CC h S V Z D Ln b A N m F → (∀ k, k < 3 → Z 86 ((n - 1) * 3 + k) = bbL a k) → (∀ q, p ≤ q → q + 1 < n → ∀ k, k < 3 → Z 86 (q * 3 + k) = mulV false a (Z 86) (q + 1) k + Z 85 (q + 1) * bbL a k) →
    ∃ h' Z' f', s_X1_solve_65 f 81 z0 z1 z2 (jI n) (jI p) h = s_X1_solve_65 (f' + 1) 81 z0 z1 z2 (jI n) (jI 0) h' ∧ CC h' S V Z' D Ln b A N m F ∧ Oc D h h' ∧ SmZ [86] Z Z' ∧ svR n a (Z 85) (Z' 86) ∧ ∀ j, n * 3 ≤ j → Z' 86 j = Z 86 j
  | 0, 0, _, _, _, hf, _, _, _ => by omega
  | 0, f + 1, h, Z, hp, hf, C, hl, hr => ⟨h, Z, f, rfl, C, Oc.refl, SmZ.refl, ⟨hl, fun p hp k hk => hr p (Nat.zero_le p) hp k hk⟩, fun _ _ => rfl⟩
  | p + 1, 0, _, _, _, hf, _, _, _ => by omega
  | p + 1, f + 1, h, Z, hp, hf, C, hl, hr => by
    obtain ⟨h1, Z1, e1, C1, O1, s1, k1, v1⟩ := C.multiply (fr := p + 1) (to := p) (see := false) (by omega) (by omega) (by omega) hA
    obtain ⟨h2, Z2, e2, C2, O2, s2, k2, v2⟩ := sv84_go (k65 := s_X1_solve_65 f) (z0 := z0) (z1 := z1) (z2 := z2) hn3 hp hA n 0 FU h1 Z1 (by omega) (by show n < 1000000; omega) C1
    have z85 : Z2 85 = Z 85 := by rw [s2 85 (by decide), s1 85 (by decide)]
    have z85' : Z1 85 = Z 85 := s1 85 (by decide)
    have other : ∀ j, (j < p * 3 ∨ p * 3 + 3 ≤ j) → Z2 86 j = Z 86 j := fun j hj => by rw [k2 j (by omega), k1 j hj]
    have rowp : ∀ k, k < 3 → Z2 86 (p * 3 + k) = mulV false a (Z 86) (p + 1) k + Z 85 (p + 1) * bbL a k := fun k hk => by
      by_cases u : k < n
      · rw [v2 k (Nat.zero_le k) u, v1 k hk, z85']
      · rw [k2 _ (by omega), v1 k hk, hb k (by omega) hk]
        grind
    obtain ⟨h', Z', f', i1, i2, i3, i4, i5, i6⟩ := sv65_go (z0 := z0) (z1 := z1) (z2 := z2) hn1 hn3 hA hb p f h2 Z2 (by omega) (by omega) C2 (fun k hk => by rw [other _ (by omega)]; exact hl k hk) (fun q h1 h2 k hk => by
      by_cases u : q = p
      · rw [u, rowp k hk, z85, mulV_cg (R := Z2 86) (R' := Z 86) (fun j hj => other _ (by omega))]
      · rw [other _ (by omega), hr q (by omega) h2 k hk, z85, mulV_cg (R := Z2 86) (R' := Z 86) (fun j hj => other _ (by omega))])
    refine ⟨h', Z', f', ?_, i2, (O1.trans O2).trans i3, (s1.trans s2).trans i4, by rw [← z85]; exact i5, fun j hj => by rw [i6 j hj, other j (by omega)]⟩
    show s_X1_solve_65_b (s_X1_solve_65 f) 81 z0 z1 z2 (jI n) (jI (p + 1)) h = _
    unfold s_X1_solve_65_b
    rw [if_neg (fun u => by have := (jI_le (k := 0) (by omega) (by omega)).mp u; omega), kO_of (ltE (by decide)) (C.1.1 81 rfl), jI_dec (by omega), Nat.add_sub_cancel]
    have e1' : s_X1_multiply 81 (jI (p + 1)) (jI p) 0 h = some (.inl none, h1) := e1
    rw [e1']
    simp only [cN]
    exact e2.trans i1
theorem sv207_go {n : Nat} : ∀ (r i f : Nat) (h : aH) (Z : Nat → Nat → Int64), i + r = 3 → r < f → CC h S V Z D Ln b A N m F →
    ∃ h' Z', s_X1_solve_207 f 81 (jI n) (jI i) h = (cJ (s_X1_determinant 81 0 1 2 h') fun x236 h236 => (pF h236 (.ref 81) 1 8 (.int (jI n))).bind fun h244 => s_X1_solve_250 FU 81 (jI n) x236 0 h244) ∧ CC h' S V Z' D Ln b A N m F ∧ Oc D h h' ∧ SmZ [86] Z Z' ∧ (∀ j, (j < i * 3 ∨ j / 3 ≠ j % 3) → Z' 86 j = Z 86 j) ∧ ∀ k, i ≤ k → k < 3 → Z' 86 (k * 3 + k) = 1
  | _, _, 0, _, _, _, hf, _ => by omega
  | 0, i, f + 1, h, Z, hi, hf, C => by
    refine ⟨h, Z, ?_, C, Oc.refl, SmZ.refl, fun _ _ => rfl, fun k h1 h2 => by omega⟩
    show s_X1_solve_207_b (s_X1_solve_207 f) 81 (jI n) (jI i) h = _
    unfold s_X1_solve_207_b
    rw [if_pos (show (3 : Int32) ≤ jI i from (jI_le (j := 3) (by omega) (by omega)).mpr (by omega)), kO_of (ltE (by decide)) (C.1.1 81 rfl)]
  | r + 1, i, f + 1, h, Z, hi, hf, C => by
    have g7 : gO h (.ref 81) 1 7 = some 86 := gO_of (ltE (by decide)) (C.1.1 81 rfl) rfl
    obtain ⟨h1, e1, X1, O1⟩ := C.1.stJ (a := 86) (j := i * 3 + i) rfl (show i * 3 + i < 18 by omega) 1
    obtain ⟨h', Z', i1, i2, i3, i4, i5, i6⟩ := sv207_go (n := n) r (i + 1) f h1 _ (by omega) (by omega) (C.to X1 O1 rfl)
    refine ⟨h', Z', ?_, i2, O1.trans i3, (SmZ.refl.upd (by decide)).trans i4, fun j hj => ?_, fun k h1 h2 => ?_⟩
    · show s_X1_solve_207_b (s_X1_solve_207 f) 81 (jI n) (jI i) h = _
      unfold s_X1_solve_207_b
      rw [if_neg (fun u => by have := (jI_le (j := 3) (by omega) (by omega)).mp u; omega), g7, Option.bind_some, jI_3, jI_add, e1, Option.bind_some, jI_inc]
      exact i1
    · rw [i5 j (by omega), upd2_eq, updL_ne (by omega)]
    · by_cases u : k = i
      · rw [u, i5 _ (by omega), upd2_eq, updL_eq]
      · exact i6 k (by omega) h2
end
