/-! the reference's place: the powers of A, summed -/
section
variable {wd : Int64} {t : Nat} {fv nv : Value} {A : Nat → Nat → Int32} {m F : Nat → Nat} {B : Nat → Nat → Int32} {W : Nat → Int64} {G : Nat → Nat} {S : Nat → Int32} {V : Nat → Nat → Int32} {a c : Nat → Nat → Int32}
def idL (k : Nat) : Int64 := if k / 3 = k % 3 then 1 else 0
theorem pl129_go {z0 z1 z2 n4 : Int32} : ∀ (n k f : Nat) (h : aH) (Z : Nat → Nat → Int64), k + n = 9 → n < f → RC h S wd t fv nv V Z A m F B W G → (∀ j, j < k → Z 171 j = idL j ∧ Z 172 j = 0) →
    ∃ h' Z', s_X14_place_129 f 104 z0 z1 z2 n4 (jI k) h = s_X14_place_176 FU 104 z0 z1 z2 n4 0 h' ∧ RC h' S wd t fv nv V Z' A m F B W G ∧ Ou h h' ∧ SmZ [171, 172] Z Z' ∧ ∀ j, j < 9 → Z' 171 j = idL j ∧ Z' 172 j = 0
  | _, _, 0, _, _, _, hf, _, _ => by omega
  | 0, k, f + 1, h, Z, hn, hf, C, hz => by
    refine ⟨h, Z, ?_, C, Ou.refl, SmZ.refl, fun j hj => hz j (by omega)⟩
    show s_X14_place_129_b (s_X14_place_129 f) 104 z0 z1 z2 n4 (jI k) h = _
    unfold s_X14_place_129_b
    rw [if_pos (show (9 : Int32) ≤ jI k from (jI_le (j := 9) (by omega) (by omega)).mpr (by omega))]
  | n + 1, k, f + 1, h, Z, hn, hf, C, hz => by
    have g54 : gO h (.ref 104) 14 54 = some 171 := gO_of (ltE (by decide)) C.1.1 rfl
    obtain ⟨h1, e1, X1, O1⟩ := C.1.stJ (a := 171) (j := k) rfl (show k < 9 by omega) (idL k)
    have C1 := C.to X1 O1
    have g55 : gO h1 (.ref 104) 14 55 = some 172 := gO_of (ltE (by decide)) C1.1.1 rfl
    obtain ⟨h2, e2, X2, O2⟩ := C1.1.stJ (a := 172) (j := k) rfl (show k < 9 by omega) 0
    obtain ⟨h', Z', i1, i2, i3, i4, i5⟩ := pl129_go (z0 := z0) (z1 := z1) (z2 := z2) (n4 := n4) n (k + 1) f h2 _ (by omega) (by omega) (C1.to X2 O2) (fun j hj => by
      rw [upd2_ne (show (171 : Nat) ≠ 172 by decide), upd2_eq, upd2_eq, upd2_ne (show (172 : Nat) ≠ 171 by decide)]
      by_cases u : j = k
      · rw [u, updL_eq, updL_eq]; exact ⟨rfl, rfl⟩
      · rw [updL_ne u, updL_ne u]; exact hz j (by omega))
    refine ⟨h', Z', ?_, i2, (O1.trans O2).trans i3, ((SmZ.refl.upd (by decide)).upd (by decide)).trans i4, i5⟩
    have d3 : jI k / 3 = jI (k / 3) := jI_div (w := 3) (by omega) (by decide) (by decide)
    have m3 : jI k - jI k / 3 * 3 = jI (k % 3) := jI_mod (w := 3) (by omega) (by decide) (by decide)
    have tail : ∀ x : Int64, x = idL k → s_X14_place_158 (s_X14_place_129 f) 104 z0 z1 z2 n4 (jI k) x (jI k) 171 h = s_X14_place_176 FU 104 z0 z1 z2 n4 0 h' := by
      intro x hx
      subst hx
      unfold s_X14_place_158
      rw [e1, Option.bind_some, g55, Option.bind_some, e2, Option.bind_some, jI_inc]
      exact i1
    show s_X14_place_129_b (s_X14_place_129 f) 104 z0 z1 z2 n4 (jI k) h = _
    unfold s_X14_place_129_b
    rw [if_neg (fun u => by have := (jI_le (j := 9) (by omega) (by omega)).mp u; omega), g54, Option.bind_some, nz_of (by decide), nz_of (by decide), m3, d3]
    by_cases u : k / 3 = k % 3
    · rw [if_pos (by rw [u])]
      exact tail 1 (by unfold idL; rw [if_pos u])
    · rw [if_neg (fun z => u ((jI_inj (by omega) (by omega)).mp z))]
      exact tail 0 (by unfold idL; rw [if_neg u])
theorem pl222_go {k176 : Nat → Int32 → Int32 → Int32 → Int32 → Int32 → aH → aO} {z0 z1 z2 n4 : Int32} {d : Nat} {y : Int64} (hA : okLr V a c) : ∀ (n k f : Nat) (h : aH) (Z : Nat → Nat → Int64), k + n = 9 → n < f → RC h S wd t fv nv V Z A m F B W G →
    ∃ h' Z', s_X14_place_222 k176 f 104 z0 z1 z2 n4 (jI d) y (jI k) h = k176 104 z0 z1 z2 n4 (jI (d + 1)) h' ∧ RC h' S wd t fv nv V Z' A m F B W G ∧ Ou h h' ∧ SmZ [171, 172, 173] Z Z' ∧ (∀ j, j < 9 → Z' 171 j = mulV true a (Z 171) (j / 3) (j % 3)) ∧ (∀ j, j < k → Z' 172 j = Z 172 j) ∧ ∀ j, k ≤ j → j < 9 → Z' 172 j = Z 172 j + y * Z 171 j
  | _, _, 0, _, _, _, hf, _ => by omega
  | 0, k, f + 1, h, Z, hn, hf, C => by
    obtain ⟨h1, Z1, e1, C1, O1, s1, v1⟩ := C.raises hA
    refine ⟨h1, Z1, ?_, C1, O1, s1.mono (by decide), v1, fun j hj => by rw [s1 172 (by decide)], fun j h1 h2 => by omega⟩
    show s_X14_place_222_b k176 (s_X14_place_222 k176 f) 104 z0 z1 z2 n4 (jI d) y (jI k) h = _
    unfold s_X14_place_222_b
    rw [if_pos (show (9 : Int32) ≤ jI k from (jI_le (j := 9) (by omega) (by omega)).mpr (by omega)), C.kO, e1]
    simp only [cN]
    rw [jI_inc]
  | n + 1, k, f + 1, h, Z, hn, hf, C => by
    have g54 : gO h (.ref 104) 14 54 = some 171 := gO_of (ltE (by decide)) C.1.1 rfl
    have g55 : gO h (.ref 104) 14 55 = some 172 := gO_of (ltE (by decide)) C.1.1 rfl
    have l171 : ldJ h (.ref 171) (jI k) = some (Z 171 k) := C.1.ldJ (a := 171) rfl (show k < 9 by omega)
    have l172 : ldJ h (.ref 172) (jI k) = some (Z 172 k) := C.1.ldJ (a := 172) rfl (show k < 9 by omega)
    obtain ⟨h1, e1, X1, O1⟩ := C.1.stJ (a := 172) (j := k) rfl (show k < 9 by omega) (Z 172 k + y * Z 171 k)
    obtain ⟨h', Z', i1, i2, i3, i4, i5, i6, i7⟩ := pl222_go (k176 := k176) (z0 := z0) (z1 := z1) (z2 := z2) (n4 := n4) (d := d) (y := y) hA n (k + 1) f h1 _ (by omega) (by omega) (C.to X1 O1)
    refine ⟨h', Z', ?_, i2, O1.trans i3, (SmZ.refl.upd (by decide)).trans i4, fun j hj => ?_, fun j hj => ?_, fun j h1 h2 => ?_⟩
    · show s_X14_place_222_b k176 (s_X14_place_222 k176 f) 104 z0 z1 z2 n4 (jI d) y (jI k) h = _
      unfold s_X14_place_222_b
      rw [if_neg (fun u => by have := (jI_le (j := 9) (by omega) (by omega)).mp u; omega), g55, Option.bind_some, l172, Option.bind_some, g54, Option.bind_some, l171, Option.bind_some, e1, Option.bind_some, jI_inc]
      exact i1
    · rw [i5 j hj, upd2_ne (by decide)]
    · rw [i6 j (by omega), upd2_eq, updL_ne (by omega)]
    · by_cases u : j = k
      · rw [u, i6 k (by omega), upd2_eq, updL_eq]
      · rw [i7 j (by omega) h2, upd2_eq, updL_ne u, upd2_ne (by decide)]
end
