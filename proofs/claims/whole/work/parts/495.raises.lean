/-! the reference: powers of A, and its pairs reduced -/
section
variable {wd : Int64} {t : Nat} {fv nv : Value} {A : Nat → Nat → Int32} {m F : Nat → Nat} {B : Nat → Nat → Int32} {W : Nat → Int64} {G : Nat → Nat} {S : Nat → Int32} {V : Nat → Nat → Int32} {a c : Nat → Nat → Int32}
theorem ra17_go {k2 : Nat → Int32 → aH → aO} {k : Nat} (hk : k < 9) (hA : okLr V a c) : ∀ (n j f : Nat) (h : aH) (Z : Nat → Nat → Int64), j + n = 3 → n < f → RC h S wd t fv nv V Z A m F B W G →
    ∃ h', s_X14_raises_17 k2 f 104 (jI k) (jI j) h = k2 104 (jI (k + 1)) h' ∧ RC h' S wd t fv nv V (upd2 Z 173 (vp_updL (Z 173) k (sm3 (fun j => Z 171 (k / 3 * 3 + j) * mtx true a j (k % 3)) j n (Z 173 k)))) A m F B W G ∧ Ou h h'
  | _, _, 0, _, _, _, hf, _ => by omega
  | 0, j, f + 1, h, Z, hn, hf, C => by
    refine ⟨h, ?_, ?_, Ou.refl⟩
    · show s_X14_raises_17_b k2 (s_X14_raises_17 k2 f) 104 (jI k) (jI j) h = _
      unfold s_X14_raises_17_b
      rw [if_pos (show (3 : Int32) ≤ jI j from (jI_le (j := 3) (by omega) (by omega)).mpr (by omega)), jI_inc]
    · have e : upd2 Z 173 (vp_updL (Z 173) k (sm3 (fun j => Z 171 (k / 3 * 3 + j) * mtx true a j (k % 3)) j 0 (Z 173 k))) = Z := by
        have e2 : vp_updL (Z 173) k (Z 173 k) = Z 173 := by
          funext i
          by_cases u : i = k
          · rw [u, updL_eq]
          · rw [updL_ne u]
        show upd2 Z 173 (vp_updL (Z 173) k (Z 173 k)) = Z
        rw [e2, upd2_self]
      rw [e]
      exact C
  | n + 1, j, f + 1, h, Z, hn, hf, C => by
    have g57 : gO h (.ref 104) 14 57 = some 173 := gO_of (ltE (by decide)) C.1.1 rfl
    have g54 : gO h (.ref 104) 14 54 = some 171 := gO_of (ltE (by decide)) C.1.1 rfl
    have g45 : gO h (.ref 104) 14 45 = some 163 := gO_of (ltE (by decide)) C.1.1 rfl
    have l173 : ldJ h (.ref 173) (jI k) = some (Z 173 k) := C.1.ldJ (a := 173) rfl hk
    have l171 : ldJ h (.ref 171) (jI (k / 3 * 3 + j)) = some (Z 171 (k / 3 * 3 + j)) := C.1.ldJ (a := 171) rfl (show k / 3 * 3 + j < 9 by omega)
    have l163 : ldI .int h (.ref 163) (jI (j * 3 + k % 3)) = some (a j (k % 3)) := by
      have e := (hA.1 j (by omega)).1 (k % 3) (by omega)
      rw [Nat.mul_comm] at e
      rw [← e]
      exact C.1.ld (a := 163) rfl (show j * 3 + k % 3 < 9 by omega)
    have d3 : jI k / 3 = jI (k / 3) := jI_div (w := 3) (by omega) (by decide) (by decide)
    have m3 : jI k - jI k / 3 * 3 = jI (k % 3) := jI_mod (w := 3) (by omega) (by decide) (by decide)
    obtain ⟨h1, e1, X1, O1⟩ := C.1.stJ (a := 173) (j := k) rfl hk (Z 173 k + Z 171 (k / 3 * 3 + j) * (a j (k % 3)).toInt64)
    obtain ⟨h', i1, i2, i3⟩ := ra17_go (k2 := k2) hk hA n (j + 1) f h1 _ (by omega) (by omega) (C.to X1 O1)
    refine ⟨h', ?_, ?_, O1.trans i3⟩
    · show s_X14_raises_17_b k2 (s_X14_raises_17 k2 f) 104 (jI k) (jI j) h = _
      unfold s_X14_raises_17_b
      rw [if_neg (fun u => by have := (jI_le (j := 3) (by omega) (by omega)).mp u; omega), g57, Option.bind_some, l173, Option.bind_some, g54, Option.bind_some, nz_of (by decide), m3, d3, jI_3', jI_add, l171, Option.bind_some, g45, Option.bind_some, nz_of (by decide), jI_3', jI_add, l163, Option.bind_some, e1, Option.bind_some, jI_inc]
      exact i1
    · rw [upd2_eq, upd2_2, updL_eq, upd2_ne (show (171 : Nat) ≠ 173 by decide)] at i2
      have e2 : ∀ y, vp_updL (vp_updL (Z 173) k (Z 173 k + Z 171 (k / 3 * 3 + j) * (a j (k % 3)).toInt64)) k y = vp_updL (Z 173) k y := fun y => by
        funext i
        by_cases u : i = k
        · rw [u, updL_eq, updL_eq]
        · rw [updL_ne u, updL_ne u, updL_ne u]
      rw [e2] at i2
      exact i2
theorem ra71_go : ∀ (n k f : Nat) (h : aH) (Z : Nat → Nat → Int64), k + n = 9 → n < f → RC h S wd t fv nv V Z A m F B W G → (∀ j, j < k → Z 171 j = Z 173 j) →
    ∃ h' Z', s_X14_raises_71 f 104 (jI k) h = some (.inl none, h') ∧ RC h' S wd t fv nv V Z' A m F B W G ∧ Ou h h' ∧ SmZ [171] Z Z' ∧ ∀ j, j < 9 → Z' 171 j = Z 173 j
  | _, _, 0, _, _, _, hf, _, _ => by omega
  | 0, k, f + 1, h, Z, hn, hf, C, hz => by
    refine ⟨h, Z, ?_, C, Ou.refl, SmZ.refl, fun j hj => hz j (by omega)⟩
    show s_X14_raises_71_b (s_X14_raises_71 f) 104 (jI k) h = _
    unfold s_X14_raises_71_b
    rw [if_pos (show (9 : Int32) ≤ jI k from (jI_le (j := 9) (by omega) (by omega)).mpr (by omega))]
  | n + 1, k, f + 1, h, Z, hn, hf, C, hz => by
    have g57 : gO h (.ref 104) 14 57 = some 173 := gO_of (ltE (by decide)) C.1.1 rfl
    have g54 : gO h (.ref 104) 14 54 = some 171 := gO_of (ltE (by decide)) C.1.1 rfl
    have l173 : ldJ h (.ref 173) (jI k) = some (Z 173 k) := C.1.ldJ (a := 173) rfl (show k < 9 by omega)
    obtain ⟨h1, e1, X1, O1⟩ := C.1.stJ (a := 171) (j := k) rfl (show k < 9 by omega) (Z 173 k)
    obtain ⟨h', Z', i1, i2, i3, i4, i5⟩ := ra71_go n (k + 1) f h1 _ (by omega) (by omega) (C.to X1 O1) (fun j hj => by
      rw [upd2_eq, upd2_ne (by decide)]
      by_cases u : j = k
      · rw [u, updL_eq]
      · rw [updL_ne u]; exact hz j (by omega))
    refine ⟨h', Z', ?_, i2, O1.trans i3, (SmZ.refl.upd (by decide)).trans i4, fun j hj => ?_⟩
    · show s_X14_raises_71_b (s_X14_raises_71 f) 104 (jI k) h = _
      unfold s_X14_raises_71_b
      rw [if_neg (fun u => by have := (jI_le (j := 9) (by omega) (by omega)).mp u; omega), g54, Option.bind_some, g57, Option.bind_some, l173, Option.bind_some, e1, Option.bind_some, jI_inc]
      exact i1
    · rw [i5 j hj, upd2_ne (by decide)]
theorem ra2_go (hA : okLr V a c) : ∀ (n k f : Nat) (h : aH) (Z : Nat → Nat → Int64), k + n = 9 → n < f → RC h S wd t fv nv V Z A m F B W G → (∀ j, j < k → Z 173 j = mulV true a (Z 171) (j / 3) (j % 3)) →
    ∃ h' Z', s_X14_raises_2 f 104 (jI k) h = some (.inl none, h') ∧ RC h' S wd t fv nv V Z' A m F B W G ∧ Ou h h' ∧ SmZ [171, 173] Z Z' ∧ ∀ j, j < 9 → Z' 171 j = mulV true a (Z 171) (j / 3) (j % 3)
  | _, _, 0, _, _, _, hf, _, _ => by omega
  | 0, k, f + 1, h, Z, hn, hf, C, hz => by
    obtain ⟨h', Z', i1, i2, i3, i4, i5⟩ := ra71_go 9 0 FU h Z rfl (by decide) C (fun j hj => absurd hj (Nat.not_lt_zero j))
    refine ⟨h', Z', ?_, i2, i3, i4.mono (by decide), fun j hj => by rw [i5 j hj, hz j (by omega)]⟩
    show s_X14_raises_2_b (s_X14_raises_2 f) 104 (jI k) h = _
    unfold s_X14_raises_2_b
    rw [if_pos (show (9 : Int32) ≤ jI k from (jI_le (j := 9) (by omega) (by omega)).mpr (by omega))]
    exact i1
  | n + 1, k, f + 1, h, Z, hn, hf, C, hz => by
    have g57 : gO h (.ref 104) 14 57 = some 173 := gO_of (ltE (by decide)) C.1.1 rfl
    obtain ⟨h1, e1, X1, O1⟩ := C.1.stJ (a := 173) (j := k) rfl (show k < 9 by omega) 0
    obtain ⟨h2, e2, C2, O2⟩ := ra17_go (k2 := s_X14_raises_2 f) (k := k) (by omega) hA 3 0 FU h1 _ rfl (by decide) (C.to X1 O1)
    obtain ⟨Z2, hZ2⟩ : ∃ Z2, Z2 = upd2 (upd2 Z 173 (vp_updL (Z 173) k 0)) 173 (vp_updL (upd2 Z 173 (vp_updL (Z 173) k 0) 173) k (sm3 (fun j => upd2 Z 173 (vp_updL (Z 173) k 0) 171 (k / 3 * 3 + j) * mtx true a j (k % 3)) 0 3 (upd2 Z 173 (vp_updL (Z 173) k 0) 173 k))) := ⟨_, rfl⟩
    rw [← hZ2] at C2
    have s2 : SmZ [171, 173] Z Z2 := by rw [hZ2]; exact (SmZ.refl.upd (by decide)).upd (by decide)
    have z171 : Z2 171 = Z 171 := by rw [hZ2, upd2_ne (by decide), upd2_ne (by decide)]
    have z173 : ∀ j, j < k + 1 → Z2 173 j = mulV true a (Z 171) (j / 3) (j % 3) := fun j hj => by
      rw [hZ2, upd2_eq, upd2_eq]
      by_cases u : j = k
      · rw [u, updL_eq, updL_eq, upd2_ne (by decide)]
        rfl
      · rw [updL_ne u, updL_ne u]
        exact hz j (by omega)
    obtain ⟨h', Z', i1, i2, i3, i4, i5⟩ := ra2_go hA n (k + 1) f h2 Z2 (by omega) (by omega) C2 (fun j hj => by rw [z171]; exact z173 j hj)
    refine ⟨h', Z', ?_, i2, (O1.trans O2).trans i3, s2.trans i4, fun j hj => by rw [i5 j hj, z171]⟩
    show s_X14_raises_2_b (s_X14_raises_2 f) 104 (jI k) h = _
    unfold s_X14_raises_2_b
    rw [if_neg (fun u => by have := (jI_le (j := 9) (by omega) (by omega)).mp u; omega), g57, Option.bind_some, e1, Option.bind_some]
    exact e2.trans i1
theorem RC.raises {h : aH} {Z : Nat → Nat → Int64} (C : RC h S wd t fv nv V Z A m F B W G) (hA : okLr V a c) :
    ∃ h' Z', s_X14_raises 104 h = some (.inl none, h') ∧ RC h' S wd t fv nv V Z' A m F B W G ∧ Ou h h' ∧ SmZ [171, 173] Z Z' ∧ ∀ j, j < 9 → Z' 171 j = mulV true a (Z 171) (j / 3) (j % 3) :=
  ra2_go hA 9 0 FU h Z rfl (by decide) C (fun j hj => absurd hj (Nat.not_lt_zero j))
def sgR (x y : Int64) (g : Nat) : Int64 := if 0 ≤ lg_cmp y 0 then x / jL g else x / (-(jL g))
theorem reduces_at {h : aH} {Z : Nat → Nat → Int64} (C : RC h S wd t fv nv V Z A m F B W G) {i : Nat} (hi : i < 3) {x y : Int64} (ex : Z 169 i = x) (ey : Z 170 i = y) (bx : bd62 x) (by' : bd62 y) (y0 : y ≠ 0) (x50 : x.toInt.natAbs < 2 ^ 50) :
    ∃ h', s_X14_reduces 104 (jI i) h = some (.inl none, h') ∧ RC h' S wd t fv nv V (upd2 (upd2 Z 169 (vp_updL (Z 169) i (sgR x y (Nat.gcd x.toInt.natAbs y.toInt.natAbs)))) 170 (vp_updL (Z 170) i (sgR y y (Nat.gcd x.toInt.natAbs y.toInt.natAbs)))) A m F B W G ∧ Ou h h' := by
  have g52 : gO h (.ref 104) 14 52 = some 169 := gO_of (ltE (by decide)) C.1.1 rfl
  have g53 : gO h (.ref 104) 14 53 = some 170 := gO_of (ltE (by decide)) C.1.1 rfl
  have l169 : ldJ h (.ref 169) (jI i) = some x := ex ▸ C.1.ldJ (a := 169) rfl (show i < 3 by omega)
  have l170 : ldJ h (.ref 170) (jI i) = some y := ey ▸ C.1.ldJ (a := 170) rfl (show i < 3 by omega)
  have yn : 0 < y.toInt.natAbs := by
    have : y.toInt ≠ 0 := fun z => y0 (Int64.toInt_inj.mp z)
    omega
  obtain ⟨g, hg⟩ : ∃ g, g = Nat.gcd x.toInt.natAbs y.toInt.natAbs := ⟨_, rfl⟩
  have g0 : 0 < g := by rw [hg]; exact Nat.gcd_pos_of_pos_right _ yn
  have gle : g ≤ y.toInt.natAbs := by rw [hg]; exact Nat.gcd_le_right _ yn
  have g62 : g ≤ 4611686018427387904 := by unfold bd62 at by'; omega
  rw [← hg]
  have tail : ∀ d : Int64, d ≠ 0 → ∃ h', s_X14_reduces_58 104 (jI i) d h = some (.inl none, h') ∧ RC h' S wd t fv nv V (upd2 (upd2 Z 169 (vp_updL (Z 169) i (x / d))) 170 (vp_updL (Z 170) i (y / d))) A m F B W G ∧ Ou h h' := by
    intro d hd
    obtain ⟨h1, e1, X1, O1⟩ := C.1.stJ (a := 169) (j := i) rfl (show i < 3 by omega) (x / d)
    have C1 := C.to X1 O1
    have p53 : gO h1 (.ref 104) 14 53 = some 170 := gO_of (ltE (by decide)) C1.1.1 rfl
    have p170 : ldJ h1 (.ref 170) (jI i) = some y := by
      have := C1.1.ldJ (a := 170) (j := i) rfl (show i < 3 by omega)
      rw [upd2_ne (by decide), ey] at this
      exact this
    obtain ⟨h2, e2, X2, O2⟩ := C1.1.stJ (a := 170) (j := i) rfl (show i < 3 by omega) (y / d)
    rw [upd2_ne (show (170 : Nat) ≠ 169 by decide)] at X2
    refine ⟨h2, ?_, C1.to X2 O2, O1.trans O2⟩
    unfold s_X14_reduces_58 nzL
    rw [g52, Option.bind_some, l169, Option.bind_some, if_neg hd, e1, Option.bind_some, p53, Option.bind_some, p170, Option.bind_some, if_neg hd, e2, Option.bind_some]
  have st : s_X14_reduces 104 (jI i) h = if 0 ≤ lg_cmp y 0 then s_X14_reduces_58 104 (jI i) (jL g) h else s_X14_reduces_58 104 (jI i) (-(jL g)) h := by
    unfold s_X14_reduces
    rw [g52, Option.bind_some, l169, Option.bind_some, g53, Option.bind_some, l170, Option.bind_some, jabs_at bx, jabs_at by', re_go 50 x.toInt.natAbs y.toInt.natAbs FU x50 (by decide) (by decide) (by unfold bd62 at by'; omega), ← hg]
    show s_X14_reduces_21_b (s_X14_reduces_21 0) 104 (jI i) (jL 0) (jL g) h = _
    unfold s_X14_reduces_21_b
    rw [if_pos (show lg_cmp (jL 0) 0 ≤ 0 by decide), g53, Option.bind_some, l170, Option.bind_some]
  have ne : jL g ≠ 0 := fun z => by have := (jL_inj0 (by omega)).mp z; omega
  unfold sgR
  by_cases q : 0 ≤ lg_cmp y 0
  · rw [st, if_pos q, if_pos q, if_pos q]
    exact tail (jL g) ne
  · rw [st, if_neg q, if_neg q, if_neg q]
    exact tail (-(jL g)) (fun z => ne (i64_neg0.mp z))
end
