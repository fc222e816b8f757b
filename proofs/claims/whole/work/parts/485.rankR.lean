/-! the reference's rank -/
theorem i64_sub0 {x y : Int64} : x - y = 0 ↔ x = y := by
  constructor
  · intro h
    have := congrArg (fun z => z + y) h
    simp only [Int64.sub_add_cancel, Int64.zero_add] at this
    exact this
  · intro h
    rw [h, Int64.sub_self]
theorem i64_neg0 {x : Int64} : -x = 0 ↔ x = 0 := by
  constructor
  · intro h
    have := congrArg (fun z => -z) h
    simp only [Int64.neg_neg] at this
    rw [this]
    rfl
  · intro h
    rw [h]
    rfl
theorem dt3_rev (R : Nat → Int64) (x y z : Nat) : dt3 R z y x = -(dt3 R x y z) := by
  unfold dt3
  grind
theorem mn2_rev (R : Nat → Int64) (x y i j : Nat) : mn2 R y x i j = -(mn2 R x y i j) := by
  unfold mn2
  grind
theorem apt_rev {R : Nat → Int64} {x y : Nat} : apt R y x ↔ apt R x y := by
  unfold apt
  rw [mn2_rev R x y 0 1, mn2_rev R x y 0 2, mn2_rev R x y 1 2]
  exact ⟨fun h => by rcases h with h | h | h; exact Or.inl (fun z => h (i64_neg0.mpr z)); exact Or.inr (Or.inl (fun z => h (i64_neg0.mpr z))); exact Or.inr (Or.inr (fun z => h (i64_neg0.mpr z))), fun h => by rcases h with h | h | h; exact Or.inl (fun z => h (i64_neg0.mp z)); exact Or.inr (Or.inl (fun z => h (i64_neg0.mp z))); exact Or.inr (Or.inr (fun z => h (i64_neg0.mp z)))⟩
def isR3 (T P Q : Prop) (r : Int32) : Prop := (r = 3 ∧ T) ∨ (r = 2 ∧ ¬ T ∧ P) ∨ (r = 1 ∧ ¬ T ∧ ¬ P ∧ Q) ∨ (r = 0 ∧ ¬ T ∧ ¬ P ∧ ¬ Q)
theorem isR3.congr {T P Q T' P' Q' : Prop} {r : Int32} (h : isR3 T P Q r) (t : T ↔ T') (p : P ↔ P') (q : Q ↔ Q') : isR3 T' P' Q' r := by
  unfold isR3 at *
  rw [← t, ← p, ← q]
  exact h
theorem isR3.uniq {T P Q : Prop} {r r' : Int32} (h : isR3 T P Q r) (h' : isR3 T P Q r') : r = r' := by
  rcases h with ⟨rfl, a⟩ | ⟨rfl, a, c⟩ | ⟨rfl, a, c, d⟩ | ⟨rfl, a, c, d⟩ <;> rcases h' with ⟨rfl, a'⟩ | ⟨rfl, a', c'⟩ | ⟨rfl, a', c', d'⟩ | ⟨rfl, a', c', d'⟩ <;> first | rfl | exact absurd a a' | exact absurd a' a | exact absurd c c' | exact absurd c' c | exact absurd d d' | exact absurd d' d
theorem isR3.q {T P Q q : Prop} {r : Int32} (h : isR3 T P Q r) (hq : q) : isR3 T P (Q ∨ q) (jmax r 1) := by
  rcases h with ⟨rfl, a⟩ | ⟨rfl, a, c⟩ | ⟨rfl, a, c, d⟩ | ⟨rfl, a, c, d⟩
  · exact Or.inl ⟨rfl, a⟩
  · exact Or.inr (Or.inl ⟨rfl, a, c⟩)
  · exact Or.inr (Or.inr (Or.inl ⟨rfl, a, c, Or.inr hq⟩))
  · exact Or.inr (Or.inr (Or.inl ⟨rfl, a, c, Or.inr hq⟩))
theorem isR3.p {T P Q p : Prop} {r : Int32} (h : isR3 T P Q r) (hp : p) : isR3 T (P ∨ p) Q (jmax r 2) := by
  rcases h with ⟨rfl, a⟩ | ⟨rfl, a, c⟩ | ⟨rfl, a, c, d⟩ | ⟨rfl, a, c, d⟩
  · exact Or.inl ⟨rfl, a⟩
  · exact Or.inr (Or.inl ⟨rfl, a, Or.inr hp⟩)
  · exact Or.inr (Or.inl ⟨rfl, a, Or.inr hp⟩)
  · exact Or.inr (Or.inl ⟨rfl, a, Or.inr hp⟩)
theorem isR3.t {T P Q t : Prop} {r : Int32} (_ : isR3 T P Q r) (ht : t) : isR3 (T ∨ t) P Q 3 := Or.inl ⟨rfl, Or.inr ht⟩
theorem jI_3' (x : Nat) : 3 * jI x = jI (x * 3) := by rw [show (3 : Int32) = jI 3 from rfl, jI_mul, Nat.mul_comm]
section
variable {wd : Int64} {t : Nat} {fv nv : Value} {A : Nat → Nat → Int32} {m F : Nat → Nat} {B : Nat → Nat → Int32} {W : Nat → Int64} {G : Nat → Nat} {S : Nat → Int32} {V : Nat → Nat → Int32} {a c : Nat → Nat → Int32}
theorem ca15_go {k3 : Nat → Int32 → Int32 → Int32 → Int32 → aH → aO} {fr to i : Nat} {see : Bool} (hfr : fr < 6) (hto : to < 6) (hi : i < 3) (hA : okLr V a c) : ∀ (n j f : Nat) (h : aH) (Z : Nat → Nat → Int64) (acc : Int64), j + n = 3 → n < f → RC h S wd t fv nv V Z A m F B W G →
    ∃ h', s_X14_carries_15 k3 f 104 (jI fr) (jI to) (b01 see) (jI i) acc (jI j) h = k3 104 (jI fr) (jI to) (b01 see) (jI (i + 1)) h' ∧ RC h' S wd t fv nv V (upd2 Z 168 (vp_updL (Z 168) (to * 3 + i) (sm3 (fun j => Z 168 (fr * 3 + j) * mtx see a j i) j n acc))) A m F B W G ∧ Ou h h'
  | _, _, 0, _, _, _, _, hf, _ => by omega
  | 0, j, f + 1, h, Z, acc, hn, hf, C => by
    have g51 : gO h (.ref 104) 14 51 = some 168 := gO_of (ltE (by decide)) C.1.1 rfl
    obtain ⟨h1, e1, X1, O1⟩ := C.1.stJ (a := 168) (j := to * 3 + i) rfl (show to * 3 + i < 18 by omega) acc
    refine ⟨h1, ?_, C.to X1 O1, O1⟩
    show s_X14_carries_15_b k3 (s_X14_carries_15 k3 f) 104 (jI fr) (jI to) (b01 see) (jI i) acc (jI j) h = _
    unfold s_X14_carries_15_b
    rw [if_pos (show (3 : Int32) ≤ jI j from (jI_le (j := 3) (by omega) (by omega)).mpr (by omega)), g51, Option.bind_some, jI_3', jI_add, e1, Option.bind_some, jI_inc]
  | n + 1, j, f + 1, h, Z, acc, hn, hf, C => by
    have g51 : gO h (.ref 104) 14 51 = some 168 := gO_of (ltE (by decide)) C.1.1 rfl
    have g45 : gO h (.ref 104) 14 45 = some 163 := gO_of (ltE (by decide)) C.1.1 rfl
    have l168 : ldJ h (.ref 168) (jI (fr * 3 + j)) = some (Z 168 (fr * 3 + j)) := C.1.ldJ (a := 168) rfl (show fr * 3 + j < 18 by omega)
    have l163 : ∀ r k, r < 3 → k < 3 → ldI .int h (.ref 163) (jI (r * 3 + k)) = some (a r k) := fun r k hr hk => by
      have e := (hA.1 r hr).1 k hk
      rw [Nat.mul_comm] at e
      rw [← e]
      exact C.1.ld (a := 163) rfl (show r * 3 + k < 9 by omega)
    obtain ⟨h1, i1, i2, i3⟩ := ca15_go (k3 := k3) (see := see) hfr hto hi hA n (j + 1) f h Z (acc + Z 168 (fr * 3 + j) * mtx see a j i) (by omega) (by omega) C
    refine ⟨h1, ?_, i2, i3⟩
    show s_X14_carries_15_b k3 (s_X14_carries_15 k3 f) 104 (jI fr) (jI to) (b01 see) (jI i) acc (jI j) h = _
    unfold s_X14_carries_15_b s_X14_carries_54
    rw [if_neg (fun u => by have := (jI_le (j := 3) (by omega) (by omega)).mp u; omega)]
    rw [Int64.mul_comm] at i1
    cases see
    · rw [if_pos b01_f, g45, Option.bind_some, jI_3', jI_add, l163 i j hi (by omega), Option.bind_some, g51, Option.bind_some, jI_3', jI_add, l168, Option.bind_some, jI_inc]
      exact i1
    · rw [if_neg (show ¬ b01 true = 0 by decide), g45, Option.bind_some, jI_3', jI_add, l163 j i (by omega) hi, Option.bind_some, g51, Option.bind_some, jI_3', jI_add, l168, Option.bind_some, jI_inc]
      exact i1
theorem ca3_go {fr to : Nat} {see : Bool} (hfr : fr < 6) (hto : to < 6) (hne : fr ≠ to) (hA : okLr V a c) : ∀ (n i f : Nat) (h : aH) (Z : Nat → Nat → Int64), i + n = 3 → n < f → RC h S wd t fv nv V Z A m F B W G →
    ∃ h' Z', s_X14_carries_3 f 104 (jI fr) (jI to) (b01 see) (jI i) h = some (.inl none, h') ∧ RC h' S wd t fv nv V Z' A m F B W G ∧ Ou h h' ∧ SmZ [168] Z Z' ∧ (∀ j, (j < to * 3 + i ∨ to * 3 + 3 ≤ j) → Z' 168 j = Z 168 j) ∧ ∀ k, i ≤ k → k < 3 → Z' 168 (to * 3 + k) = mulV see a (Z 168) fr k
  | _, _, 0, _, _, _, hf, _ => by omega
  | 0, i, f + 1, h, Z, hn, hf, C => by
    refine ⟨h, Z, ?_, C, Ou.refl, SmZ.refl, fun _ _ => rfl, fun k h1 h2 => by omega⟩
    show s_X14_carries_3_b (s_X14_carries_3 f) 104 (jI fr) (jI to) (b01 see) (jI i) h = _
    unfold s_X14_carries_3_b
    rw [if_pos (show (3 : Int32) ≤ jI i from (jI_le (j := 3) (by omega) (by omega)).mpr (by omega))]
  | n + 1, i, f + 1, h, Z, hn, hf, C => by
    obtain ⟨h1, e1, C1, O1⟩ := ca15_go (k3 := s_X14_carries_3 f) (see := see) hfr hto (show i < 3 by omega) hA 3 0 FU h Z 0 rfl (by decide) C
    obtain ⟨h', Z', i1, i2, i3, i4, i5, i6⟩ := ca3_go (see := see) hfr hto hne hA n (i + 1) f h1 _ (by omega) (by omega) C1
    refine ⟨h', Z', ?_, i2, O1.trans i3, (SmZ.refl.upd (by decide)).trans i4, fun j hj => ?_, fun k h1 h2 => ?_⟩
    · show s_X14_carries_3_b (s_X14_carries_3 f) 104 (jI fr) (jI to) (b01 see) (jI i) h = _
      unfold s_X14_carries_3_b
      rw [if_neg (fun u => by have := (jI_le (j := 3) (by omega) (by omega)).mp u; omega)]
      exact e1.trans i1
    · rw [i5 j (by omega), upd2_eq, updL_ne (by omega)]
    · by_cases u : k = i
      · rw [u, i5 _ (by omega), upd2_eq, updL_eq]
        rfl
      · rw [i6 k (by omega) h2]
        unfold mulV
        rw [upd2_eq, updL_ne (by omega), updL_ne (by omega), updL_ne (by omega)]
theorem co40_go {k31 : Nat → Int32 → Int32 → Int32 → Int32 → aH → aO} {see : Bool} {n ln l : Nat} (hl2 : l < 2) (hA : okLr V a c) : ∀ (k i f : Nat) (h : aH) (Z : Nat → Nat → Int64), i + k = 3 → k < f → RC h S wd t fv nv V Z A m F B W G →
    ∃ h' Z', s_X14_columns_40 k31 f 104 (b01 see) (jI n) (jI ln) (jI l) (jI i) h = k31 104 (b01 see) (jI n) (jI ln) (jI (l + 1)) h' ∧ RC h' S wd t fv nv V Z' A m F B W G ∧ Ou h h' ∧ SmZ [168] Z Z' ∧ (∀ j, (j < l * 3 + i ∨ l * 3 + 3 ≤ j) → Z' 168 j = Z 168 j) ∧ ∀ k, i ≤ k → k < 3 → Z' 168 (l * 3 + k) = basV see a c l k
  | _, _, 0, _, _, _, hf, _ => by omega
  | 0, i, f + 1, h, Z, hi, hf, C => by
    refine ⟨h, Z, ?_, C, Ou.refl, SmZ.refl, fun _ _ => rfl, fun k h1 h2 => by omega⟩
    show s_X14_columns_40_b k31 (s_X14_columns_40 k31 f) 104 (b01 see) (jI n) (jI ln) (jI l) (jI i) h = _
    unfold s_X14_columns_40_b
    rw [if_pos (show (3 : Int32) ≤ jI i from (jI_le (j := 3) (by omega) (by omega)).mpr (by omega)), jI_inc]
  | k + 1, i, f + 1, h, Z, hi, hf, C => by
    have g51 : gO h (.ref 104) 14 51 = some 168 := gO_of (ltE (by decide)) C.1.1 rfl
    have g46 : gO h (.ref 104) 14 46 = some 164 := gO_of (ltE (by decide)) C.1.1 rfl
    have g47 : gO h (.ref 104) 14 47 = some 165 := gO_of (ltE (by decide)) C.1.1 rfl
    obtain ⟨h1, e1, X1, O1⟩ := C.1.stJ (a := 168) (j := l * 3 + i) rfl (show l * 3 + i < 18 by omega) (basV see a c l i)
    obtain ⟨h', Z', i1, i2, i3, i4, i5, i6⟩ := co40_go (k31 := k31) (see := see) (n := n) (ln := ln) hl2 hA k (i + 1) f h1 _ (by omega) (by omega) (C.to X1 O1)
    refine ⟨h', Z', ?_, i2, O1.trans i3, (SmZ.refl.upd (by decide)).trans i4, fun j hj => ?_, fun k h1 h2 => ?_⟩
    · show s_X14_columns_40_b k31 (s_X14_columns_40 k31 f) 104 (b01 see) (jI n) (jI ln) (jI l) (jI i) h = _
      unfold s_X14_columns_40_b s_X14_columns_90
      rw [if_neg (fun u => by have := (jI_le (j := 3) (by omega) (by omega)).mp u; omega), g51, Option.bind_some]
      cases see
      · have l164 : ldI .int h (.ref 164) (jI (2 * i + l)) = some (a i (3 + l)) := ((hA.1 i (by omega)).2 l hl2) ▸ C.1.ld (a := 164) rfl (show 2 * i + l < 6 by omega)
        have e1' : stJ h (.ref 168) (jI (l * 3 + i)) (a i (3 + l)).toInt64 = some h1 := e1
        rw [if_pos b01_f, g46, Option.bind_some, show 2 * jI i + jI l = jI (2 * i + l) by rw [show (2 : Int32) = jI 2 from rfl, jI_mul, jI_add], l164, Option.bind_some, jI_3', jI_add, e1', Option.bind_some, jI_inc]
        exact i1
      · have l165 : ldI .int h (.ref 165) (jI (l * 3 + i)) = some (c l i) := by
          have e := hA.2 l hl2 i (by omega)
          rw [Nat.mul_comm] at e
          rw [← e]
          exact C.1.ld (a := 165) rfl (show l * 3 + i < 6 by omega)
        have e1' : stJ h (.ref 168) (jI (l * 3 + i)) (c l i).toInt64 = some h1 := e1
        rw [if_neg (show ¬ b01 true = 0 by decide), g47, Option.bind_some, jI_3', jI_add, l165, Option.bind_some, e1', Option.bind_some, jI_inc]
        exact i1
    · rw [i5 j (by omega), upd2_eq, updL_ne (by omega)]
    · by_cases u : k = i
      · rw [u, i5 _ (by omega), upd2_eq, updL_eq]
      · exact i6 k (by omega) h2
theorem co106_go {see : Bool} {n ln cnt : Nat} (hcnt : ln * n = cnt) (hl : 0 < ln ∨ cnt = 0) (hc6 : cnt ≤ 6) (hA : okLr V a c) : ∀ (k l f : Nat) (h : aH) (Z : Nat → Nat → Int64), l + k = cnt → ln ≤ l → k < f → RC h S wd t fv nv V Z A m F B W G → isCv see a c ln l (Z 168) →
    ∃ h' Z', s_X14_columns_106 f 104 (b01 see) (jI n) (jI ln) (jI l) h = some (.inl (some (.int (jI cnt))), h') ∧ RC h' S wd t fv nv V Z' A m F B W G ∧ Ou h h' ∧ SmZ [168] Z Z' ∧ isCv see a c ln cnt (Z' 168)
  | _, _, 0, _, _, _, _, hf, _, _ => by omega
  | 0, l, f + 1, h, Z, hi, hll, hf, C, hv => by
    have el : l = cnt := by omega
    refine ⟨h, Z, ?_, C, Ou.refl, SmZ.refl, el ▸ hv⟩
    show s_X14_columns_106_b (s_X14_columns_106 f) 104 (b01 see) (jI n) (jI ln) (jI l) h = _
    unfold s_X14_columns_106_b
    rw [jI_mul, hcnt, if_pos ((jI_le (by omega) (by omega)).mpr (by omega))]
  | k + 1, l, f + 1, h, Z, hi, hll, hf, C, hv => by
    have hl0 : 0 < ln := hl.elim id (fun z => by omega)
    obtain ⟨h1, Z1, e1, C1, O1, s1, o1, b1⟩ := ca3_go (see := see) (fr := l - ln) (to := l) (by omega) (by omega) (by omega) hA 3 0 FU h Z rfl (by decide) C
    obtain ⟨h', Z', i1, i2, i3, i4, i5⟩ := co106_go (see := see) hcnt hl hc6 hA k (l + 1) f h1 Z1 (by omega) (by omega) (by omega) C1 (by
      refine ⟨fun l' hl' k hk => ?_, fun l' h1 h2 k hk => ?_⟩
      · rw [o1 _ (by omega)]
        exact hv.1 l' hl' k hk
      · have em : mulV see a (Z1 168) (l' - ln) k = mulV see a (Z 168) (l' - ln) k := by
          unfold mulV
          rw [o1 _ (by omega), o1 _ (by omega), o1 _ (by omega)]
        rw [em]
        by_cases u : l' = l
        · subst u
          exact b1 k (Nat.zero_le k) hk
        · rw [o1 _ (by omega)]
          exact hv.2 l' h1 (by omega) k hk)
    refine ⟨h', Z', ?_, i2, O1.trans i3, s1.trans i4, i5⟩
    show s_X14_columns_106_b (s_X14_columns_106 f) 104 (b01 see) (jI n) (jI ln) (jI l) h = _
    unfold s_X14_columns_106_b
    have e1' : s_X14_carries 104 (jI (l - ln)) (jI l) (b01 see) h = some (.inl none, h1) := e1
    rw [jI_mul, hcnt, if_neg (fun u => by have := (jI_le (by omega) (by omega)).mp u; omega), C.kO, jI_sub hll, e1']
    simp only [cN]
    rw [jI_inc]
    exact i1
theorem co31_go {see : Bool} {n ln : Nat} (hl : ln ≤ 2) (hA : okLr V a c) : ∀ (k l f : Nat) (h : aH) (Z : Nat → Nat → Int64), l + k = ln → k < f → RC h S wd t fv nv V Z A m F B W G → (∀ l', l' < l → ∀ k, k < 3 → Z 168 (l' * 3 + k) = basV see a c l' k) →
    ∃ h' Z', s_X14_columns_31 f 104 (b01 see) (jI n) (jI ln) (jI l) h = s_X14_columns_106 FU 104 (b01 see) (jI n) (jI ln) (jI ln) h' ∧ RC h' S wd t fv nv V Z' A m F B W G ∧ Ou h h' ∧ SmZ [168] Z Z' ∧ ∀ l', l' < ln → ∀ k, k < 3 → Z' 168 (l' * 3 + k) = basV see a c l' k
  | _, _, 0, _, _, _, hf, _, _ => by omega
  | 0, l, f + 1, h, Z, hi, hf, C, hb => by
    have el : l = ln := by omega
    subst el
    refine ⟨h, Z, ?_, C, Ou.refl, SmZ.refl, hb⟩
    show s_X14_columns_31_b (s_X14_columns_31 f) 104 (b01 see) (jI n) (jI l) (jI l) h = _
    unfold s_X14_columns_31_b
    rw [if_pos ((jI_le (by omega) (by omega)).mpr (by omega))]
  | k + 1, l, f + 1, h, Z, hi, hf, C, hb => by
    obtain ⟨h1, Z1, e1, C1, O1, s1, o1, b1⟩ := co40_go (k31 := s_X14_columns_31 f) (see := see) (n := n) (ln := ln) (l := l) (by omega) hA 3 0 FU h Z rfl (by decide) C
    obtain ⟨h', Z', i1, i2, i3, i4, i5⟩ := co31_go (see := see) (n := n) hl hA k (l + 1) f h1 Z1 (by omega) (by omega) C1 (fun l' hl' k hk => by
      by_cases u : l' = l
      · subst u
        exact b1 k (Nat.zero_le k) hk
      · rw [o1 _ (by omega)]
        exact hb l' (by omega) k hk)
    refine ⟨h', Z', ?_, i2, O1.trans i3, s1.trans i4, i5⟩
    show s_X14_columns_31_b (s_X14_columns_31 f) 104 (b01 see) (jI n) (jI ln) (jI l) h = _
    unfold s_X14_columns_31_b
    rw [if_neg (fun u => by have := (jI_le (by omega) (by omega)).mp u; omega)]
    exact e1.trans i1
theorem RC.columns {h : aH} {Z : Nat → Nat → Int64} (C : RC h S wd t fv nv V Z A m F B W G) (see : Bool) (hA : okLr V a c) :
    ∃ h' Z', s_X14_columns 104 (b01 see) h = some (.inl (some (.int (jI (lnS see m * m 0)))), h') ∧ RC h' S wd t fv nv V Z' A m F B W G ∧ Ou h h' ∧ SmZ [168] Z Z' ∧ isCv see a c (lnS see m) (lnS see m * m 0) (Z' 168) := by
  obtain ⟨h3, hp2, -, -, hs2⟩ := C.2.2.2.2.1.1.1
  have hm0 := C.2.2.2.2.2.1.2.2.2.2.2.2.2
  have hT := C.2.1.1
  have hln : lnS see m ≤ 2 := by unfold lnS; cases see <;> simp <;> omega
  have hcnt : lnS see m * m 0 ≤ 6 := Nat.mul_le_mul hln h3
  have hge : lnS see m ≤ lnS see m * m 0 := Nat.le_mul_of_pos_right _ hm0
  obtain ⟨h2, Z2, e2, C2, O2, s2, b2⟩ := co31_go (see := see) (n := m 0) (ln := lnS see m) hln hA (lnS see m) 0 FU h Z (by omega) (by show lnS see m < 1000000; omega) C (fun l' hl' => absurd hl' (Nat.not_lt_zero l'))
  obtain ⟨h', Z', i1, i2, i3, i4, i5⟩ := co106_go (see := see) (n := m 0) (ln := lnS see m) (cnt := lnS see m * m 0) rfl (by
    by_cases u : lnS see m = 0
    · exact Or.inr (by rw [u, Nat.zero_mul])
    · exact Or.inl (by omega)) hcnt hA (lnS see m * m 0 - lnS see m) (lnS see m) FU h2 Z2 (by omega) (Nat.le_refl _) (by show lnS see m * m 0 - lnS see m < 1000000; omega) C2 ⟨b2, fun l h1 h2 => by omega⟩
  refine ⟨h', Z', ?_, i2, O2.trans i3, s2.trans i4, i5⟩
  have g4 : gO h (.ref 104) 14 4 = some t := gO_of (ltE (by decide)) C.1.1 rfl
  have g0 : gO h (.ref t) 13 0 = some (t + 1) := gO_of (by omega) C.2.1.2.1 rfl
  have lm : ∀ k, k < 5 → ldI .int h (.ref (t + 1)) (jI k) = some (jI (m k)) := fun k hk => (C.2.2.2.1.1 k hk) ▸ C.2.1.ld (j := k) (by decide) (by decide) (by decide) hk
  have l0 : ldI .int h (.ref (t + 1)) 0 = some (jI (m 0)) := lm 0 (by decide)
  have l1 : ldI .int h (.ref (t + 1)) 1 = some (jI (m 1)) := lm 1 (by decide)
  have l4 : ldI .int h (.ref (t + 1)) 4 = some (jI (m 4)) := lm 4 (by decide)
  unfold s_X14_columns s_X14_columns_26
  rw [g4, Option.bind_some, g0, Option.bind_some, l0, Option.bind_some, Option.bind_some, g0, Option.bind_some]
  cases see
  · rw [if_pos b01_f, l1, Option.bind_some]
    exact e2.trans i1
  · rw [if_neg (show ¬ b01 true = 0 by decide), l4, Option.bind_some]
    exact e2.trans i1
end
