/-! the class's rank -/
def sm3 (g : Nat → Int64) : Nat → Nat → Int64 → Int64
  | _, 0, acc => acc
  | j, n + 1, acc => sm3 g (j + 1) n (acc + g j)
/-- states, pushes and sights that there aren't have only 0 -/
def okZ (a c : Nat → Nat → Int32) (m : Nat → Nat) : Prop :=
  (∀ r k, r < 3 → k < 3 → (m 0 ≤ r ∨ m 0 ≤ k) → a r k = 0) ∧ (∀ r k, r < 3 → k < 2 → (m 0 ≤ r ∨ m 1 ≤ k) → a r (3 + k) = 0) ∧ ∀ r k, r < 2 → k < 3 → (m 4 ≤ r ∨ m 0 ≤ k) → c r k = 0
theorem basV_0 {see : Bool} {a c : Nat → Nat → Int32} {m : Nat → Nat} (hz : okZ a c m) {l k : Nat} (hl : l < 2) (hk : k < 3) (h : m 0 ≤ k) : basV see a c l k = 0 := by
  unfold basV
  cases see
  · rw [if_neg Bool.false_ne_true, hz.2.1 k l hk hl (Or.inl h)]; rfl
  · rw [if_pos rfl, hz.2.2 l k hl hk (Or.inr h)]; rfl
def lnS (see : Bool) (m : Nat → Nat) : Nat := if see = true then m 4 else m 1
section
variable {S V : Nat → Nat → Int32} {D Ln : Nat → Nat} {b : Nat} {A : Nat → Nat → Int32} {N : Nat → Int64} {m F : Nat → Nat} {a c : Nat → Nat → Int32}
theorem mu15_go {k3 : Nat → Int32 → Int32 → Int32 → Int32 → aH → aO} {fr to i : Nat} {see : Bool} (hfr : fr < 6) (hto : to < 6) (hi : i < 3) (hA : okLn V a c) : ∀ (n j f : Nat) (h : aH) (Z : Nat → Nat → Int64) (acc : Int64), j + n = 3 → n < f → CC h S V Z D Ln b A N m F →
    ∃ h', s_X1_multiply_15 k3 f 81 (jI fr) (jI to) (b01 see) (jI i) acc (jI j) h = k3 81 (jI fr) (jI to) (b01 see) (jI (i + 1)) h' ∧ CC h' S V (upd2 Z 86 (vp_updL (Z 86) (to * 3 + i) (sm3 (fun j => Z 86 (fr * 3 + j) * mtx see a j i) j n acc))) D Ln b A N m F ∧ Oc D h h'
  | _, _, 0, _, _, _, _, hf, _ => by omega
  | 0, j, f + 1, h, Z, acc, hn, hf, C => by
    have g7 : gO h (.ref 81) 1 7 = some 86 := gO_of (ltE (by decide)) (C.1.1 81 rfl) rfl
    obtain ⟨h1, e1, X1, O1⟩ := C.1.stJ (a := 86) (j := to * 3 + i) rfl (show to * 3 + i < 18 by omega) acc
    refine ⟨h1, ?_, C.to X1 O1 rfl, O1⟩
    show s_X1_multiply_15_b k3 (s_X1_multiply_15 k3 f) 81 (jI fr) (jI to) (b01 see) (jI i) acc (jI j) h = _
    unfold s_X1_multiply_15_b
    rw [if_pos (show (3 : Int32) ≤ jI j from (jI_le (j := 3) (by omega) (by omega)).mpr (by omega)), g7, Option.bind_some, jI_3, jI_add, e1, Option.bind_some, jI_inc]
  | n + 1, j, f + 1, h, Z, acc, hn, hf, C => by
    have g7 : gO h (.ref 81) 1 7 = some 86 := gO_of (ltE (by decide)) (C.1.1 81 rfl) rfl
    have g3 : gO h (.ref 81) 1 3 = some 82 := gO_of (ltE (by decide)) (C.1.1 81 rfl) rfl
    have l86 : ldJ h (.ref 86) (jI (fr * 3 + j)) = some (Z 86 (fr * 3 + j)) := C.1.ldJ (a := 86) rfl (show fr * 3 + j < 18 by omega)
    obtain ⟨h1, i1, i2, i3⟩ := mu15_go (k3 := k3) (see := see) hfr hto hi hA n (j + 1) f h Z (acc + Z 86 (fr * 3 + j) * mtx see a j i) (by omega) (by omega) C
    refine ⟨h1, ?_, i2, i3⟩
    show s_X1_multiply_15_b k3 (s_X1_multiply_15 k3 f) 81 (jI fr) (jI to) (b01 see) (jI i) acc (jI j) h = _
    unfold s_X1_multiply_15_b s_X1_multiply_65
    rw [if_neg (fun u => by have := (jI_le (j := 3) (by omega) (by omega)).mp u; omega), g7, Option.bind_some, jI_3, jI_add, l86, Option.bind_some]
    cases see
    · have l82 : ldI .int h (.ref 82) (jI (i * 3 + j)) = some (a i j) := ((hA.1 i hi).1 j (by omega)) ▸ C.1.ld (a := 82) rfl (show i * 3 + j < 9 by omega)
      rw [if_pos b01_f, g3, Option.bind_some, jI_3, jI_add, l82, Option.bind_some, jI_inc]
      exact i1
    · have l82 : ldI .int h (.ref 82) (jI (j * 3 + i)) = some (a j i) := ((hA.1 j (by omega)).1 i hi) ▸ C.1.ld (a := 82) rfl (show j * 3 + i < 9 by omega)
      rw [if_neg (show ¬ b01 true = 0 by decide), g3, Option.bind_some, jI_3, jI_add, l82, Option.bind_some, jI_inc]
      exact i1
theorem mu3_go {fr to : Nat} {see : Bool} (hfr : fr < 6) (hto : to < 6) (hne : fr ≠ to) (hA : okLn V a c) : ∀ (n i f : Nat) (h : aH) (Z : Nat → Nat → Int64), i + n = 3 → n < f → CC h S V Z D Ln b A N m F →
    ∃ h' Z', s_X1_multiply_3 f 81 (jI fr) (jI to) (b01 see) (jI i) h = some (.inl none, h') ∧ CC h' S V Z' D Ln b A N m F ∧ Oc D h h' ∧ SmZ [86] Z Z' ∧ (∀ j, (j < to * 3 + i ∨ to * 3 + 3 ≤ j) → Z' 86 j = Z 86 j) ∧ ∀ k, i ≤ k → k < 3 → Z' 86 (to * 3 + k) = mulV see a (Z 86) fr k
  | _, _, 0, _, _, _, hf, _ => by omega
  | 0, i, f + 1, h, Z, hn, hf, C => by
    refine ⟨h, Z, ?_, C, Oc.refl, SmZ.refl, fun _ _ => rfl, fun k h1 h2 => by omega⟩
    show s_X1_multiply_3_b (s_X1_multiply_3 f) 81 (jI fr) (jI to) (b01 see) (jI i) h = _
    unfold s_X1_multiply_3_b
    rw [if_pos (show (3 : Int32) ≤ jI i from (jI_le (j := 3) (by omega) (by omega)).mpr (by omega))]
  | n + 1, i, f + 1, h, Z, hn, hf, C => by
    obtain ⟨h1, e1, C1, O1⟩ := mu15_go (k3 := s_X1_multiply_3 f) (see := see) hfr hto (show i < 3 by omega) hA 3 0 FU h Z 0 rfl (by decide) C
    obtain ⟨h', Z', i1, i2, i3, i4, i5, i6⟩ := mu3_go (see := see) hfr hto hne hA n (i + 1) f h1 _ (by omega) (by omega) C1
    refine ⟨h', Z', ?_, i2, O1.trans i3, (SmZ.refl.upd (by decide)).trans i4, fun j hj => ?_, fun k h1 h2 => ?_⟩
    · show s_X1_multiply_3_b (s_X1_multiply_3 f) 81 (jI fr) (jI to) (b01 see) (jI i) h = _
      unfold s_X1_multiply_3_b
      rw [if_neg (fun u => by have := (jI_le (j := 3) (by omega) (by omega)).mp u; omega)]
      exact e1.trans i1
    · rw [i5 j (by omega), upd2_eq, updL_ne (by omega)]
    · by_cases u : k = i
      · rw [u, i5 _ (by omega), upd2_eq, updL_eq]
        rfl
      · rw [i6 k (by omega) h2]
        unfold mulV
        rw [upd2_eq, updL_ne (by omega), updL_ne (by omega), updL_ne (by omega)]
theorem CC.multiply {h : aH} {Z : Nat → Nat → Int64} (C : CC h S V Z D Ln b A N m F) {fr to : Nat} {see : Bool} (hfr : fr < 6) (hto : to < 6) (hne : fr ≠ to) (hA : okLn V a c) :
    ∃ h' Z', s_X1_multiply 81 (jI fr) (jI to) (b01 see) h = some (.inl none, h') ∧ CC h' S V Z' D Ln b A N m F ∧ Oc D h h' ∧ SmZ [86] Z Z' ∧ (∀ j, (j < to * 3 ∨ to * 3 + 3 ≤ j) → Z' 86 j = Z 86 j) ∧ ∀ k, k < 3 → Z' 86 (to * 3 + k) = mulV see a (Z 86) fr k := by
  obtain ⟨h', Z', i1, i2, i3, i4, i5, i6⟩ := mu3_go (see := see) hfr hto hne hA 3 0 FU h Z rfl (by decide) C
  exact ⟨h', Z', i1, i2, i3, i4, fun j hj => i5 j (by omega), fun k hk => i6 k (Nat.zero_le k) hk⟩
theorem r56_go {k47 : Nat → Int32 → Int32 → Int32 → Int32 → aH → aO} {see : Bool} {n ln l : Nat} (hn3 : n ≤ 3) (hl2 : l < 2) (hA : okLn V a c) : ∀ (k i f : Nat) (h : aH) (Z : Nat → Nat → Int64), i + k = n → k < f → CC h S V Z D Ln b A N m F →
    ∃ h' Z', s_X1_rankOf_56 k47 f 81 (b01 see) (jI n) (jI ln) (jI l) (jI i) h = k47 81 (b01 see) (jI n) (jI ln) (jI (l + 1)) h' ∧ CC h' S V Z' D Ln b A N m F ∧ Oc D h h' ∧ SmZ [86] Z Z' ∧ (∀ j, (j < l * 3 + i ∨ l * 3 + n ≤ j) → Z' 86 j = Z 86 j) ∧ ∀ k, i ≤ k → k < n → Z' 86 (l * 3 + k) = basV see a c l k
  | _, _, 0, _, _, _, hf, _ => by omega
  | 0, i, f + 1, h, Z, hi, hf, C => by
    refine ⟨h, Z, ?_, C, Oc.refl, SmZ.refl, fun _ _ => rfl, fun k h1 h2 => by omega⟩
    show s_X1_rankOf_56_b k47 (s_X1_rankOf_56 k47 f) 81 (b01 see) (jI n) (jI ln) (jI l) (jI i) h = _
    unfold s_X1_rankOf_56_b
    rw [if_pos ((jI_le (by omega) (by omega)).mpr (by omega)), jI_inc]
  | k + 1, i, f + 1, h, Z, hi, hf, C => by
    have g7 : gO h (.ref 81) 1 7 = some 86 := gO_of (ltE (by decide)) (C.1.1 81 rfl) rfl
    have g4 : gO h (.ref 81) 1 4 = some 83 := gO_of (ltE (by decide)) (C.1.1 81 rfl) rfl
    have g5 : gO h (.ref 81) 1 5 = some 84 := gO_of (ltE (by decide)) (C.1.1 81 rfl) rfl
    obtain ⟨h1, e1, X1, O1⟩ := C.1.stJ (a := 86) (j := l * 3 + i) rfl (show l * 3 + i < 18 by omega) (basV see a c l i)
    obtain ⟨h', Z', i1, i2, i3, i4, i5, i6⟩ := r56_go (k47 := k47) (see := see) (ln := ln) hn3 hl2 hA k (i + 1) f h1 _ (by omega) (by omega) (C.to X1 O1 rfl)
    refine ⟨h', Z', ?_, i2, O1.trans i3, (SmZ.refl.upd (by decide)).trans i4, fun j hj => ?_, fun k h1 h2 => ?_⟩
    · show s_X1_rankOf_56_b k47 (s_X1_rankOf_56 k47 f) 81 (b01 see) (jI n) (jI ln) (jI l) (jI i) h = _
      unfold s_X1_rankOf_56_b s_X1_rankOf_106
      rw [if_neg (fun u => by have := (jI_le (by omega) (by omega)).mp u; omega), g7, Option.bind_some]
      cases see
      · have l83 : ldI .int h (.ref 83) (jI (i * 2 + l)) = some (a i (3 + l)) := ((hA.1 i (by omega)).2 l hl2) ▸ C.1.ld (a := 83) rfl (show i * 2 + l < 6 by omega)
        have e1' : stJ h (.ref 86) (jI (l * 3 + i)) (a i (3 + l)).toInt64 = some h1 := e1
        rw [if_pos b01_f, g4, Option.bind_some, show jI i * 2 + jI l = jI (i * 2 + l) by rw [show (2 : Int32) = jI 2 from rfl, jI_mul, jI_add], l83, Option.bind_some, jI_3, jI_add, e1', Option.bind_some, jI_inc]
        exact i1
      · have l84 : ldI .int h (.ref 84) (jI (l * 3 + i)) = some (c l i) := (hA.2 l hl2 i (by omega)) ▸ C.1.ld (a := 84) rfl (show l * 3 + i < 6 by omega)
        have e1' : stJ h (.ref 86) (jI (l * 3 + i)) (c l i).toInt64 = some h1 := e1
        rw [if_neg (show ¬ b01 true = 0 by decide), g5, Option.bind_some, jI_3, jI_add, l84, Option.bind_some, e1', Option.bind_some, jI_inc]
        exact i1
    · rw [i5 j (by omega), upd2_eq, updL_ne (by omega)]
    · by_cases u : k = i
      · rw [u, i5 _ (by omega), upd2_eq, updL_eq]
      · exact i6 k (by omega) h2
theorem r47_go {see : Bool} {ln : Nat} (h3 : m 0 ≤ 3) (hl : ln ≤ 2) (hA : okLn V a c) (hz : okZ a c m) : ∀ (k l f : Nat) (h : aH) (Z : Nat → Nat → Int64), l + k = ln → k < f → CC h S V Z D Ln b A N m F → (∀ l', l' < l → ∀ k, k < 3 → Z 86 (l' * 3 + k) = basV see a c l' k) → (∀ j, l * 3 ≤ j → j < 18 → Z 86 j = 0) →
    ∃ h' Z', s_X1_rankOf_47 f 81 (b01 see) (jI (m 0)) (jI ln) (jI l) h = s_X1_rankOf_127 FU 81 (b01 see) (jI ln) (jI (ln * m 0)) (jI ln) h' ∧ CC h' S V Z' D Ln b A N m F ∧ Oc D h h' ∧ SmZ [86] Z Z' ∧ (∀ l', l' < ln → ∀ k, k < 3 → Z' 86 (l' * 3 + k) = basV see a c l' k) ∧ ∀ j, ln * 3 ≤ j → j < 18 → Z' 86 j = 0
  | _, _, 0, _, _, _, hf, _, _, _ => by omega
  | 0, l, f + 1, h, Z, hi, hf, C, hb, h0 => by
    have el : l = ln := by omega
    subst el
    refine ⟨h, Z, ?_, C, Oc.refl, SmZ.refl, hb, h0⟩
    show s_X1_rankOf_47_b (s_X1_rankOf_47 f) 81 (b01 see) (jI (m 0)) (jI l) (jI l) h = _
    unfold s_X1_rankOf_47_b
    rw [if_pos ((jI_le (by omega) (by omega)).mpr (by omega)), jI_mul]
  | k + 1, l, f + 1, h, Z, hi, hf, C, hb, h0 => by
    obtain ⟨h1, Z1, e1, C1, O1, s1, o1, b1⟩ := r56_go (k47 := s_X1_rankOf_47 f) (see := see) (n := m 0) (ln := ln) (l := l) h3 (by omega) hA (m 0) 0 FU h Z (by omega) (by show m 0 < 1000000; omega) C
    obtain ⟨h', Z', i1, i2, i3, i4, i5, i6⟩ := r47_go (see := see) h3 hl hA hz k (l + 1) f h1 Z1 (by omega) (by omega) C1 (fun l' hl' k hk => by
      by_cases u : l' = l
      · subst u
        by_cases w : k < m 0
        · exact b1 k (Nat.zero_le k) w
        · rw [o1 _ (by omega), h0 _ (by omega) (by omega), basV_0 hz (by omega) hk (by omega)]
      · rw [o1 _ (by omega)]
        exact hb l' (by omega) k hk) (fun j h1 h2 => by
      rw [o1 _ (by omega)]
      exact h0 j (by omega) h2)
    refine ⟨h', Z', ?_, i2, O1.trans i3, s1.trans i4, i5, i6⟩
    show s_X1_rankOf_47_b (s_X1_rankOf_47 f) 81 (b01 see) (jI (m 0)) (jI ln) (jI l) h = _
    unfold s_X1_rankOf_47_b
    rw [if_neg (fun u => by have := (jI_le (by omega) (by omega)).mp u; omega)]
    exact e1.trans i1
theorem r127_go {see : Bool} {ln cnt : Nat} (hl : 0 < ln ∨ cnt = 0) (hc6 : cnt ≤ 6) (hA : okLn V a c) : ∀ (k l f : Nat) (h : aH) (Z : Nat → Nat → Int64), l + k = cnt → ln ≤ l → k < f → CC h S V Z D Ln b A N m F → isCv see a c ln l (Z 86) → (∀ j, l * 3 ≤ j → j < 18 → Z 86 j = 0) →
    ∃ h' Z' r, s_X1_rankOf_127 f 81 (b01 see) (jI ln) (jI cnt) (jI l) h = some (.inl (some (.int r)), h') ∧ CC h' S V Z' D Ln b A N m F ∧ Oc D h h' ∧ SmZ [86] Z Z' ∧ isCv see a c ln cnt (Z' 86) ∧ isRk (Z' 86) cnt r
  | _, _, 0, _, _, _, _, hf, _, _, _ => by omega
  | 0, l, f + 1, h, Z, hi, hll, hf, C, hv, h0 => by
    have el : l = cnt := by omega
    subst el
    obtain ⟨q1, e1, p1⟩ := C.1.anyTriple hc6
    obtain ⟨q2, e2, p2⟩ := C.1.anyPair hc6
    obtain ⟨q3, e3, p3⟩ := C.1.anyNumber
    have kk : ∀ {β : Type} {k : Option β}, kO h 81 1 k = k := fun {β k} => kO_of (ltE (by decide)) (C.1.1 81 rfl)
    have nzz : isNz (Z 86) 18 ↔ isNz (Z 86) (l * 3) := by
      constructor
      · rintro ⟨j, j1, j2⟩
        refine ⟨j, ?_, j2⟩
        by_cases u : j < l * 3
        · exact u
        · exact absurd (h0 j (by omega) j1) j2
      · rintro ⟨j, j1, j2⟩
        exact ⟨j, by omega, j2⟩
    have u : s_X1_rankOf_127 (f + 1) 81 (b01 see) (jI ln) (jI l) (jI l) h = if q1 = false then (if q2 = false then (if q3 = false then some (.inl (some (.int 0)), h) else some (.inl (some (.int 1)), h)) else some (.inl (some (.int 2)), h)) else some (.inl (some (.int 3)), h) := by
      show s_X1_rankOf_127_b (s_X1_rankOf_127 f) 81 (b01 see) (jI ln) (jI l) (jI l) h = _
      unfold s_X1_rankOf_127_b
      rw [if_pos ((jI_le (by omega) (by omega)).mpr (by omega)), kk, e1]
      simp only [cI]
      cases q1
      · rw [if_pos b01_f, if_pos rfl, kk, e2]
        simp only []
        cases q2
        · rw [if_pos b01_f, if_pos rfl, kk, e3]
          simp only []
          cases q3 <;> rfl
        · rfl
      · rfl
    rw [u]
    cases q1
    · have n1 : ¬ isTr (Z 86) l := fun z => Bool.noConfusion (p1.mpr z)
      cases q2
      · have n2 : ¬ isPr (Z 86) l := fun z => Bool.noConfusion (p2.mpr z)
        cases q3
        · exact ⟨h, Z, 0, rfl, C, Oc.refl, SmZ.refl, hv, Or.inr (Or.inr (Or.inr ⟨rfl, n1, n2, fun z => Bool.noConfusion (p3.mpr (nzz.mpr z))⟩))⟩
        · exact ⟨h, Z, 1, rfl, C, Oc.refl, SmZ.refl, hv, Or.inr (Or.inr (Or.inl ⟨rfl, n1, n2, nzz.mp (p3.mp rfl)⟩))⟩
      · exact ⟨h, Z, 2, rfl, C, Oc.refl, SmZ.refl, hv, Or.inr (Or.inl ⟨rfl, n1, p2.mp rfl⟩)⟩
    · exact ⟨h, Z, 3, rfl, C, Oc.refl, SmZ.refl, hv, Or.inl ⟨rfl, p1.mp rfl⟩⟩
  | k + 1, l, f + 1, h, Z, hi, hll, hf, C, hv, h0 => by
    have hl0 : 0 < ln := hl.elim id (fun z => by omega)
    obtain ⟨h1, Z1, e1, C1, O1, s1, o1, b1⟩ := C.multiply (see := see) (fr := l - ln) (to := l) (by omega) (by omega) (by omega) hA
    obtain ⟨h', Z', r, i1, i2, i3, i4, i5, i6⟩ := r127_go (see := see) hl hc6 hA k (l + 1) f h1 Z1 (by omega) (by omega) (by omega) C1 (by
      refine ⟨fun l' hl' k hk => ?_, fun l' h1 h2 k hk => ?_⟩
      · rw [o1 _ (by omega)]
        exact hv.1 l' hl' k hk
      · have em : mulV see a (Z1 86) (l' - ln) k = mulV see a (Z 86) (l' - ln) k := by
          unfold mulV
          rw [o1 _ (by omega), o1 _ (by omega), o1 _ (by omega)]
        rw [em]
        by_cases u : l' = l
        · subst u
          exact b1 k hk
        · rw [o1 _ (by omega)]
          exact hv.2 l' h1 (by omega) k hk) (fun j h1 h2 => by
      rw [o1 _ (by omega)]
      exact h0 j (by omega) h2)
    refine ⟨h', Z', r, ?_, i2, O1.trans i3, s1.trans i4, i5, i6⟩
    show s_X1_rankOf_127_b (s_X1_rankOf_127 f) 81 (b01 see) (jI ln) (jI cnt) (jI l) h = _
    unfold s_X1_rankOf_127_b
    rw [if_neg (fun u => by have := (jI_le (by omega) (by omega)).mp u; omega), kO_of (ltE (by decide)) (C.1.1 81 rfl), jI_sub hll, e1]
    simp only [cN]
    rw [jI_inc]
    exact i1
theorem CC.fillJ {h : aH} {Z : Nat → Nat → Int64} (C : CC h S V Z D Ln b A N m F) {k : Nat} (hin : loC k = true) {n : Nat} (hln : lnC k = n) (x : Int64) :
    ∃ h', s_J7_fill_d0a16 k x h = some (.inl none, h') ∧ CC h' S V (upd2 Z k (filJ (Z k) 0 n x)) D Ln b A N m F ∧ Oc D h h' := by
  have hrow := C.1.2.2.1 k hin
  have hle := lnC_le k
  rw [hln] at hrow hle
  have e1 := fillJ_at (x := x) (ltE (by have := (loC_lt hin).1; omega)) (show n < 1000000 by omega) hrow
  have r1 := C.1.rowJ (a := k) (g := filJ (Z k) 0 n x) hin
  rw [hln] at r1
  exact ⟨_, e1, C.to r1.1 r1.2 rfl, r1.2⟩
theorem CC.rankOf {h : aH} {Z : Nat → Nat → Int64} (C : CC h S V Z D Ln b A N m F) (see : Bool) (hA : okLn V a c) (hz : okZ a c m) :
    ∃ h' Z' r, s_X1_rankOf 81 (b01 see) h = some (.inl (some (.int r)), h') ∧ CC h' S V Z' D Ln b A N m F ∧ Oc D h h' ∧ SmZ [86] Z Z' ∧ isCv see a c (lnS see m) (lnS see m * m 0) (Z' 86) ∧ isRk (Z' 86) (lnS see m * m 0) r := by
  obtain ⟨h3, hp2, -, -, hs2⟩ := C.2.2.1.1.1
  have hm0 := C.2.2.2.1.2.2.2.2.2.2.2
  have hln : lnS see m ≤ 2 := by unfold lnS; cases see <;> simp <;> omega
  obtain ⟨h1, e1, C1, O1⟩ := C.fillJ (k := 86) rfl (n := 18) rfl 0
  have z0 : ∀ j, j < 18 → upd2 Z 86 (filJ (Z 86) 0 18 0) 86 j = 0 := fun j hj => by
    rw [upd2_eq]
    exact if_pos ⟨Nat.zero_le j, hj⟩
  obtain ⟨h2, Z2, e2, C2, O2, s2, b2, n2⟩ := r47_go (see := see) (ln := lnS see m) h3 hln hA hz (lnS see m) 0 FU h1 _ (by omega) (by show lnS see m < 1000000; omega) C1 (fun l' hl' => absurd hl' (Nat.not_lt_zero l')) (fun j _ hj => z0 j hj)
  have hcnt : lnS see m * m 0 ≤ 6 := Nat.mul_le_mul hln h3
  have hge : lnS see m ≤ lnS see m * m 0 := Nat.le_mul_of_pos_right _ hm0
  obtain ⟨h', Z', r, i1, i2, i3, i4, i5, i6⟩ := r127_go (see := see) (ln := lnS see m) (cnt := lnS see m * m 0) (by
    by_cases u : lnS see m = 0
    · exact Or.inr (by rw [u, Nat.zero_mul])
    · exact Or.inl (by omega)) hcnt hA (lnS see m * m 0 - lnS see m) (lnS see m) FU h2 Z2 (by omega) (Nat.le_refl _) (by show lnS see m * m 0 - lnS see m < 1000000; omega) C2 ⟨b2, fun l h1 h2 => by omega⟩ n2
  refine ⟨h', Z', r, ?_, i2, (O1.trans O2).trans i3, ((SmZ.refl.upd (by decide)).trans s2).trans i4, i5, i6⟩
  have g0 : gO h (.ref 81) 1 0 = some 3 := gO_of (ltE (by decide)) (C.1.1 81 rfl) rfl
  have gm : gO h (.ref 3) 2 0 = some 4 := C.2.1.mn
  have g7 : gO h (.ref 81) 1 7 = some 86 := gO_of (ltE (by decide)) (C.1.1 81 rfl) rfl
  have lm : ∀ k, k < 5 → ldI .int h (.ref 4) (jI k) = some (jI (m k)) := fun k hk => (C.2.2.1.1.2.1 k hk) ▸ C.2.1.ldmn (s := k) hk
  have l0 : ldI .int h (.ref 4) 0 = some (jI (m 0)) := lm 0 (by decide)
  have l1 : ldI .int h (.ref 4) 1 = some (jI (m 1)) := lm 1 (by decide)
  have l4 : ldI .int h (.ref 4) 4 = some (jI (m 4)) := lm 4 (by decide)
  unfold s_X1_rankOf s_X1_rankOf_35
  rw [g0, Option.bind_some, gm, Option.bind_some, l0, Option.bind_some]
  cases see
  · rw [if_pos b01_f, Option.bind_some, gm, Option.bind_some, l1, Option.bind_some, g7, Option.bind_some, e1]
    exact e2.trans i1
  · rw [if_neg (show ¬ b01 true = 0 by decide), Option.bind_some, gm, Option.bind_some, l4, Option.bind_some, g7, Option.bind_some, e1]
    exact e2.trans i1
end
