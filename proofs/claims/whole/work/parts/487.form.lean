/-! the form of A, both -/
def fmW (n : Nat) (tr mi det : Int64) (i : Nat) : Int64 := if i = n then 1 else if i + 1 = n then -tr else if i + 2 = n then mi else if i + 3 = n then -det else 0
def trV (g : Nat → Int32) : Int32 := (g 0 + g 4) + g 8
def miV (g : Nat → Int32) : Int32 := ((((((g 0 * g 4) - (g 1 * g 3)) + (g 0 * g 8)) - (g 2 * g 6)) + (g 4 * g 8)) - (g 5 * g 7))
def deV (g : Nat → Int32) : Int64 := dt3 (fun j => (g j).toInt64) 0 1 2
section
variable {S V : Nat → Nat → Int32} {D Ln : Nat → Nat} {b : Nat} {A : Nat → Nat → Int32} {N : Nat → Int64} {m F : Nat → Nat}
theorem ff126_go {n : Nat} {tr mi : Int64} (h1 : 1 ≤ n) (h3 : n ≤ 3) : ∀ (k i f : Nat) (h : aH) (Z : Nat → Nat → Int64), i + k = 9 → k < f → CC h S V Z D Ln b A N m F → (∀ j, j < i → Z 86 j = (V 82 j).toInt64) →
    ∃ h' Z', s_X1_findForm_126 f 81 (jI n) tr mi (jI i) h = some (.inl none, h') ∧ CC h' S V Z' D Ln b A N m F ∧ Oc D h h' ∧ SmZ [85, 86] Z Z' ∧ ∀ j, j < 4 → Z' 85 j = fmW n tr mi (deV (V 82)) j
  | _, _, 0, _, _, _, hf, _, _ => by omega
  | 0, i, f + 1, h, Z, hi, hf, C, hz => by
    have ed : dt3 (Z 86) 0 1 2 = deV (V 82) := by
      unfold deV dt3
      rw [hz _ (by omega), hz _ (by omega), hz _ (by omega), hz _ (by omega), hz _ (by omega), hz _ (by omega), hz _ (by omega), hz _ (by omega), hz _ (by omega)]
    have dd : s_X1_determinant 81 0 1 2 h = some (.inl (some (.long (deV (V 82)))), h) := ed ▸ cwDet C.1 (x := 0) (y := 1) (z := 2) (by decide) (by decide) (by decide)
    have g6 : ∀ {h : aH} {Z : Nat → Nat → Int64}, CC h S V Z D Ln b A N m F → gO h (.ref 81) 1 6 = some 85 := fun C => gO_of (ltE (by decide)) (C.1.1 81 rfl) rfl
    obtain ⟨h2, e2, C2, O2⟩ := C.fillJ (k := 85) rfl (n := 4) rfl 0
    obtain ⟨Z2, hZ2⟩ : ∃ Z2, Z2 = upd2 Z 85 (filJ (Z 85) 0 4 0) := ⟨_, rfl⟩
    rw [← hZ2] at C2
    have z2 : ∀ j, j < 4 → Z2 85 j = 0 := fun j hj => by rw [hZ2, upd2_eq]; exact if_pos ⟨Nat.zero_le j, hj⟩
    have s2 : SmZ [85, 86] Z Z2 := by rw [hZ2]; exact SmZ.refl.upd (by decide)
    obtain ⟨h3', e3, X3, O3⟩ := C2.1.stJ (a := 85) (j := n) rfl (show n < 4 by omega) 1
    have C3 := C2.to X3 O3 rfl
    obtain ⟨h4, e4, X4, O4⟩ := C3.1.stJ (a := 85) (j := n - 1) rfl (show n - 1 < 4 by omega) (-tr)
    have C4 := C3.to X4 O4 rfl
    have start : ∀ {y : aO}, s_X1_findForm_193 81 (jI n) mi (deV (V 82)) h4 = y → s_X1_findForm_126 (f + 1) 81 (jI n) tr mi (jI i) h = y := by
      intro y hy
      show s_X1_findForm_126_b (s_X1_findForm_126 f) 81 (jI n) tr mi (jI i) h = _
      unfold s_X1_findForm_126_b
      rw [if_pos (show (9 : Int32) ≤ jI i from (jI_le (j := 9) (by omega) (by omega)).mpr (by omega)), kO_of (ltE (by decide)) (C.1.1 81 rfl), dd]
      simp only [cJ]
      rw [g6 C, Option.bind_some, e2]
      simp only [cN]
      rw [if_neg (fun u => by have := (jI_lt (k := 1) (by omega) (by omega)).mp u; omega), g6 C2, Option.bind_some, e3, Option.bind_some, g6 C3, Option.bind_some, jI_dec (by omega), e4, Option.bind_some]
      exact hy
    have v4 : ∀ j, j < 4 → upd2 (upd2 Z2 85 (vp_updL (Z2 85) n 1)) 85 (vp_updL (upd2 Z2 85 (vp_updL (Z2 85) n 1) 85) (n - 1) (-tr)) 85 j = if j = n then 1 else if j + 1 = n then -tr else 0 := fun j hj => by
      rw [upd2_eq, upd2_eq]
      by_cases u1 : j + 1 = n
      · rw [show j = n - 1 by omega, updL_eq, if_neg (by omega), if_pos (by omega)]
      · rw [updL_ne (by omega)]
        by_cases u2 : j = n
        · rw [u2, updL_eq, if_pos rfl]
        · rw [updL_ne u2, z2 j hj, if_neg u2, if_neg u1]
    have s4 : SmZ [85, 86] Z (upd2 (upd2 Z2 85 (vp_updL (Z2 85) n 1)) 85 (vp_updL (upd2 Z2 85 (vp_updL (Z2 85) n 1) 85) (n - 1) (-tr))) := (s2.upd (by decide)).upd (by decide)
    obtain ⟨Z4, hZ4⟩ : ∃ Z4, Z4 = upd2 (upd2 Z2 85 (vp_updL (Z2 85) n 1)) 85 (vp_updL (upd2 Z2 85 (vp_updL (Z2 85) n 1) 85) (n - 1) (-tr)) := ⟨_, rfl⟩
    rw [← hZ4] at C4 v4 s4
    by_cases n2 : 2 ≤ n
    · obtain ⟨h5, e5, X5, O5⟩ := C4.1.stJ (a := 85) (j := n - 2) rfl (show n - 2 < 4 by omega) mi
      have C5 := C4.to X5 O5 rfl
      have j2 : jI n - 2 = jI (n - 2) := by rw [show (2 : Int32) = jI 2 from rfl, jI_sub n2]
      by_cases n3 : 3 ≤ n
      · obtain ⟨h6, e6, X6, O6⟩ := C5.1.stJ (a := 85) (j := n - 3) rfl (show n - 3 < 4 by omega) (-(deV (V 82)))
        have j3 : jI n - 3 = jI (n - 3) := by rw [show (3 : Int32) = jI 3 from rfl, jI_sub n3]
        refine ⟨h6, _, start ?_, C5.to X6 O6 rfl, (((O2.trans O3).trans O4).trans O5).trans O6, (s4.upd (by decide)).upd (by decide), fun j hj => ?_⟩
        · unfold s_X1_findForm_193 s_X1_findForm_208
          rw [if_neg (fun u => by have := (jI_lt (k := 2) (by omega) (by omega)).mp u; omega), g6 C4, Option.bind_some, j2, e5, Option.bind_some, if_neg (fun u => by have := (jI_lt (k := 3) (by omega) (by omega)).mp u; omega), g6 C5, Option.bind_some, j3, e6, Option.bind_some]
        · rw [upd2_eq, upd2_eq]
          unfold fmW
          by_cases u3 : j + 3 = n
          · rw [show j = n - 3 by omega, updL_eq, if_neg (by omega), if_neg (by omega), if_neg (by omega), if_pos (by omega)]
          · rw [updL_ne (by omega)]
            by_cases u2 : j + 2 = n
            · rw [show j = n - 2 by omega, updL_eq, if_neg (by omega), if_neg (by omega), if_pos (by omega)]
            · rw [updL_ne (by omega), v4 j hj, if_neg u2, if_neg u3]
      · refine ⟨h5, _, start ?_, C5, ((O2.trans O3).trans O4).trans O5, s4.upd (by decide), fun j hj => ?_⟩
        · unfold s_X1_findForm_193 s_X1_findForm_208
          rw [if_neg (fun u => by have := (jI_lt (k := 2) (by omega) (by omega)).mp u; omega), g6 C4, Option.bind_some, j2, e5, Option.bind_some, if_pos (show jI n < 3 from (jI_lt (k := 3) (by omega) (by omega)).mpr (by omega))]
        · rw [upd2_eq]
          unfold fmW
          by_cases u2 : j + 2 = n
          · rw [show j = n - 2 by omega, updL_eq, if_neg (by omega), if_neg (by omega), if_pos (by omega)]
          · rw [updL_ne (by omega), v4 j hj, if_neg u2, if_neg (show ¬ j + 3 = n by omega)]
    · refine ⟨h4, Z4, start ?_, C4, (O2.trans O3).trans O4, s4, fun j hj => ?_⟩
      · unfold s_X1_findForm_193 s_X1_findForm_208
        rw [if_pos (show jI n < 2 from (jI_lt (k := 2) (by omega) (by omega)).mpr (by omega)), if_pos (show jI n < 3 from (jI_lt (k := 3) (by omega) (by omega)).mpr (by omega))]
      · rw [v4 j hj]
        unfold fmW
        rw [if_neg (show ¬ j + 2 = n by omega), if_neg (show ¬ j + 3 = n by omega)]
  | k + 1, i, f + 1, h, Z, hi, hf, C, hz => by
    have g7 : gO h (.ref 81) 1 7 = some 86 := gO_of (ltE (by decide)) (C.1.1 81 rfl) rfl
    have g3 : gO h (.ref 81) 1 3 = some 82 := gO_of (ltE (by decide)) (C.1.1 81 rfl) rfl
    have l82 : ldI .int h (.ref 82) (jI i) = some (V 82 i) := C.1.ld (a := 82) rfl (show i < 9 by omega)
    obtain ⟨h1', e1, X1, O1⟩ := C.1.stJ (a := 86) (j := i) rfl (show i < 18 by omega) (V 82 i).toInt64
    obtain ⟨h', Z', i1, i2, i3, i4, i5⟩ := ff126_go (tr := tr) (mi := mi) h1 h3 k (i + 1) f h1' _ (by omega) (by omega) (C.to X1 O1 rfl) (fun j hj => by
      rw [upd2_eq]
      by_cases u : j = i
      · rw [u, updL_eq]
      · rw [updL_ne u]; exact hz j (by omega))
    refine ⟨h', Z', ?_, i2, O1.trans i3, (SmZ.refl.upd (by decide)).trans i4, i5⟩
    show s_X1_findForm_126_b (s_X1_findForm_126 f) 81 (jI n) tr mi (jI i) h = _
    unfold s_X1_findForm_126_b
    rw [if_neg (fun u => by have := (jI_le (j := 9) (by omega) (by omega)).mp u; omega), g7, Option.bind_some, g3, Option.bind_some, l82, Option.bind_some, e1, Option.bind_some, jI_inc]
    exact i1
theorem CC.findForm {h : aH} {Z : Nat → Nat → Int64} (C : CC h S V Z D Ln b A N m F) :
    ∃ h' Z', s_X1_findForm 81 h = some (.inl none, h') ∧ CC h' S V Z' D Ln b A N m F ∧ Oc D h h' ∧ SmZ [85, 86] Z Z' ∧ ∀ j, j < 4 → Z' 85 j = fmW (m 0) (trV (V 82)).toInt64 (miV (V 82)).toInt64 (deV (V 82)) j := by
  have h3 := C.2.2.1.1.1.1
  have hm0 := C.2.2.2.1.2.2.2.2.2.2.2
  have g0 : gO h (.ref 81) 1 0 = some 3 := gO_of (ltE (by decide)) (C.1.1 81 rfl) rfl
  have gm : gO h (.ref 3) 2 0 = some 4 := C.2.1.mn
  have l0 : ldI .int h (.ref 4) 0 = some (jI (m 0)) := (C.2.2.1.1.2.1 0 (by decide)) ▸ C.2.1.ldmn (s := 0) (by decide)
  have g3 : gO h (.ref 81) 1 3 = some 82 := gO_of (ltE (by decide)) (C.1.1 81 rfl) rfl
  have l82 : ∀ j, j < 9 → ldI .int h (.ref 82) (jI j) = some (V 82 j) := fun j hj => C.1.ld (a := 82) rfl hj
  have a0 : ldI .int h (.ref 82) 0 = some (V 82 0) := l82 0 (by decide)
  have a1 : ldI .int h (.ref 82) 1 = some (V 82 1) := l82 1 (by decide)
  have a2 : ldI .int h (.ref 82) 2 = some (V 82 2) := l82 2 (by decide)
  have a3 : ldI .int h (.ref 82) 3 = some (V 82 3) := l82 3 (by decide)
  have a4 : ldI .int h (.ref 82) 4 = some (V 82 4) := l82 4 (by decide)
  have a5 : ldI .int h (.ref 82) 5 = some (V 82 5) := l82 5 (by decide)
  have a6 : ldI .int h (.ref 82) 6 = some (V 82 6) := l82 6 (by decide)
  have a7 : ldI .int h (.ref 82) 7 = some (V 82 7) := l82 7 (by decide)
  have a8 : ldI .int h (.ref 82) 8 = some (V 82 8) := l82 8 (by decide)
  obtain ⟨h', Z', i1, i2, i3, i4, i5⟩ := ff126_go (n := m 0) (tr := (trV (V 82)).toInt64) (mi := (miV (V 82)).toInt64) hm0 h3 9 0 FU h Z rfl (by decide) C (fun j hj => absurd hj (Nat.not_lt_zero j))
  refine ⟨h', Z', ?_, i2, i3, i4, i5⟩
  unfold s_X1_findForm
  simp only [g0, gm, l0, g3, Option.bind_some, a0, a1, a2, a3, a4, a5, a6, a7, a8]
  exact i1
end
