/-! the class's place: right sides, gains one by one, the whole -/
section
variable {S V : Nat → Nat → Int32} {D Ln : Nat → Nat} {b : Nat} {A : Nat → Nat → Int32} {N : Nat → Int64} {m F : Nat → Nat} {a c : Nat → Nat → Int32}
theorem sv_right {z0 z1 z2 : Int32} {n f : Nat} (hn1 : 1 ≤ n) (hn3 : n ≤ 3) {h : aH} {Z : Nat → Nat → Int64} (C : CC h S V Z D Ln b A N m F) :
    ∃ h' Z', s_X1_solve_65 (f + 1) 81 z0 z1 z2 (jI n) (jI 0) h = s_X1_solve_207 FU 81 (jI n) (jI n) h' ∧ CC h' S V Z' D Ln b A N m F ∧ Oc D h h' ∧ SmZ [89] Z Z' ∧ ∀ i, i < 3 → Z' 89 i = rhY n (Z 85) z0 z1 z2 i := by
  have g11 : ∀ {h : aH} {Z : Nat → Nat → Int64}, CC h S V Z D Ln b A N m F → gO h (.ref 81) 1 11 = some 89 := fun C => gO_of (ltE (by decide)) (C.1.1 81 rfl) rfl
  have g6 : ∀ {h : aH} {Z : Nat → Nat → Int64}, CC h S V Z D Ln b A N m F → gO h (.ref 81) 1 6 = some 85 := fun C => gO_of (ltE (by decide)) (C.1.1 81 rfl) rfl
  have l85 : ∀ {h : aH} {Z : Nat → Nat → Int64} {i : Nat}, CC h S V Z D Ln b A N m F → i < 4 → ldJ h (.ref 85) (jI i) = some (Z 85 i) := fun C hi => C.1.ldJ (a := 85) rfl hi
  obtain ⟨h1, e1, X1, O1⟩ := C.1.stJ (a := 89) (j := 0) rfl (by decide) (Z 85 0 - z0.toInt64)
  have C1 := C.to X1 O1 rfl
  obtain ⟨y1, hy1⟩ : ∃ y, y = (if n ≤ 1 then 0 else Z 85 1 - z1.toInt64) := ⟨_, rfl⟩
  obtain ⟨y2, hy2⟩ : ∃ y, y = (if n ≤ 2 then 0 else Z 85 2 - z2.toInt64) := ⟨_, rfl⟩
  obtain ⟨h2, e2, X2, O2⟩ := C1.1.stJ (a := 89) (j := 1) rfl (by decide) y1
  have C2 := C1.to X2 O2 rfl
  obtain ⟨h3, e3, X3, O3⟩ := C2.1.stJ (a := 89) (j := 2) rfl (by decide) y2
  have C3 := C2.to X3 O3 rfl
  have t202 : s_X1_solve_202 81 (jI n) y2 2 89 h2 = s_X1_solve_207 FU 81 (jI n) (jI n) h3 := by
    unfold s_X1_solve_202
    have e3' : stJ h2 (.ref 89) 2 y2 = some h3 := e3
    rw [e3', Option.bind_some]
  have t177 : s_X1_solve_177 81 z2 (jI n) y1 1 89 h1 = s_X1_solve_207 FU 81 (jI n) (jI n) h3 := by
    unfold s_X1_solve_177
    have e2' : stJ h1 (.ref 89) 1 y1 = some h2 := e2
    rw [e2', Option.bind_some, g11 C2, Option.bind_some]
    by_cases u : n ≤ 2
    · rw [if_pos (show jI n ≤ 2 from (jI_le (k := 2) (by omega) (by omega)).mpr u)]
      rw [if_pos u] at hy2
      rw [← hy2]
      exact t202
    · rw [if_neg (show ¬ jI n ≤ 2 from fun z => u ((jI_le (k := 2) (by omega) (by omega)).mp z)), g6 C2, Option.bind_some]
      have l := l85 (i := 2) C2 (by decide)
      rw [upd2_ne (by decide), upd2_ne (by decide)] at l
      have l' : ldJ h2 (.ref 85) 2 = some (Z 85 2) := l
      rw [if_neg u] at hy2
      rw [l', Option.bind_some, ← hy2]
      exact t202
  refine ⟨h3, _, ?_, C3, (O1.trans O2).trans O3, ((SmZ.refl.upd (by decide)).upd (by decide)).upd (by decide), fun i hi => ?_⟩
  · show s_X1_solve_65_b (s_X1_solve_65 f) 81 z0 z1 z2 (jI n) (jI 0) h = _
    unfold s_X1_solve_65_b
    have l0 : ldJ h (.ref 85) 0 = some (Z 85 0) := l85 (i := 0) C (by decide)
    have e1' : stJ h (.ref 89) 0 (Z 85 0 - z0.toInt64) = some h1 := e1
    rw [if_pos (show jI 0 ≤ 0 by decide), g11 C, Option.bind_some, g6 C, Option.bind_some, l0, Option.bind_some, e1', Option.bind_some, g11 C1, Option.bind_some]
    by_cases u : n ≤ 1
    · rw [if_pos (show jI n ≤ 1 from (jI_le (k := 1) (by omega) (by omega)).mpr u)]
      rw [if_pos u] at hy1
      rw [← hy1]
      exact t177
    · rw [if_neg (show ¬ jI n ≤ 1 from fun z => u ((jI_le (k := 1) (by omega) (by omega)).mp z)), g6 C1, Option.bind_some]
      have l := l85 (i := 1) C1 (by decide)
      rw [upd2_ne (by decide)] at l
      have l' : ldJ h1 (.ref 85) 1 = some (Z 85 1) := l
      rw [if_neg u] at hy1
      rw [l', Option.bind_some, ← hy1]
      exact t177
  · unfold rhY
    rw [upd2_eq, upd2_eq, upd2_eq, ← hy1, ← hy2]
    match i, hi with
    | 0, _ => rw [updL_ne (by decide), updL_ne (by decide), updL_eq]; rfl
    | 1, _ => rw [updL_ne (by decide), updL_eq]; rfl
    | 2, _ => rw [updL_eq]; rfl
theorem sv250_go {n : Nat} {whole : Int64} {R y : Nat → Int64} (hn3 : n ≤ 3) (bw : bd62 whole) (w0 : whole ≠ 0) (w50 : whole.toInt.natAbs < 2 ^ 50) (bt : ∀ i, i < n → bd62 (dt3 (swp R y i) 0 1 2)) : ∀ (r i f : Nat) (h : aH) (Z : Nat → Nat → Int64), i + r = n → r < f → CC h S V Z D Ln b A N m F → (∀ j, j < 9 → Z 86 j = R j) → (∀ j, j < 3 → Z 89 j = y j) →
    ∃ h' Z', s_X1_solve_250 f 81 (jI n) whole (jI i) h = some (.inl none, h') ∧ CC h' S V Z' D Ln b A N m F ∧ Oc D h h' ∧ SmZ [86, 87, 88, 89] Z Z' ∧ (∀ j, (j < i ∨ n ≤ j) → Z' 87 j = Z 87 j ∧ Z' 88 j = Z 88 j) ∧ ∀ j, i ≤ j → j < n → Z' 87 j = sgP (dt3 (swp R y j) 0 1 2) whole (Nat.gcd whole.toInt.natAbs (dt3 (swp R y j) 0 1 2).toInt.natAbs) ∧ Z' 88 j = sgP whole whole (Nat.gcd whole.toInt.natAbs (dt3 (swp R y j) 0 1 2).toInt.natAbs)
  | _, _, 0, _, _, _, hf, _, _, _ => by omega
  | 0, i, f + 1, h, Z, hi, hf, C, hR, hy => by
    refine ⟨h, Z, ?_, C, Oc.refl, SmZ.refl, fun _ _ => ⟨rfl, rfl⟩, fun k h1 h2 => by omega⟩
    show s_X1_solve_250_b (s_X1_solve_250 f) 81 (jI n) whole (jI i) h = _
    unfold s_X1_solve_250_b
    rw [if_pos ((jI_le (by omega) (by omega)).mpr (by omega))]
  | r + 1, i, f + 1, h, Z, hi, hf, C, hR, hy => by
    have sw : ∀ j, j < 9 → swp (Z 86) (Z 89) i j = swp R y i j := fun j hj => by
      unfold swp
      rw [hR j hj, hy (j / 3) (by omega)]
    obtain ⟨h1, Z1, e1, C1, O1, s1, r1, y1, t1, b1⟩ := C.setGain (i := i) (by omega) (whole := whole) (top := dt3 (swp R y i) 0 1 2) (dt3_cg sw) (bt i (by omega)) bw w0 w50
    obtain ⟨h', Z', i1, i2, i3, i4, i5, i6⟩ := sv250_go hn3 bw w0 w50 bt r (i + 1) f h1 Z1 (by omega) (by omega) C1 (fun j hj => by rw [r1 j hj]; exact hR j hj) (fun j hj => by rw [y1 j hj]; exact hy j hj)
    refine ⟨h', Z', ?_, i2, O1.trans i3, s1.trans i4, fun j hj => ?_, fun j h1 h2 => ?_⟩
    · show s_X1_solve_250_b (s_X1_solve_250 f) 81 (jI n) whole (jI i) h = _
      unfold s_X1_solve_250_b
      rw [if_neg (fun u => by have := (jI_le (by omega) (by omega)).mp u; omega), kO_of (ltE (by decide)) (C.1.1 81 rfl), e1]
      simp only [cN]
      rw [jI_inc]
      exact i1
    · obtain ⟨q1, q2⟩ := i5 j (by omega)
      rw [q1, q2, t1, b1, updL_ne (by omega), updL_ne (by omega)]
      exact ⟨rfl, rfl⟩
    · by_cases u : j = i
      · obtain ⟨q1, q2⟩ := i5 j (by omega)
        rw [q1, q2, t1, b1, u, updL_eq, updL_eq]
        exact ⟨rfl, rfl⟩
      · exact i6 j (by omega) h2
/-- the rows that there aren't -/
def svI (n : Nat) (R : Nat → Int64) : Prop := ∀ i k, n ≤ i → i < 3 → k < 3 → R (i * 3 + k) = if i = k then 1 else 0
/-- the rows and the right sides stand -/
theorem CC.solve1 {h : aH} {Z : Nat → Nat → Int64} (C : CC h S V Z D Ln b A N m F) (hA : okLn V a c) (hz : okZ a c m) (z0 z1 z2 : Int32) :
    ∃ h' Z', s_X1_solve 81 z0 z1 z2 h = ((pF h' (.ref 81) 1 8 (.int (jI (m 0)))).bind fun h244 => s_X1_solve_250 FU 81 (jI (m 0)) (dt3 (Z' 86) 0 1 2) 0 h244) ∧ CC h' S V Z' D Ln b A N m F ∧ Oc D h h' ∧ SmZ [86, 89] Z Z' ∧ svR (m 0) a (Z 85) (Z' 86) ∧ svI (m 0) (Z' 86) ∧ ∀ i, i < 3 → Z' 89 i = rhY (m 0) (Z 85) z0 z1 z2 i := by
  have h3 := C.2.2.1.1.1.1
  have hm0 : 0 < m 0 := C.2.2.2.1.2.2.2.2.2.2.2
  have hb : ∀ k, m 0 ≤ k → k < 3 → bbL a k = 0 := fun k h1 h2 => by
    unfold bbL
    have := hz.2.1 k 0 h2 (by decide) (Or.inl h1)
    rw [show (3 : Nat) = 3 + 0 from rfl, this]
    rfl
  obtain ⟨h1, e1, C1, O1⟩ := C.fillJ (k := 86) rfl (n := 18) rfl 0
  have zz : ∀ j, j < 18 → upd2 Z 86 (filJ (Z 86) 0 18 0) 86 j = 0 := fun j hj => by
    rw [upd2_eq]
    exact if_pos ⟨Nat.zero_le j, hj⟩
  obtain ⟨h2, Z2, e2, C2, O2, s2, k2, v2⟩ := sv22_go (z0 := z0) (z1 := z1) (z2 := z2) hm0 h3 hA (m 0) 0 FU h1 _ (by omega) (by show m 0 < 1000000; omega) C1
  obtain ⟨h4, Z4, f4, e4, C4, O4, s4, v4, k4⟩ := sv65_go (z0 := z0) (z1 := z1) (z2 := z2) hm0 h3 hA hb (m 0 - 1) FU h2 Z2 (by omega) (by show m 0 - 1 < 1000000; omega) C2 (fun k hk => by
    by_cases u : k < m 0
    · exact v2 k (Nat.zero_le k) u
    · rw [k2 _ (by omega), zz _ (by omega), hb k (by omega) hk]) (fun q h1 h2 => by omega)
  have z85 : Z2 85 = Z 85 := by rw [s2 85 (by decide), upd2_ne (by decide)]
  rw [z85] at v4
  obtain ⟨h5, Z5, e5, C5, O5, s5, v5⟩ := sv_right (z0 := z0) (z1 := z1) (z2 := z2) (f := f4) hm0 h3 C4
  obtain ⟨h6, Z6, e6, C6, O6, s6, k6, v6⟩ := sv207_go (n := m 0) (3 - m 0) (m 0) FU h5 Z5 (by omega) (by show 3 - m 0 < 1000000; omega) C5
  have z4 : Z4 85 = Z 85 := by rw [s4 85 (by decide), z85]
  have r6 : ∀ j, j < m 0 * 3 → Z6 86 j = Z4 86 j := fun j hj => by rw [k6 j (Or.inl hj), s5 86 (by decide)]
  refine ⟨h6, Z6, ?_, C6, ((((O1.trans O2).trans O4).trans O5).trans O6), ?_, ⟨fun k hk => ?_, fun p hp k hk => ?_⟩, fun i k hi h3' hk => ?_, fun i hi => ?_⟩
  · have g0 : gO h (.ref 81) 1 0 = some 3 := gO_of (ltE (by decide)) (C.1.1 81 rfl) rfl
    have gm : gO h (.ref 3) 2 0 = some 4 := gO_of (ltE (by decide)) C.2.1.2.1 rfl
    have l0 : ldI .int h (.ref 4) 0 = some (jI (m 0)) := (C.2.2.1.1.2.1 0 (by decide)) ▸ C.2.1.ldmn (s := 0) (by decide)
    have g7 : gO h (.ref 81) 1 7 = some 86 := gO_of (ltE (by decide)) (C.1.1 81 rfl) rfl
    unfold s_X1_solve
    rw [g0, Option.bind_some, gm, Option.bind_some, l0, Option.bind_some, g7, Option.bind_some, e1]
    simp only [cN]
    have e2' : s_X1_solve_22 FU 81 z0 z1 z2 (jI (m 0)) 0 h1 = _ := e2
    rw [e2', e4, e5, e6]
    have d : s_X1_determinant 81 0 1 2 h6 = _ := cwDet C6.1 (x := 0) (y := 1) (z := 2) (by decide) (by decide) (by decide)
    rw [d]
    rfl
  · exact (((((SmZ.refl.upd (a := 86) (by decide)).trans (s2.mono (by decide))).trans (s4.mono (by decide))).trans (s5.mono (by decide))).trans (s6.mono (by decide)))
  · rw [r6 _ (by omega)]
    exact v4.1 k hk
  · rw [r6 _ (by omega), v4.2 p hp k hk, mulV_cg (R := Z6 86) (R' := Z4 86) (fun j hj => r6 _ (by omega))]
  · by_cases u : i = k
    · subst u
      rw [if_pos rfl]
      exact v6 i hi h3'
    · rw [if_neg u, k6 _ (by omega), s5 86 (by decide), k4 _ (by omega), k2 _ (by omega), zz _ (by omega)]
  · rw [s6 89 (by decide), v5 i hi, z4]
/-- the gains stand -/
theorem CC.solve2 {h : aH} {Z : Nat → Nat → Int64} (C : CC h S V Z D Ln b A N m F) {whole : Int64} (hw : dt3 (Z 86) 0 1 2 = whole) (w0 : whole ≠ 0) (w50 : whole.toInt.natAbs < 2 ^ 50) (bt : ∀ i, i < m 0 → bd62 (dt3 (swp (Z 86) (Z 89) i) 0 1 2)) :
    ∃ h' Z', ((pF h (.ref 81) 1 8 (.int (jI (m 0)))).bind fun h244 => s_X1_solve_250 FU 81 (jI (m 0)) whole 0 h244) = some (.inl none, h') ∧ CC h' (upd2 S 81 (upd (S 81) 8 (jI (m 0)))) V Z' D Ln b A N m F ∧ Oc D h h' ∧ SmZ [86, 87, 88, 89] Z Z' ∧ ∀ j, j < m 0 → Z' 87 j = sgP (dt3 (swp (Z 86) (Z 89) j) 0 1 2) whole (Nat.gcd whole.toInt.natAbs (dt3 (swp (Z 86) (Z 89) j) 0 1 2).toInt.natAbs) ∧ Z' 88 j = sgP whole whole (Nat.gcd whole.toInt.natAbs (dt3 (swp (Z 86) (Z 89) j) 0 1 2).toInt.natAbs) := by
  have h3 := C.2.2.1.1.1.1
  have r2 := C.1.obj (a := 81) (g := upd (S 81) 8 (jI (m 0))) rfl
  have e1 : pF h (.ref 81) 1 8 (.int (jI (m 0))) = some (h.set 81 (.inr (oF (upd2 S 81 (upd (S 81) 8 (jI (m 0)))) D 81))) := by
    rw [pF_of (ltE (by decide)) (C.1.1 81 rfl) (show 8 < 14 by decide)]
    rfl
  have C1 := C.to r2.1 r2.2 (by rw [upd2_ne (by decide)])
  obtain ⟨h', Z', i1, i2, i3, i4, i5, i6⟩ := sv250_go (R := Z 86) (y := Z 89) h3 (whole := whole) (by unfold bd62; omega) w0 w50 bt (m 0) 0 FU _ Z (by omega) (by show m 0 < 1000000; omega) C1 (fun _ _ => rfl) (fun _ _ => rfl)
  refine ⟨h', Z', ?_, i2, r2.2.trans i3, i4, fun j hj => i6 j (Nat.zero_le j) hj⟩
  rw [e1, Option.bind_some]
  exact i1
end
