/-! the class's gains, one by one -/
def swp (R y : Nat → Int64) (i j : Nat) : Int64 := if j % 3 = i then y (j / 3) else R j
section
variable {S V : Nat → Nat → Int32} {D Ln : Nat → Nat} {b : Nat} {A : Nat → Nat → Int32} {N : Nat → Int64} {m F : Nat → Nat}
theorem sw2_go {i : Nat} (hi : i < 3) : ∀ (n k f : Nat) (h : aH) (Z : Nat → Nat → Int64), k + n = 3 → n < f → CC h S V Z D Ln b A N m F →
    ∃ h' Z', s_X1_swapColumn_2 f 81 (jI i) (jI k) h = some (.inl none, h') ∧ CC h' S V Z' D Ln b A N m F ∧ Oc D h h' ∧ SmZ [86, 89] Z Z' ∧ (∀ j, k ≤ j → j < 3 → Z' 86 (j * 3 + i) = Z 89 j ∧ Z' 89 j = Z 86 (j * 3 + i)) ∧ (∀ j, (j < k * 3 ∨ j % 3 ≠ i) → Z' 86 j = Z 86 j) ∧ ∀ j, j < k → Z' 89 j = Z 89 j
  | _, _, 0, _, _, _, hf, _ => by omega
  | 0, k, f + 1, h, Z, hn, hf, C => by
    refine ⟨h, Z, ?_, C, Oc.refl, SmZ.refl, fun j h1 h2 => by omega, fun _ _ => rfl, fun _ _ => rfl⟩
    show s_X1_swapColumn_2_b (s_X1_swapColumn_2 f) 81 (jI i) (jI k) h = _
    unfold s_X1_swapColumn_2_b
    rw [if_pos (show (3 : Int32) ≤ jI k from (jI_le (j := 3) (by omega) (by omega)).mpr (by omega))]
  | n + 1, k, f + 1, h, Z, hn, hf, C => by
    have g7 : gO h (.ref 81) 1 7 = some 86 := gO_of (ltE (by decide)) (C.1.1 81 rfl) rfl
    have g11 : gO h (.ref 81) 1 11 = some 89 := gO_of (ltE (by decide)) (C.1.1 81 rfl) rfl
    have l86 : ldJ h (.ref 86) (jI (k * 3 + i)) = some (Z 86 (k * 3 + i)) := C.1.ldJ (a := 86) rfl (show k * 3 + i < 18 by omega)
    have l89 : ldJ h (.ref 89) (jI k) = some (Z 89 k) := C.1.ldJ (a := 89) rfl (show k < 3 by omega)
    obtain ⟨h1, e1, X1, O1⟩ := C.1.stJ (a := 86) (j := k * 3 + i) rfl (show k * 3 + i < 18 by omega) (Z 89 k)
    have C1 := C.to X1 O1 rfl
    have p11 : gO h1 (.ref 81) 1 11 = some 89 := gO_of (ltE (by decide)) (C1.1.1 81 rfl) rfl
    obtain ⟨h2, e2, X2, O2⟩ := C1.1.stJ (a := 89) (j := k) rfl (show k < 3 by omega) (Z 86 (k * 3 + i))
    have C2 := C1.to X2 O2 rfl
    obtain ⟨h', Z', i1, i2, i3, i4, i5, i6, i7⟩ := sw2_go hi n (k + 1) f h2 _ (by omega) (by omega) C2
    have v86 : ∀ j, upd2 (upd2 Z 86 (vp_updL (Z 86) (k * 3 + i) (Z 89 k))) 89 (vp_updL (upd2 Z 86 (vp_updL (Z 86) (k * 3 + i) (Z 89 k)) 89) k (Z 86 (k * 3 + i))) 86 j = vp_updL (Z 86) (k * 3 + i) (Z 89 k) j := fun j => by rw [upd2_ne (by decide), upd2_eq]
    have v89 : ∀ j, upd2 (upd2 Z 86 (vp_updL (Z 86) (k * 3 + i) (Z 89 k))) 89 (vp_updL (upd2 Z 86 (vp_updL (Z 86) (k * 3 + i) (Z 89 k)) 89) k (Z 86 (k * 3 + i))) 89 j = vp_updL (Z 89) k (Z 86 (k * 3 + i)) j := fun j => by rw [upd2_eq, upd2_ne (by decide)]
    refine ⟨h', Z', ?_, i2, (O1.trans O2).trans i3, ((SmZ.refl.upd (by decide)).upd (by decide)).trans i4, fun j h1 h2 => ?_, fun j hj => ?_, fun j hj => ?_⟩
    · show s_X1_swapColumn_2_b (s_X1_swapColumn_2 f) 81 (jI i) (jI k) h = _
      unfold s_X1_swapColumn_2_b
      rw [if_neg (fun u => by have := (jI_le (j := 3) (by omega) (by omega)).mp u; omega), g7, Option.bind_some, jI_3, jI_add, l86, Option.bind_some, Option.bind_some, g11, Option.bind_some, l89, Option.bind_some, e1, Option.bind_some, p11, Option.bind_some, e2, Option.bind_some, jI_inc]
      exact i1
    · by_cases u : j = k
      · subst u
        rw [i6 _ (by omega), i7 _ (by omega), v86, v89, updL_eq, updL_eq]
        exact ⟨rfl, rfl⟩
      · obtain ⟨a1, a2⟩ := i5 j (by omega) h2
        rw [a1, a2, v86, v89, updL_ne u, updL_ne (by omega)]
        exact ⟨rfl, rfl⟩
    · rw [i6 j (by omega), v86, updL_ne (by omega)]
    · rw [i7 j (by omega), v89, updL_ne (by omega)]
theorem CC.swapColumn {h : aH} {Z : Nat → Nat → Int64} (C : CC h S V Z D Ln b A N m F) {i : Nat} (hi : i < 3) :
    ∃ h' Z', s_X1_swapColumn 81 (jI i) h = some (.inl none, h') ∧ CC h' S V Z' D Ln b A N m F ∧ Oc D h h' ∧ SmZ [86, 89] Z Z' ∧ (∀ j, j < 9 → Z' 86 j = swp (Z 86) (Z 89) i j) ∧ ∀ j, j < 3 → Z' 89 j = Z 86 (j * 3 + i) := by
  obtain ⟨h', Z', i1, i2, i3, i4, i5, i6, i7⟩ := sw2_go hi 3 0 FU h Z rfl (by decide) C
  refine ⟨h', Z', i1, i2, i3, i4, fun j hj => ?_, fun j hj => (i5 j (Nat.zero_le j) hj).2⟩
  unfold swp
  by_cases u : j % 3 = i
  · rw [if_pos u]
    have := (i5 (j / 3) (Nat.zero_le _) (by omega)).1
    rw [show j / 3 * 3 + i = j by omega] at this
    exact this
  · rw [if_neg u]
    exact i6 j (Or.inr u)
theorem dt3_cg {R R' : Nat → Int64} (h : ∀ j, j < 9 → R j = R' j) : dt3 R 0 1 2 = dt3 R' 0 1 2 := by
  unfold dt3
  rw [h (0 * 3) (by decide), h (0 * 3 + 1) (by decide), h (0 * 3 + 2) (by decide), h (1 * 3) (by decide), h (1 * 3 + 1) (by decide), h (1 * 3 + 2) (by decide), h (2 * 3) (by decide), h (2 * 3 + 1) (by decide), h (2 * 3 + 2) (by decide)]
theorem jmaxL_1 {g : Nat} (hg : 0 < g) (hg2 : g < 9223372036854775808) : jmaxL 1 (jL g) = jL g := by
  apply Int64.toInt_inj.mp
  unfold jmaxL
  have z1 : (1 : Int64).toInt = 1 := rfl
  split
  · rename_i q
    rw [Int64.lt_iff_toInt_lt, jL_int hg2, z1] at q
    rw [z1, jL_int hg2]
    omega
  · rfl
/-- a pair by the sign of the second -/
def sgP (x y : Int64) (g : Nat) : Int64 := if 0 ≤ lg_cmp y 0 then 1 * (x / jL g) else (-1) * (x / jL g)
theorem CC.setGain {h : aH} {Z : Nat → Nat → Int64} (C : CC h S V Z D Ln b A N m F) {i : Nat} (hi : i < 3) {whole top : Int64} (ht : dt3 (swp (Z 86) (Z 89) i) 0 1 2 = top) (bt : bd62 top) (bw : bd62 whole) (w0 : whole ≠ 0) (w50 : whole.toInt.natAbs < 2 ^ 50) :
    ∃ h' Z', s_X1_setGain 81 (jI i) whole h = some (.inl none, h') ∧ CC h' S V Z' D Ln b A N m F ∧ Oc D h h' ∧ SmZ [86, 87, 88, 89] Z Z' ∧ (∀ j, j < 9 → Z' 86 j = Z 86 j) ∧ (∀ j, j < 3 → Z' 89 j = Z 89 j) ∧ Z' 87 = vp_updL (Z 87) i (sgP top whole (Nat.gcd whole.toInt.natAbs top.toInt.natAbs)) ∧ Z' 88 = vp_updL (Z 88) i (sgP whole whole (Nat.gcd whole.toInt.natAbs top.toInt.natAbs)) := by
  obtain ⟨h1, Z1, e1, C1, O1, s1, a1, y1⟩ := C.swapColumn hi
  have d1 : s_X1_determinant 81 0 1 2 h1 = some (.inl (some (.long top)), h1) := by
    have := cwDet C1.1 (x := 0) (y := 1) (z := 2) (by decide) (by decide) (by decide)
    rw [dt3_cg a1, ht] at this
    exact this
  obtain ⟨h2, Z2, e2, C2, O2, s2, a2, y2⟩ := C1.swapColumn hi
  have r86 : ∀ j, j < 9 → Z2 86 j = Z 86 j := fun j hj => by
    rw [a2 j hj]
    unfold swp
    by_cases u : j % 3 = i
    · rw [if_pos u, y1 (j / 3) (by omega), show j / 3 * 3 + i = j by omega]
    · rw [if_neg u, a1 j hj]
      unfold swp
      rw [if_neg u]
  have r89 : ∀ j, j < 3 → Z2 89 j = Z 89 j := fun j hj => by
    rw [y2 j hj, a1 _ (by omega)]
    unfold swp
    rw [if_pos (by omega), show (j * 3 + i) / 3 = j by omega]
  have wn : 0 < whole.toInt.natAbs := by
    have : whole.toInt ≠ 0 := fun z => w0 (Int64.toInt_inj.mp z)
    omega
  obtain ⟨g, hg⟩ : ∃ g, g = Nat.gcd whole.toInt.natAbs top.toInt.natAbs := ⟨_, rfl⟩
  have g0 : 0 < g := by rw [hg]; exact Nat.gcd_pos_of_pos_left _ wn
  have g50 : g < 2 ^ 50 := by
    have := Nat.gcd_le_left top.toInt.natAbs wn
    omega
  have sf : s_X1_sharedFactor top whole h2 = some (.inl (some (.long (jL g))), h2) := by
    unfold s_X1_sharedFactor
    rw [jabs_at bt, jabs_at bw, hg]
    unfold bd62 at bt
    exact sf_go 50 top.toInt.natAbs whole.toInt.natAbs 0 FU w50 (by decide) (by decide) (by decide) (by omega)
  rw [← hg]
  have ne : jL g ≠ 0 := fun z => by have := (jL_inj0 (by omega)).mp z; omega
  have tail : ∀ sg : Int64, ∃ h' Z', s_X1_setGain_44 81 (jI i) whole top (jmaxL 1 (jL g)) sg h2 = some (.inl none, h') ∧ CC h' S V Z' D Ln b A N m F ∧ Oc D h2 h' ∧ SmZ [87, 88] Z2 Z' ∧ Z' 87 = vp_updL (Z2 87) i (sg * (top / jL g)) ∧ Z' 88 = vp_updL (Z2 88) i (sg * (whole / jL g)) := by
    intro sg
    have g9 : gO h2 (.ref 81) 1 9 = some 87 := gO_of (ltE (by decide)) (C2.1.1 81 rfl) rfl
    obtain ⟨h3, e3, X3, O3⟩ := C2.1.stJ (a := 87) (j := i) rfl (show i < 3 by omega) (sg * (top / jL g))
    have C3 := C2.to X3 O3 rfl
    have g10 : gO h3 (.ref 81) 1 10 = some 88 := gO_of (ltE (by decide)) (C3.1.1 81 rfl) rfl
    obtain ⟨h4, e4, X4, O4⟩ := C3.1.stJ (a := 88) (j := i) rfl (show i < 3 by omega) (sg * (whole / jL g))
    refine ⟨h4, _, ?_, C3.to X4 O4 rfl, O3.trans O4, (SmZ.refl.upd (by decide)).upd (by decide), by rw [upd2_ne (by decide), upd2_eq], by rw [upd2_eq, upd2_ne (by decide)]⟩
    unfold s_X1_setGain_44
    rw [jmaxL_1 g0 (by omega), g9, Option.bind_some]
    unfold nzL
    rw [if_neg ne, e3, Option.bind_some, g10, Option.bind_some, if_neg ne, e4, Option.bind_some]
  have kk : ∀ {β : Type} {h : aH} {Z : Nat → Nat → Int64} {k : Option β}, CC h S V Z D Ln b A N m F → kO h 81 1 k = k := fun {β h Z k} C => kO_of (ltE (by decide)) (C.1.1 81 rfl)
  have start : ∀ {y : aO}, (if 0 ≤ (lg_cmp whole 0) then (s_X1_setGain_44 81 (jI i) whole top (jmaxL 1 (jL g)) 1 h2) else (s_X1_setGain_44 81 (jI i) whole top (jmaxL 1 (jL g)) (-1) h2)) = y → s_X1_setGain 81 (jI i) whole h = y := by
    intro y hy
    unfold s_X1_setGain
    rw [kk C, e1]
    simp only [cN]
    rw [kk C1, d1]
    simp only [cJ]
    rw [kk C1, e2]
    simp only []
    rw [sf]
    exact hy
  have fr : ∀ {Z' : Nat → Nat → Int64}, SmZ [87, 88] Z2 Z' → SmZ [86, 87, 88, 89] Z Z' ∧ (∀ j, j < 9 → Z' 86 j = Z 86 j) ∧ ∀ j, j < 3 → Z' 89 j = Z 89 j := fun {Z'} s => ⟨((s1.mono (by decide)).trans (s2.mono (by decide))).trans (s.mono (by decide)), fun j hj => by rw [s 86 (by decide)]; exact r86 j hj, fun j hj => by rw [s 89 (by decide)]; exact r89 j hj⟩
  have z87 : Z2 87 = Z 87 := by rw [s2 87 (by decide), s1 87 (by decide)]
  have z88 : Z2 88 = Z 88 := by rw [s2 88 (by decide), s1 88 (by decide)]
  unfold sgP
  by_cases q : 0 ≤ lg_cmp whole 0
  · obtain ⟨h', Z', i1, i2, i3, i4, i5, i6⟩ := tail 1
    obtain ⟨f1, f2, f3⟩ := fr i4
    rw [if_pos q, if_pos q]
    exact ⟨h', Z', start (by rw [if_pos q]; exact i1), i2, (O1.trans O2).trans i3, f1, f2, f3, by rw [i5, z87], by rw [i6, z88]⟩
  · obtain ⟨h', Z', i1, i2, i3, i4, i5, i6⟩ := tail (-1)
    obtain ⟨f1, f2, f3⟩ := fr i4
    rw [if_neg q, if_neg q]
    exact ⟨h', Z', start (by rw [if_neg q]; exact i1), i2, (O1.trans O2).trans i3, f1, f2, f3, by rw [i5, z87], by rw [i6, z88]⟩
end
