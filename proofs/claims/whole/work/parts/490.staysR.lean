/-! do all roots lie within: the reference -/
section
variable {S : Nat → Int32} {wd : Int64} {tv fv nv : Value} {V : Nat → Nat → Int32}
theorem st231_go {k135 : Nat → Int32 → aH → aO} {d : Nat} (hd : 1 ≤ d) (hd3 : d ≤ 3) : ∀ (k i f : Nat) (h : aH) (Z : Nat → Nat → Int64), i + k = d → k < f → RW h S wd tv fv nv V Z → (∀ j, j < i → Z 174 j = Z 173 j) →
    ∃ h' Z', s_X14_stays_231 k135 f 104 (jI d) (jI i) h = k135 104 (jI (d - 1)) h' ∧ RW h' S wd tv fv nv V Z' ∧ Ou h h' ∧ SmZ [173, 174] Z Z' ∧ ∀ j, j < d → Z' 174 j = Z 173 j
  | _, _, 0, _, _, _, hf, _, _ => by omega
  | 0, i, f + 1, h, Z, hi, hf, X, hz => by
    refine ⟨h, Z, ?_, X, Ou.refl, SmZ.refl, fun j hj => hz j (by omega)⟩
    show s_X14_stays_231_b k135 (s_X14_stays_231 k135 f) 104 (jI d) (jI i) h = _
    unfold s_X14_stays_231_b
    rw [if_pos ((jI_le (by omega) (by omega)).mpr (by omega)), jI_dec' (by omega)]
  | k + 1, i, f + 1, h, Z, hi, hf, X, hz => by
    have g58 : gO h (.ref 104) 14 58 = some 174 := gO_of (ltE (by decide)) X.1 rfl
    have g57 : gO h (.ref 104) 14 57 = some 173 := gO_of (ltE (by decide)) X.1 rfl
    have l : ldJ h (.ref 173) (jI i) = some (Z 173 i) := X.ldJ (a := 173) rfl (show i < 9 by omega)
    obtain ⟨h1, e1, X1, O1⟩ := X.stJ (a := 174) (j := i) rfl (show i < 4 by omega) (Z 173 i)
    obtain ⟨h', Z', i1, i2, i3, i4, i5⟩ := st231_go (k135 := k135) hd hd3 k (i + 1) f h1 _ (by omega) (by omega) X1 (fun j hj => by
      rw [upd2_eq, upd2_ne (by decide)]
      by_cases u : j = i
      · rw [u, updL_eq]
      · rw [updL_ne u]; exact hz j (by omega))
    refine ⟨h', Z', ?_, i2, O1.trans i3, (SmZ.refl.upd (by decide)).trans i4, fun j hj => ?_⟩
    · show s_X14_stays_231_b k135 (s_X14_stays_231 k135 f) 104 (jI d) (jI i) h = _
      unfold s_X14_stays_231_b
      rw [if_neg (fun u => by have := (jI_le (by omega) (by omega)).mp u; omega), g58, Option.bind_some, g57, Option.bind_some, l, Option.bind_some, e1, Option.bind_some, jI_inc]
      exact i1
    · rw [i5 j hj, upd2_ne (by decide)]
theorem st180_go {k135 : Nat → Int32 → aH → aO} {d : Nat} {x y : Int64} (hd : 1 ≤ d) (hd3 : d ≤ 3) : ∀ (k i f : Nat) (h : aH) (Z : Nat → Nat → Int64), i + k = d → k < f → RW h S wd tv fv nv V Z → (∀ j, j < i → Z 173 j = (y * Z 174 (j + 1)) - (x * Z 174 (d - 1 - j))) →
    ∃ h' Z', s_X14_stays_180 k135 f 104 (jI d) x y (jI i) h = k135 104 (jI (d - 1)) h' ∧ RW h' S wd tv fv nv V Z' ∧ Ou h h' ∧ SmZ [173, 174] Z Z' ∧ ∀ j, j < d → Z' 174 j = (y * Z 174 (j + 1)) - (x * Z 174 (d - 1 - j))
  | _, _, 0, _, _, _, hf, _, _ => by omega
  | 0, i, f + 1, h, Z, hi, hf, X, hz => by
    obtain ⟨h', Z', i1, i2, i3, i4, i5⟩ := st231_go (k135 := k135) hd hd3 d 0 FU h Z (by omega) (by show d < 1000000; omega) X (fun j hj => absurd hj (Nat.not_lt_zero j))
    refine ⟨h', Z', ?_, i2, i3, i4, fun j hj => by rw [i5 j hj, hz j (by omega)]⟩
    show s_X14_stays_180_b k135 (s_X14_stays_180 k135 f) 104 (jI d) x y (jI i) h = _
    unfold s_X14_stays_180_b
    rw [if_pos ((jI_le (by omega) (by omega)).mpr (by omega))]
    exact i1
  | k + 1, i, f + 1, h, Z, hi, hf, X, hz => by
    have g58 : gO h (.ref 104) 14 58 = some 174 := gO_of (ltE (by decide)) X.1 rfl
    have g57 : gO h (.ref 104) 14 57 = some 173 := gO_of (ltE (by decide)) X.1 rfl
    have l : ∀ j, j < 4 → ldJ h (.ref 174) (jI j) = some (Z 174 j) := fun j hj => X.ldJ (a := 174) rfl hj
    obtain ⟨h1, e1, X1, O1⟩ := X.stJ (a := 173) (j := i) rfl (show i < 9 by omega) ((y * Z 174 (i + 1)) - (x * Z 174 (d - 1 - i)))
    obtain ⟨h', Z', i1, i2, i3, i4, i5⟩ := st180_go (k135 := k135) (x := x) (y := y) hd hd3 k (i + 1) f h1 _ (by omega) (by omega) X1 (fun j hj => by
      rw [upd2_eq, upd2_ne (by decide)]
      by_cases u : j = i
      · rw [u, updL_eq]
      · rw [updL_ne u]; exact hz j (by omega))
    refine ⟨h', Z', ?_, i2, O1.trans i3, (SmZ.refl.upd (by decide)).trans i4, fun j hj => ?_⟩
    · show s_X14_stays_180_b k135 (s_X14_stays_180 k135 f) 104 (jI d) x y (jI i) h = _
      unfold s_X14_stays_180_b
      rw [if_neg (fun u => by have := (jI_le (by omega) (by omega)).mp u; omega), g57, Option.bind_some, g58, Option.bind_some, jI_inc, l (i + 1) (by omega), Option.bind_some, Option.bind_some, jI_dec (by omega), jI_sub (by omega), l (d - 1 - i) (by omega), Option.bind_some, e1, Option.bind_some]
      exact i1
    · rw [i5 j hj, upd2_ne (by decide)]
theorem st135_go : ∀ (d f : Nat) (h : aH) (Z : Nat → Nat → Int64), d ≤ 3 → d < f → RW h S wd tv fv nv V Z →
    ∃ h' Z', s_X14_stays_135 f 104 (jI d) h = some (.inl (some (.int (b01 (scG d (Z 174))))), h') ∧ RW h' (twS S 0) wd tv fv nv V Z' ∧ Ou h h' ∧ SmZ [173, 174] Z Z'
  | _, 0, _, _, _, hf, _ => by omega
  | 0, f + 1, h, Z, hd, hf, X => by
    obtain ⟨h1, e1, X1, O1⟩ := X.done 1
    refine ⟨h1, Z, ?_, X1, O1, SmZ.refl⟩
    show s_X14_stays_135_b (s_X14_stays_135 f) 104 (jI 0) h = _
    unfold s_X14_stays_135_b
    rw [if_pos (by decide), X.kO, e1]
    rfl
  | d + 1, f + 1, h, Z, hd, hf, X => by
    have g58 : gO h (.ref 104) 14 58 = some 174 := gO_of (ltE (by decide)) X.1 rfl
    have l : ∀ j, j < 4 → ldJ h (.ref 174) (jI j) = some (Z 174 j) := fun j hj => X.ldJ (a := 174) rfl hj
    have l0 : ldJ h (.ref 174) 0 = some (Z 174 0) := l 0 (by decide)
    have us : scG (d + 1) (Z 174) = if lg_cmp (jabsL (Z 174 0)) (jabsL (Z 174 (d + 1))) < 0 then scG d (fun k => (Z 174 (d + 1) * Z 174 (k + 1)) - (Z 174 0 * Z 174 (d - k))) else false := rfl
    rw [us]
    by_cases q : lg_cmp (jabsL (Z 174 0)) (jabsL (Z 174 (d + 1))) < 0
    · rw [if_pos q]
      obtain ⟨h1, Z1, e1, X1, O1, s1, b1⟩ := st180_go (k135 := s_X14_stays_135 f) (x := Z 174 0) (y := Z 174 (d + 1)) (show 1 ≤ d + 1 by omega) hd (d + 1) 0 FU h Z (by omega) (by show d + 1 < 1000000; omega) X (fun j hj => absurd hj (Nat.not_lt_zero j))
      obtain ⟨h', Z', i1, i2, i3, i4⟩ := st135_go d f h1 Z1 (by omega) (by omega) X1
      refine ⟨h', Z', ?_, i2, O1.trans i3, s1.trans i4⟩
      have es : scG d (Z1 174) = scG d (fun k => (Z 174 (d + 1) * Z 174 (k + 1)) - (Z 174 0 * Z 174 (d - k))) := by
        cases d with
        | zero => rfl
        | succ d => exact scG_congr _ _ _ (fun k hk => by rw [b1 k (by omega), show d + 1 + 1 - 1 - k = d + 1 - k by omega])
      rw [← es]
      show s_X14_stays_135_b (s_X14_stays_135 f) 104 (jI (d + 1)) h = _
      unfold s_X14_stays_135_b
      rw [if_neg (fun u => by have := (jI_le (k := 0) (by omega) (by omega)).mp u; omega), g58, Option.bind_some, l0, Option.bind_some, Option.bind_some, l (d + 1) (by omega), Option.bind_some, if_pos q]
      exact e1.trans i1
    · rw [if_neg q]
      obtain ⟨h1, e1, X1, O1⟩ := X.done 0
      refine ⟨h1, Z, ?_, X1, O1, SmZ.refl⟩
      show s_X14_stays_135_b (s_X14_stays_135 f) 104 (jI (d + 1)) h = _
      unfold s_X14_stays_135_b
      rw [if_neg (fun u => by have := (jI_le (k := 0) (by omega) (by omega)).mp u; omega), g58, Option.bind_some, l0, Option.bind_some, Option.bind_some, l (d + 1) (by omega), Option.bind_some, if_neg q, X.kO, e1]
      rfl
/-- the highest power that there is -/
theorem st117_go {h : aH} {Z : Nat → Nat → Int64} (X : RW h S wd tv fv nv V Z) {top : Nat} (h1 : Z 174 top ≠ 0) : ∀ (k d f : Nat), top + k = d → d ≤ 3 → k < f → (∀ j, top < j → j ≤ d → Z 174 j = 0) →
    s_X14_stays_117 f 104 (jI d) h = s_X14_stays_135 FU 104 (jI top) h
  | _, _, 0, _, _, hf, _ => by omega
  | 0, d, f + 1, hd, hd3, hf, hz => by
    have ed : d = top := by omega
    subst ed
    have g58 : gO h (.ref 104) 14 58 = some 174 := gO_of (ltE (by decide)) X.1 rfl
    have l : ldJ h (.ref 174) (jI d) = some (Z 174 d) := X.ldJ (a := 174) rfl (show d < 4 by omega)
    show s_X14_stays_117_b (s_X14_stays_117 f) 104 (jI d) h = _
    unfold s_X14_stays_117_b
    rw [g58, Option.bind_some, l, Option.bind_some, if_neg (fun u => h1 ((lgc_eq _ _).mp u))]
  | k + 1, d, f + 1, hd, hd3, hf, hz => by
    have g58 : gO h (.ref 104) 14 58 = some 174 := gO_of (ltE (by decide)) X.1 rfl
    have l : ldJ h (.ref 174) (jI d) = some (Z 174 d) := X.ldJ (a := 174) rfl (show d < 4 by omega)
    show s_X14_stays_117_b (s_X14_stays_117 f) 104 (jI d) h = _
    unfold s_X14_stays_117_b
    rw [g58, Option.bind_some, l, Option.bind_some, if_pos ((lgc_eq _ _).mpr (hz d (by omega) (by omega))), jI_dec' (by omega)]
    exact st117_go X h1 k (d - 1) f (by omega) (by omega) (by omega) (fun j h1 h2 => hz j h1 (by omega))
theorem i64_z {x : Int32} : x.toInt64 = 0 ↔ x = 0 := by
  constructor
  · intro h
    apply Int32.toInt_inj.mp
    have := congrArg Int64.toInt h
    rw [i64_of] at this
    exact this
  · intro h
    rw [h]
    rfl
theorem stays81_at {h : aH} {Z : Nat → Nat → Int64} (X : RW h S wd tv fv nv V Z) (z0 z1 z2 z3 : Int32) (hz : ¬ (z0 = 0 ∧ z1 = 0 ∧ z2 = 0 ∧ z3 = 0)) :
    ∃ h' Z', s_X14_stays_81 104 z0 z1 z2 z3 h = some (.inl (some (.int (b01 (scG (dgS z1 z2 z3) (r4S z0 z1 z2 z3))))), h') ∧ RW h' (twS S 0) wd tv fv nv V Z' ∧ Ou h h' ∧ SmZ [173, 174] Z Z' := by
  have g : ∀ {h : aH} {Z : Nat → Nat → Int64}, RW h S wd tv fv nv V Z → gO h (.ref 104) 14 58 = some 174 := fun X => gO_of (ltE (by decide)) X.1 rfl
  obtain ⟨h1, e1, X1, O1⟩ := X.stJ (a := 174) (j := 0) rfl (by decide) z0.toInt64
  obtain ⟨h2, e2, X2, O2⟩ := X1.stJ (a := 174) (j := 1) rfl (by decide) z1.toInt64
  obtain ⟨h3, e3, X3, O3⟩ := X2.stJ (a := 174) (j := 2) rfl (by decide) z2.toInt64
  obtain ⟨h4, e4, X4, O4⟩ := X3.stJ (a := 174) (j := 3) rfl (by decide) z3.toInt64
  have s4 := ((((SmZ.refl (L := [173, 174]) (Z := Z)).upd (a := 174) (g := vp_updL (Z 174) 0 z0.toInt64) (by decide)).upd (a := 174) (g := vp_updL (upd2 Z 174 (vp_updL (Z 174) 0 z0.toInt64) 174) 1 z1.toInt64) (by decide)).upd (a := 174) (g := vp_updL (upd2 (upd2 Z 174 (vp_updL (Z 174) 0 z0.toInt64)) 174 (vp_updL (upd2 Z 174 (vp_updL (Z 174) 0 z0.toInt64) 174) 1 z1.toInt64) 174) 2 z2.toInt64) (by decide))
  obtain ⟨Z4, hZ4, s5, v4⟩ : ∃ Z4, RW h4 S wd tv fv nv V Z4 ∧ SmZ [173, 174] Z Z4 ∧ ∀ k, k < 4 → Z4 174 k = r4S z0 z1 z2 z3 k := by
    refine ⟨_, X4, s4.upd (by decide), fun k hk4 => ?_⟩
    simp only [upd2_eq]
    match k, hk4 with
    | 0, _ => rw [updL_ne (by decide), updL_ne (by decide), updL_ne (by decide), updL_eq]; rfl
    | 1, _ => rw [updL_ne (by decide), updL_ne (by decide), updL_eq]; rfl
    | 2, _ => rw [updL_ne (by decide), updL_eq]; rfl
    | 3, _ => rw [updL_eq]; rfl
  have hd : dgS z1 z2 z3 ≤ 3 := by
    unfold dgS
    split
    · split
      · split <;> decide
      · decide
    · decide
  have top : r4S z0 z1 z2 z3 (dgS z1 z2 z3) ≠ 0 ∧ ∀ j, dgS z1 z2 z3 < j → j ≤ 3 → r4S z0 z1 z2 z3 j = 0 := by
    unfold dgS
    by_cases q3 : z3 = 0
    · rw [if_pos q3]
      have w3 : r4S z0 z1 z2 z3 3 = 0 := i64_z.mpr q3
      by_cases q2 : z2 = 0
      · rw [if_pos q2]
        have w2 : r4S z0 z1 z2 z3 2 = 0 := i64_z.mpr q2
        by_cases q1 : z1 = 0
        · rw [if_pos q1]
          have w1 : r4S z0 z1 z2 z3 1 = 0 := i64_z.mpr q1
          refine ⟨fun z => hz ⟨i64_z.mp z, q1, q2, q3⟩, fun j h1 h2 => ?_⟩
          have : j = 1 ∨ j = 2 ∨ j = 3 := by omega
          rcases this with rfl | rfl | rfl
          · exact w1
          · exact w2
          · exact w3
        · rw [if_neg q1]
          refine ⟨fun z => q1 (i64_z.mp z), fun j h1 h2 => ?_⟩
          have : j = 2 ∨ j = 3 := by omega
          rcases this with rfl | rfl
          · exact w2
          · exact w3
      · rw [if_neg q2]
        refine ⟨fun z => q2 (i64_z.mp z), fun j h1 h2 => ?_⟩
        have : j = 3 := by omega
        rw [this]
        exact w3
    · rw [if_neg q3]
      exact ⟨fun z => q3 (i64_z.mp z), fun j h1 h2 => by omega⟩
  have e117 := st117_go hZ4 (top := dgS z1 z2 z3) (by rw [v4 _ (by omega)]; exact top.1) (3 - dgS z1 z2 z3) 3 FU (by omega) (by omega) (by show 3 - dgS z1 z2 z3 < 1000000; omega) (fun j h1 h2 => by rw [v4 j (by omega)]; exact top.2 j h1 h2)
  obtain ⟨h', Z', i1, i2, i3, i4⟩ := st135_go (dgS z1 z2 z3) FU h4 Z4 hd (by show dgS z1 z2 z3 < 1000000; omega) hZ4
  rw [scG_congr (dgS z1 z2 z3) _ (r4S z0 z1 z2 z3) (fun k hk => v4 k (by omega))] at i1
  refine ⟨h', Z', ?_, i2, (((O1.trans O2).trans O3).trans O4).trans i3, s5.trans i4⟩
  have e1' : stJ h (.ref 174) 0 z0.toInt64 = some h1 := e1
  have e2' : stJ h1 (.ref 174) 1 z1.toInt64 = some h2 := e2
  have e3' : stJ h2 (.ref 174) 2 z2.toInt64 = some h3 := e3
  have e4' : stJ h3 (.ref 174) 3 z3.toInt64 = some h4 := e4
  unfold s_X14_stays_81
  rw [g X, Option.bind_some, e1', Option.bind_some, g X1, Option.bind_some, e2', Option.bind_some, g X2, Option.bind_some, e3', Option.bind_some, g X3, Option.bind_some, e4', Option.bind_some]
  exact e117.trans i1
end
