/-! do all roots lie within: both -/
def scG : Nat → (Nat → Int64) → Bool
  | 0, _ => true
  | d + 1, r => if lg_cmp (jabsL (r 0)) (jabsL (r (d + 1))) < 0 then scG d (fun k => (r (d + 1) * r (k + 1)) - (r 0 * r (d - k))) else false
theorem scG_congr : ∀ (d : Nat) (r r' : Nat → Int64), (∀ k, k ≤ d → r k = r' k) → scG d r = scG d r'
  | 0, _, _, _ => rfl
  | d + 1, r, r', h => by
    unfold scG
    rw [h 0 (by omega), h (d + 1) (by omega)]
    congr 1
    exact scG_congr d _ _ (fun k hk => by rw [h (k + 1) (by omega), h (d - k) (by omega)])
theorem cpJ_of {h : aH} {a b n0 n1 n : Nat} {f g : Nat → Int64} (ha : a < aE) (hb : b < aE) (h1 : h[a]? = some (.inl (.long, n0, .inr (.inl f)))) (h2 : h[b]? = some (.inl (.long, n1, .inr (.inl g)))) (hn : n ≤ n0) (hn1 : n ≤ n1) (hs : n < 2147483648) :
    ∃ g', cpJ h (.ref a) 0 (.ref b) 0 (jI n) = some (h.set b (.inl (.long, n1, .inr (.inl g')))) ∧ ∀ j, g' j = if j < n then f j else g j := by
  have z : ¬ (0 : Int32) < 0 := by decide
  have z2 : (0 : Int32).toNatClampNeg = 0 := by decide
  unfold cpJ
  simp only [ha, hb, h1, h2, and_self, if_true]
  rw [if_pos ⟨z, z, jI_neg hs, by rw [z2, jI_cl hs]; omega, by rw [z2, jI_cl hs]; omega⟩]
  refine ⟨_, rfl, fun j => ?_⟩
  simp only [z2, jI_cl hs, va_cpy, Nat.zero_add, Nat.zero_le, true_and, Nat.sub_zero]
section
variable {S V : Nat → Nat → Int32} {D Ln : Nat → Nat} {b : Nat}
theorem ro98_go {k65 : Nat → Int32 → aH → aO} {d : Nat} (hd2 : 2 ≤ d) (hd3 : d ≤ 3) : ∀ (k i f : Nat) (h : aH) (Z : Nat → Nat → Int64), i + k = d + 1 → 1 ≤ i → k < f → CW h S V Z D Ln b →
    ∃ h' Z', s_X1_rootsWithin_98 k65 f 81 (jI d) (jI i) h = s_X1_rootsWithin_159 k65 81 (jI d) h' ∧ CW h' S V Z' D Ln b ∧ Oc D h h' ∧ SmZ [91] Z Z' ∧ (∀ j, j + 1 < i → Z' 91 j = Z 91 j) ∧ ∀ j, i ≤ j + 1 → j < d → Z' 91 j = (Z 90 d * Z 90 (j + 1)) - (Z 90 0 * Z 90 (d - 1 - j))
  | _, _, 0, _, _, _, _, hf, _ => by omega
  | 0, i, f + 1, h, Z, hi, hi1, hf, X => by
    refine ⟨h, Z, ?_, X, Oc.refl, SmZ.refl, fun _ _ => rfl, fun j h1 h2 => by omega⟩
    show s_X1_rootsWithin_98_b k65 (s_X1_rootsWithin_98 k65 f) 81 (jI d) (jI i) h = _
    unfold s_X1_rootsWithin_98_b
    rw [if_neg (fun u => by have := (jI_le (k := 1) (by omega) (by omega)).mp u; omega), if_pos ((jI_lt (by omega) (by omega)).mpr (by omega))]
  | k + 1, i, f + 1, h, Z, hi, hi1, hf, X => by
    have g13 : gO h (.ref 81) 1 13 = some 91 := gO_of (ltE (by decide)) (X.1 81 rfl) rfl
    have g12 : gO h (.ref 81) 1 12 = some 90 := gO_of (ltE (by decide)) (X.1 81 rfl) rfl
    have l : ∀ j, j < 4 → ldJ h (.ref 90) (jI j) = some (Z 90 j) := fun j hj => X.ldJ (a := 90) rfl hj
    have l0 : ldJ h (.ref 90) 0 = some (Z 90 0) := l 0 (by decide)
    obtain ⟨h1, e1, X1, O1⟩ := X.stJ (a := 91) (j := i - 1) rfl (show i - 1 < 4 by omega) ((Z 90 d * Z 90 i) - (Z 90 0 * Z 90 (d - i)))
    obtain ⟨h', Z', i1, i2, i3, i4, i5, i6⟩ := ro98_go (k65 := k65) hd2 hd3 k (i + 1) f h1 _ (by omega) (by omega) (by omega) X1
    refine ⟨h', Z', ?_, i2, O1.trans i3, (SmZ.refl.upd (by decide)).trans i4, fun j hj => ?_, fun j h1 h2 => ?_⟩
    · show s_X1_rootsWithin_98_b k65 (s_X1_rootsWithin_98 k65 f) 81 (jI d) (jI i) h = _
      unfold s_X1_rootsWithin_98_b
      rw [if_neg (fun u => by have := (jI_le (k := 1) (by omega) (by omega)).mp u; omega), if_neg (fun u => by have := (jI_lt (by omega) (by omega)).mp u; omega), g13, Option.bind_some, g12, Option.bind_some, l d (by omega), Option.bind_some, Option.bind_some, l i (by omega), Option.bind_some, Option.bind_some, l0, Option.bind_some, Option.bind_some, jI_sub (by omega), l (d - i) (by omega), Option.bind_some, jI_dec (by omega), e1, Option.bind_some, jI_inc]
      exact i1
    · rw [i5 j (by omega), upd2_eq, updL_ne (by omega)]
    · by_cases u : j + 1 = i
      · rw [i5 j (by omega), upd2_eq, show j = i - 1 by omega, updL_eq, show i - 1 + 1 = i by omega, show d - 1 - (i - 1) = d - i by omega]
      · rw [i6 j (by omega) h2, upd2_ne (by decide)]
theorem ro65_go : ∀ (d f : Nat) (h : aH) (Z : Nat → Nat → Int64), d ≤ 3 → d < f → CW h S V Z D Ln b →
    ∃ h' Z', s_X1_rootsWithin_65 f 81 (jI d) h = some (.inl (some (.int (b01 (scG d (Z 90))))), h') ∧ CW h' S V Z' D Ln b ∧ Oc D h h' ∧ SmZ [90, 91] Z Z'
  | _, 0, _, _, _, hf, _ => by omega
  | 0, f + 1, h, Z, hd, hf, X => by
    refine ⟨h, Z, ?_, X, Oc.refl, SmZ.refl⟩
    show s_X1_rootsWithin_65_b (s_X1_rootsWithin_65 f) 81 (jI 0) h = _
    unfold s_X1_rootsWithin_65_b
    rw [if_pos (by decide)]
    rfl
  | d + 1, f + 1, h, Z, hd, hf, X => by
    have g12 : gO h (.ref 81) 1 12 = some 90 := gO_of (ltE (by decide)) (X.1 81 rfl) rfl
    have l : ∀ j, j < 4 → ldJ h (.ref 90) (jI j) = some (Z 90 j) := fun j hj => X.ldJ (a := 90) rfl hj
    have l0 : ldJ h (.ref 90) 0 = some (Z 90 0) := l 0 (by decide)
    have e : s_X1_rootsWithin_65 (f + 1) 81 (jI (d + 1)) h = if lg_cmp (jabsL (Z 90 0)) (jabsL (Z 90 (d + 1))) < 0 then s_X1_rootsWithin_98 (s_X1_rootsWithin_65 f) FU 81 (jI (d + 1)) (jI 1) h else rtZ 0 h := by
      show s_X1_rootsWithin_65_b (s_X1_rootsWithin_65 f) 81 (jI (d + 1)) h = _
      unfold s_X1_rootsWithin_65_b
      rw [if_neg (fun u => by have := (jI_le (k := 0) (by omega) (by omega)).mp u; omega), g12, Option.bind_some, l0, Option.bind_some, Option.bind_some, l (d + 1) (by omega), Option.bind_some, show jI 1 = (1 : Int32) from rfl]
    have us : scG (d + 1) (Z 90) = if lg_cmp (jabsL (Z 90 0)) (jabsL (Z 90 (d + 1))) < 0 then scG d (fun k => (Z 90 (d + 1) * Z 90 (k + 1)) - (Z 90 0 * Z 90 (d - k))) else false := rfl
    rw [e, us]
    by_cases q : lg_cmp (jabsL (Z 90 0)) (jabsL (Z 90 (d + 1))) < 0
    · rw [if_pos q, if_pos q]
      -- behind the inner loop
      have mid : ∃ h1 Z1, s_X1_rootsWithin_98 (s_X1_rootsWithin_65 f) FU 81 (jI (d + 1)) (jI 1) h = s_X1_rootsWithin_159 (s_X1_rootsWithin_65 f) 81 (jI (d + 1)) h1 ∧ CW h1 S V Z1 D Ln b ∧ Oc D h h1 ∧ SmZ [91] Z Z1 ∧ (1 ≤ d → ∀ j, j < d + 1 → Z1 91 j = (Z 90 (d + 1) * Z 90 (j + 1)) - (Z 90 0 * Z 90 (d - j))) := by
        by_cases d1 : 1 ≤ d
        · obtain ⟨h', Z', i1, i2, i3, i4, i5, i6⟩ := ro98_go (k65 := s_X1_rootsWithin_65 f) (d := d + 1) (by omega) hd (d + 1) 1 FU h Z (by omega) (by omega) (by show d + 1 < 1000000; omega) X
          exact ⟨h', Z', i1, i2, i3, i4, fun _ j hj => by rw [i6 j (by omega) hj, show d + 1 - 1 - j = d - j by omega]⟩
        · refine ⟨h, Z, ?_, X, Oc.refl, SmZ.refl, fun z => absurd z d1⟩
          have e98 : ∀ g, s_X1_rootsWithin_98 (s_X1_rootsWithin_65 f) (g + 1) 81 (jI (d + 1)) (jI 1) h = s_X1_rootsWithin_159 (s_X1_rootsWithin_65 f) 81 (jI (d + 1)) h := fun g => by
            show s_X1_rootsWithin_98_b (s_X1_rootsWithin_65 f) (s_X1_rootsWithin_98 (s_X1_rootsWithin_65 f) g) 81 (jI (d + 1)) (jI 1) h = _
            unfold s_X1_rootsWithin_98_b
            rw [if_pos (show jI (d + 1) ≤ 1 from (jI_le (k := 1) (by omega) (by omega)).mpr (by omega))]
          rw [show FU = 999999 + 1 from rfl]
          exact e98 999999
      obtain ⟨h1, Z1, e1, X1, O1, s1, b1⟩ := mid
      rw [e1]
      have p13 : gO h1 (.ref 81) 1 13 = some 91 := gO_of (ltE (by decide)) (X1.1 81 rfl) rfl
      have p12 : gO h1 (.ref 81) 1 12 = some 90 := gO_of (ltE (by decide)) (X1.1 81 rfl) rfl
      obtain ⟨g', c1, c2⟩ := cpJ_of (a := 91) (b := 90) (n := d + 1) (ltE (by decide)) (ltE (by decide)) (X1.2.2.1 91 rfl) (X1.2.2.1 90 rfl) (show d + 1 ≤ 4 by omega) (show d + 1 ≤ 4 by omega) (by omega)
      have r := X1.rowJ (a := 90) (g := g') rfl
      obtain ⟨h', Z', i1, i2, i3, i4⟩ := ro65_go d f _ _ (by omega) (by omega) r.1
      refine ⟨h', Z', ?_, i2, (O1.trans r.2).trans i3, ((s1.mono (by decide)).trans (SmZ.refl.upd (by decide))).trans i4⟩
      unfold s_X1_rootsWithin_159
      rw [p13, Option.bind_some, p12, Option.bind_some, c1, Option.bind_some, jI_dec' (by omega), Nat.add_sub_cancel]
      refine i1.trans ?_
      have es : scG d (upd2 Z1 90 g' 90) = scG d (fun k => (Z 90 (d + 1) * Z 90 (k + 1)) - (Z 90 0 * Z 90 (d - k))) := by
        cases d with
        | zero => rfl
        | succ d =>
          refine scG_congr _ _ _ (fun k hk => ?_)
          rw [upd2_eq, c2 k, if_pos (by omega), b1 (by omega) k (by omega)]
      rw [es]
    · rw [if_neg q, if_neg q]
      exact ⟨h, Z, rfl, X, Oc.refl, SmZ.refl⟩
def dgS (z1 z2 z3 : Int32) : Nat := if z3 = 0 then (if z2 = 0 then (if z1 = 0 then 0 else 1) else 2) else 3
def r4S (z0 z1 z2 z3 : Int32) (k : Nat) : Int64 := if k = 0 then z0.toInt64 else if k = 1 then z1.toInt64 else if k = 2 then z2.toInt64 else z3.toInt64
theorem rootsWithin_at {h : aH} {Z : Nat → Nat → Int64} (X : CW h S V Z D Ln b) (z0 z1 z2 z3 : Int32) :
    ∃ h' Z', s_X1_rootsWithin 81 z0 z1 z2 z3 h = some (.inl (some (.int (b01 (scG (dgS z1 z2 z3) (r4S z0 z1 z2 z3))))), h') ∧ CW h' S V Z' D Ln b ∧ Oc D h h' ∧ SmZ [90, 91] Z Z' := by
  have g : ∀ {h : aH} {Z : Nat → Nat → Int64}, CW h S V Z D Ln b → gO h (.ref 81) 1 12 = some 90 := fun X => gO_of (ltE (by decide)) (X.1 81 rfl) rfl
  obtain ⟨h1, e1, X1, O1⟩ := X.stJ (a := 90) (j := 0) rfl (by decide) z0.toInt64
  obtain ⟨h2, e2, X2, O2⟩ := X1.stJ (a := 90) (j := 1) rfl (by decide) z1.toInt64
  obtain ⟨h3, e3, X3, O3⟩ := X2.stJ (a := 90) (j := 2) rfl (by decide) z2.toInt64
  obtain ⟨h4, e4, X4, O4⟩ := X3.stJ (a := 90) (j := 3) rfl (by decide) z3.toInt64
  have hd : dgS z1 z2 z3 ≤ 3 := by
    unfold dgS
    split
    · split
      · split <;> decide
      · decide
    · decide
  obtain ⟨h', Z', i1, i2, i3, i4⟩ := ro65_go (dgS z1 z2 z3) FU h4 _ hd (by show dgS z1 z2 z3 < 1000000; omega) X4
  rw [scG_congr (dgS z1 z2 z3) _ (r4S z0 z1 z2 z3) (fun k hk => by
    have hk4 : k < 4 := by omega
    simp only [upd2_eq]
    match k, hk4 with
    | 0, _ => rw [updL_ne (by decide), updL_ne (by decide), updL_ne (by decide), updL_eq]; rfl
    | 1, _ => rw [updL_ne (by decide), updL_ne (by decide), updL_eq]; rfl
    | 2, _ => rw [updL_ne (by decide), updL_eq]; rfl
    | 3, _ => rw [updL_eq]; rfl)] at i1
  refine ⟨h', Z', ?_, i2, (((O1.trans O2).trans O3).trans O4).trans i3, ((((SmZ.refl.upd (by decide)).upd (by decide)).upd (by decide)).upd (by decide)).trans i4⟩
  have e1' : stJ h (.ref 90) 0 z0.toInt64 = some h1 := e1
  have e2' : stJ h1 (.ref 90) 1 z1.toInt64 = some h2 := e2
  have e3' : stJ h2 (.ref 90) 2 z2.toInt64 = some h3 := e3
  have e4' : stJ h3 (.ref 90) 3 z3.toInt64 = some h4 := e4
  unfold s_X1_rootsWithin s_X1_rootsWithin_59
  rw [g X, Option.bind_some, e1', Option.bind_some, g X1, Option.bind_some, e2', Option.bind_some, g X2, Option.bind_some, e3', Option.bind_some, g X3, Option.bind_some, e4', Option.bind_some]
  unfold dgS at i1 ⊢
  by_cases q3 : z3 = 0
  · rw [if_pos q3] at i1 ⊢
    rw [if_pos q3]
    by_cases q2 : z2 = 0
    · rw [if_pos q2] at i1 ⊢
      rw [if_pos q2]
      by_cases q1 : z1 = 0
      · rw [if_pos q1] at i1 ⊢
        rw [if_pos q1]
        exact i1
      · rw [if_neg q1] at i1 ⊢
        rw [if_neg q1]
        exact i1
    · rw [if_neg q2] at i1 ⊢
      rw [if_neg q2]
      exact i1
  · rw [if_neg q3] at i1 ⊢
    rw [if_neg q3]
    exact i1
end
