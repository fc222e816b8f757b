/-! the reference reads a wish: names copied -/
section
variable {S : Nat → Int32} {wd : Int64} {fv : Value} {t : Nat} {V : Nat → Nat → Int32} {Z : Nat → Nat → Int64} {B : Nat → Nat → Int32} {W : Nat → Int64} {G : Nat → Nat}
/-- the thing at t and the wish at 120 stand beside each other -/
def twoT (h : aH) (t : Nat) (B : Nat → Nat → Int32) (W : Nat → Int64) (G : Nat → Nat) (B' : Nat → Nat → Int32) (W' : Nat → Int64) (G' : Nat → Nat) : Prop := isT h t B W G ∧ isT h 120 B' W' G' ∧ (t + 12 < 120 ∨ 132 < t)
theorem rd49_go {x y : Int32} : ∀ (c i f : Nat) (h : aH) (B' : Nat → Nat → Int32) (W' : Nat → Int64) (G' : Nat → Nat), i + c = 5 → c < f → RW h S wd (.ref t) fv (.ref 120) V Z → twoT h t B W G B' W' G' → (∀ j, j < i → B' 1 j = B 1 j) →
    ∃ h' B'', s_X14_reads_49 f 104 x y (jI i) h = s_X14_reads_80 FU 104 x y 0 h' ∧ RW h' S wd (.ref t) fv (.ref 120) V Z ∧ twoT h' t B W G B'' W' G' ∧ (∀ j, j < 5 → B'' 1 j = B 1 j) ∧ h'.length = h.length ∧ ∀ i, (i < 120 ∨ 132 < i) → h'[i]? = h[i]?
  | _, _, 0, _, _, _, _, _, hf, _, _, _ => by omega
  | 0, i, f + 1, h, B', W', G', hi, hf, X, T2, hz => by
    refine ⟨h, B', ?_, X, T2, fun j hj => hz j (by omega), rfl, fun _ _ => rfl⟩
    show s_X14_reads_49_b (s_X14_reads_49 f) 104 x y (jI i) h = _
    unfold s_X14_reads_49_b
    rw [if_pos (show (5 : Int32) ≤ jI i from (jI_le (j := 5) (by omega) (by omega)).mpr (by omega))]
  | c + 1, i, f + 1, h, B', W', G', hi, hf, X, T2, hz => by
    obtain ⟨H1, H2, ht⟩ := T2
    have h1 := H1.1
    have l1 : ldI .int h (.ref (t + 1)) (jI i) = some (B 1 i) := H1.ld (k := 1) (by decide) (by decide) (by decide) (show i < 5 by omega)
    obtain ⟨h2, e2, T3, l2, o2⟩ := H2.row (k := 1) (j := i) (x := B 1 i) (by decide) (by decide) (by decide) (show i < 5 by omega)
    have X2 : RW h2 S wd (.ref t) fv (.ref 120) V Z := X.of (fun k hk => o2 k (by
      have := rfC_okt2 (Or.inr (Or.inl rfl)) hk
      omega))
    obtain ⟨h', B'', a, b, d, e, g, o⟩ := rd49_go (x := x) (y := y) c (i + 1) f h2 _ W' G' (by omega) (by omega) X2 ⟨H1.of (fun k k1 k2 => o2 k (by omega)), T3, ht⟩ (fun j hj => by
      rw [upd2_eq]
      by_cases u : j = i
      · rw [u, upd_eq]
      · rw [upd_ne u]; exact hz j (by omega))
    refine ⟨h', B'', ?_, b, d, e, by rw [g, l2], fun k hk => by rw [o k hk, o2 k (by omega)]⟩
    show s_X14_reads_49_b (s_X14_reads_49 f) 104 x y (jI i) h = _
    unfold s_X14_reads_49_b
    rw [if_neg (show ¬ (5 : Int32) ≤ jI i from fun z => by have := (jI_le (j := 5) (by omega) (by omega)).mp z; omega), gO_of (x := 120) (k := 6) (ltE (by decide)) X.1 rfl, Option.bind_some, gO_of (x := 121) (k := 0) (ltE (by decide)) H2.2.1 rfl, Option.bind_some, gO_of (x := t) (k := 4) (ltE (by decide)) X.1 rfl, Option.bind_some, gO_of (x := t + 1) (k := 0) (by omega) H1.2.1 rfl, Option.bind_some, l1, Option.bind_some]
    have e2' : stI h (.ref 121) (jI i) (B 1 i) = some h2 := e2
    rw [e2', Option.bind_some, jI_inc]
    exact a
theorem rd80_go {x y : Int32} : ∀ (c i f : Nat) (h : aH) (B' : Nat → Nat → Int32) (W' : Nat → Int64) (G' : Nat → Nat), i + c = 11 → c < f → RW h S wd (.ref t) fv (.ref 120) V Z → twoT h t B W G B' W' G' → (∀ j, j < i → W' j = W j) →
    ∃ h' W'', s_X14_reads_80 f 104 x y (jI i) h = (if y = 0 then (s_X14_reads_120 104 x y 1 104 h') else (s_X14_reads_120 104 x y 0 104 h')) ∧ RW h' S wd (.ref t) fv (.ref 120) V Z ∧ twoT h' t B W G B' W'' G' ∧ (∀ j, j < 11 → W'' j = W j) ∧ h'.length = h.length ∧ ∀ i, (i < 120 ∨ 132 < i) → h'[i]? = h[i]?
  | _, _, 0, _, _, _, _, _, hf, _, _, _ => by omega
  | 0, i, f + 1, h, B', W', G', hi, hf, X, T2, hz => by
    refine ⟨h, W', ?_, X, T2, fun j hj => hz j (by omega), rfl, fun _ _ => rfl⟩
    show s_X14_reads_80_b (s_X14_reads_80 f) 104 x y (jI i) h = _
    unfold s_X14_reads_80_b
    rw [if_pos (show (11 : Int32) ≤ jI i from (jI_le (j := 11) (by omega) (by omega)).mpr (by omega))]
  | c + 1, i, f + 1, h, B', W', G', hi, hf, X, T2, hz => by
    obtain ⟨H1, H2, ht⟩ := T2
    have h1 := H1.1
    have l1 : ldJ h (.ref (t + 6)) (jI i) = some (W i) := ldJ_of (by omega) H1.2.2.1 (by omega) (by decide)
    obtain ⟨h2, e2, T3, l2, o2⟩ := H2.word (j := i) (by omega) (W i)
    have X2 : RW h2 S wd (.ref t) fv (.ref 120) V Z := X.of (fun k hk => o2 k (by
      have := rfC_okt2 (Or.inr (Or.inl rfl)) hk
      omega))
    obtain ⟨h', W'', a, b, d, e, g, o⟩ := rd80_go (x := x) (y := y) c (i + 1) f h2 B' _ G' (by omega) (by omega) X2 ⟨H1.of (fun k k1 k2 => o2 k (by omega)), T3, ht⟩ (fun j hj => by
      by_cases u : j = i
      · rw [u, updL_eq]
      · rw [updL_ne u]; exact hz j (by omega))
    refine ⟨h', W'', ?_, b, d, e, by rw [g, l2], fun k hk => by rw [o k hk, o2 k (by omega)]⟩
    show s_X14_reads_80_b (s_X14_reads_80 f) 104 x y (jI i) h = _
    unfold s_X14_reads_80_b
    rw [if_neg (show ¬ (11 : Int32) ≤ jI i from fun z => by have := (jI_le (j := 11) (by omega) (by omega)).mp z; omega), gO_of (x := 120) (k := 6) (ltE (by decide)) X.1 rfl, Option.bind_some, gO_of (x := 126) (k := 5) (ltE (by decide)) H2.2.1 rfl, Option.bind_some, gO_of (x := t) (k := 4) (ltE (by decide)) X.1 rfl, Option.bind_some, gO_of (x := t + 6) (k := 5) (by omega) H1.2.1 rfl, Option.bind_some, l1, Option.bind_some]
    have e2' : stJ h (.ref 126) (jI i) (W i) = some h2 := e2
    rw [e2', Option.bind_some, jI_inc]
    exact a
/-- a stop that was caught -/
theorem faulty_at {h : aH} {tv nv : Value} (X : RW h S wd tv fv nv V Z) {a b : Int32} (hs : stW h a b) : ∃ h', s_X14_faulty 104 118 h = some (.inl (some (.int (-1))), h') ∧ RW h' (upd (upd (upd S 3 a) 1 4) 2 b) wd tv fv nv V Z ∧ Ou h h' := by
  obtain ⟨fs, f0, f1, f2, f3⟩ := hs
  have g6 : gI h (.ref 118) 12 6 = some a := gI_of (ltE (by decide)) f0 f2
  obtain ⟨h1, e1, X1, O1⟩ := X.pS (k := 3) rfl a
  obtain ⟨h2, e2, X2, O2⟩ := X1.pS (k := 1) rfl 4
  have f0' : h2[118]? = some (.inr (12, fs)) := by rw [O2.2 118 (by decide), O1.2 118 (by decide)]; exact f0
  have g7 : gI h2 (.ref 118) 12 7 = some b := gI_of (ltE (by decide)) f0' f3
  obtain ⟨h3, e3, X3, O3⟩ := X2.pS (k := 2) rfl b
  refine ⟨h3, ?_, X3, (O1.trans O2).trans O3⟩
  unfold s_X14_faulty
  rw [g6, Option.bind_some, e1, Option.bind_some, e2, Option.bind_some, g7, Option.bind_some, e3, Option.bind_some]
end
