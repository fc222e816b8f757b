/-! the reference's reader: kinds, slots, stops, the next token -/
theorem isWd_some {T : Nat → Nat} {n k s : Nat} (q : (tokS T n k).1 = 1) (r : rsO (tkW T (tokS T n k)) = some s) (i : Nat) : isWd T n i k = decide (i = s) := by
  unfold isWd
  by_cases u : i = s
  · rw [show decide (i = s) = true from decide_eq_true u]
    exact decide_eq_true ⟨q, by rw [r, u]⟩
  · rw [show decide (i = s) = false from decide_eq_false u]
    refine decide_eq_false (fun z => u ?_)
    have := z.2
    rw [r] at this
    cases this
    rfl
theorem isWd_none {T : Nat → Nat} {n k : Nat} (q : ¬ ((tokS T n k).1 = 1 ∧ rsO (tkW T (tokS T n k)) ≠ none)) (i : Nat) : isWd T n i k = false := by
  unfold isWd
  exact decide_eq_false (fun z => q ⟨z.1, by rw [z.2]; exact Option.some_ne_none i⟩)
/-- the kind that a word says -/
def khO (T : Nat → Nat) (n k : Nat) : Option Nat := if (tokS T n k).1 = 1 then (match rsO (tkW T (tokS T n k)) with
  | some s => if s < 5 then some s else none
  | none => none) else none
def kpB (T : Nat → Nat) (n k : Nat) : Bool := decide ((tokS T n k).1 = 1 ∧ rsO (tkW T (tokS T n k)) ≠ none)
section
variable {h : aH} {S : Nat → Int32} {wd : Int64} {tv fv : Value} {t : Nat} {V : Nat → Nat → Int32} {Z : Nat → Nat → Int64} {T : Nat → Nat} {n k : Nat}
theorem kindHere_at (X : RPw h S wd tv fv t V Z T n k) : s_X14_kindHere 104 h = some (.inl (some (.int (oI (khO T n k)))), h) := by
  have w0 := isWd_R X (i := 0) (by decide)
  have w1 := isWd_R X (i := 1) (by decide)
  have w2 := isWd_R X (i := 2) (by decide)
  have w3 := isWd_R X (i := 3) (by decide)
  have w4 := isWd_R X (i := 4) (by decide)
  unfold s_X14_kindHere
  simp only [X.kO, w0, w1, w2, w3, w4, cI]
  by_cases q : (tokS T n k).1 = 1 ∧ rsO (tkW T (tokS T n k)) ≠ none
  · obtain ⟨q1, q2⟩ := q
    cases r : rsO (tkW T (tokS T n k)) with
    | none => exact absurd r q2
    | some s =>
      have s8 := rsO_lt r
      have e : khO T n k = if s < 5 then some s else none := by
        unfold khO
        rw [if_pos q1, r]
      rw [e, isWd_some q1 r 0, isWd_some q1 r 1, isWd_some q1 r 2, isWd_some q1 r 3, isWd_some q1 r 4]
      match s, s8 with
      | 0, _ => rfl
      | 1, _ => rfl
      | 2, _ => rfl
      | 3, _ => rfl
      | 4, _ => rfl
      | 5, _ => rfl
      | 6, _ => rfl
      | 7, _ => rfl
  · have e : khO T n k = none := by
      unfold khO
      by_cases q1 : (tokS T n k).1 = 1
      · rw [if_pos q1]
        cases r : rsO (tkW T (tokS T n k)) with
        | none => rfl
        | some s => exact absurd ⟨q1, by rw [r]; exact Option.some_ne_none s⟩ q
      · rw [if_neg q1]
    rw [e, isWd_none q 0, isWd_none q 1, isWd_none q 2, isWd_none q 3, isWd_none q 4]
    rfl
theorem isKept_at (X : RPw h S wd tv fv t V Z T n k) : s_X14_isKept 104 h = some (.inl (some (.int (b01 (kpB T n k)))), h) := by
  have w5 := isWd_R X (i := 5) (by decide)
  have w6 := isWd_R X (i := 6) (by decide)
  have w7 := isWd_R X (i := 7) (by decide)
  unfold s_X14_isKept
  simp only [X.kO, w5, w6, w7, kindHere_at X, cI]
  unfold kpB
  by_cases q : (tokS T n k).1 = 1 ∧ rsO (tkW T (tokS T n k)) ≠ none
  · rw [show decide ((tokS T n k).1 = 1 ∧ rsO (tkW T (tokS T n k)) ≠ none) = true from decide_eq_true q]
    obtain ⟨q1, q2⟩ := q
    cases r : rsO (tkW T (tokS T n k)) with
    | none => exact absurd r q2
    | some s =>
      have s8 := rsO_lt r
      have e : khO T n k = if s < 5 then some s else none := by
        unfold khO
        rw [if_pos q1, r]
      rw [e, isWd_some q1 r 5, isWd_some q1 r 6, isWd_some q1 r 7]
      match s, s8 with
      | 0, _ => rfl
      | 1, _ => rfl
      | 2, _ => rfl
      | 3, _ => rfl
      | 4, _ => rfl
      | 5, _ => rfl
      | 6, _ => rfl
      | 7, _ => rfl
  · rw [show decide ((tokS T n k).1 = 1 ∧ rsO (tkW T (tokS T n k)) ≠ none) = false from decide_eq_false q]
    have e : khO T n k = none := by
      unfold khO
      by_cases q1 : (tokS T n k).1 = 1
      · rw [if_pos q1]
        cases r : rsO (tkW T (tokS T n k)) with
        | none => rfl
        | some s => exact absurd ⟨q1, by rw [r]; exact Option.some_ne_none s⟩ q
      · rw [if_neg q1]
    rw [e, isWd_none q 5, isWd_none q 6, isWd_none q 7]
    rfl
theorem slotOf_ref {k : Nat} (h : aH) : s_X14_slotOf (jI k) h = some (.inl (some (.int (if k = 0 ∨ jI k = 0 then 0 else 2 * jI k + 1))), h) := by
  unfold s_X14_slotOf
  by_cases q : jI k = 0
  · rw [if_pos q, if_pos (Or.inr q)]
  · rw [if_neg q, if_neg (fun z => z.elim (fun u => q (by rw [u]; rfl)) q)]
theorem slotOf_bs {k : Nat} (hk : k < 6) (h : aH) : s_X14_slotOf (jI k) h = some (.inl (some (.int (jI (bsN k)))), h) := by
  match k, hk with
  | 0, _ => rfl
  | 1, _ => rfl
  | 2, _ => rfl
  | 3, _ => rfl
  | 4, _ => rfl
  | 5, _ => rfl
/-- a stop at the token, thrown -/
theorem stopAt_at (X : RW h S wd tv fv (.ref t) V Z) (hs : shS h) (a b : Int32) : ∃ h', s_X14_stopAt 104 a b h = some (.inl (some (.ref 118)), h') ∧ stW h' a b ∧ h'.length = h.length ∧ ∀ i, i ≠ 118 → h'[i]? = h[i]? := by
  obtain ⟨fs, f0, f1⟩ := hs
  have g7 : gO h (.ref 104) 14 7 = some 118 := gO_of (ltE (by decide)) X.1 rfl
  have e1 : pF h (.ref 118) 12 6 (.int a) = some (h.set 118 (.inr (12, fs.set 6 (.int a)))) := pF_of (ltE (by decide)) f0 (by omega)
  obtain ⟨h1, hh1⟩ : ∃ h1, h1 = h.set 118 (.inr (12, fs.set 6 (.int a))) := ⟨_, rfl⟩
  rw [← hh1] at e1
  have x1 : h1[104]? = _ := keepC (k := 104) hh1 (by decide) X.1
  have y1 : h1[118]? = some (.inr (12, fs.set 6 (.int a))) := by rw [hh1]; exact set_eq f0
  have e2 : pF h1 (.ref 118) 12 7 (.int b) = some (h1.set 118 (.inr (12, (fs.set 6 (.int a)).set 7 (.int b)))) := pF_of (ltE (by decide)) y1 (by rw [List.length_set]; omega)
  have x2 : (h1.set 118 (.inr (12, (fs.set 6 (.int a)).set 7 (.int b))))[104]? = _ := (set_ne (by decide)).trans x1
  refine ⟨h1.set 118 (.inr (12, (fs.set 6 (.int a)).set 7 (.int b))), ?_, ⟨(fs.set 6 (.int a)).set 7 (.int b), set_eq y1, by rw [List.length_set, List.length_set]; exact f1, ?_, ?_⟩, by rw [List.length_set, hh1, List.length_set], fun i hi => by rw [set_ne (fun z => hi z.symm), hh1, set_ne (fun z => hi z.symm)]⟩
  · unfold s_X14_stopAt
    rw [g7, Option.bind_some, e1, Option.bind_some, gO_of (x := 118) (k := 7) (ltE (by decide)) x1 rfl, Option.bind_some, e2, Option.bind_some, gO_of (x := 118) (k := 7) (ltE (by decide)) x2 rfl, Option.bind_some]
  · rw [List.getElem?_set_ne (by decide), List.getElem?_set_self (by omega)]
  · rw [List.getElem?_set_self (by rw [List.length_set]; omega)]
/-- the reference has stopped: its kind and place -/
def FaR (h h' : aH) (S : Nat → Int32) (tv fv : Value) (t : Nat) (V : Nat → Nat → Int32) (Z : Nat → Nat → Int64) (T : Nat → Nat) (n : Nat) (e : Nat × Nat) : Prop :=
  stW h' (jI e.1) (jI (tokS T n e.2).2.1) ∧ (∃ S' wd', RW h' S' wd' tv fv (.ref t) V Z ∧ ∀ j, (j < 11 ∨ 17 < j) → S' j = S j) ∧ (∃ B W G, isT h' t B W G) ∧ FrR t h h'
end
