/-! a thing's lines: what is meant -/
/-- names and spans, steps, sights, how many factors: m, nm, low, high, steps, sights, factors -/
abbrev pTh : Type := (Nat → Nat) × (Nat → List Nat) × (Nat → Int32) × (Nat → Int32) × List (Nat × List pFa × List pOne) × List (List pFa) × Nat
def thM (σ : pTh) : Nat → Nat := σ.1
def thN (σ : pTh) : Nat → List Nat := σ.2.1
def thL (σ : pTh) : Nat → Int32 := σ.2.2.1
def thH (σ : pTh) : Nat → Int32 := σ.2.2.2.1
def thS (σ : pTh) : List (Nat × List pFa × List pOne) := σ.2.2.2.2.1
def thG (σ : pTh) : List (List pFa) := σ.2.2.2.2.2.1
def thF (σ : pTh) : Nat := σ.2.2.2.2.2.2
def th0 : pTh := (fun _ => 0, fun _ => [], fun _ => 0, fun _ => 0, [], [], 0)
def mxK (kd : Nat) : Nat := if kd = 0 then 3 else 2
section
variable (T : Nat → Nat) (n : Nat)
def itP (k : Nat) : (Nat × Nat) ⊕ (Int32 × Nat) := if (tokS T n k).1 = 45 then (if (tokS T n (k + 1)).1 = 2 then .inr (-(jI (tkN T (tokS T n (k + 1)))), k + 2) else .inl (1, k + 1)) else if (tokS T n k).1 = 2 then .inr (jI (tkN T (tokS T n k)), k + 1) else .inl (1, k)
/-- a new name: its fault -/
def nwP (σ : pTh) (kd k : Nat) : Option Nat := if (tokS T n k).1 = 1 then (if rsO (tkW T (tokS T n k)) = none ∧ slF (thN σ) (thM σ) (tkW T (tokS T n k)) = none then (if thM σ kd < mxK kd then none else some 5) else some 3) else some 1
/-- a name more, of kind kd -/
def adN (σ : pTh) (kd : Nat) (w : List Nat) : (Nat → Nat) × (Nat → List Nat) := (upd2 (thM σ) kd (thM σ kd + 1), upd2 (thN σ) (bsN kd + thM σ kd) w)
def spP (σ : pTh) (kd k : Nat) : (Nat × Nat) ⊕ (pTh × Nat) := match nwP T n σ kd k with
  | some f => .inl (f, k)
  | none => match itP T n (k + 1) with
    | .inl e => .inl e
    | .inr a => if isWd T n 5 a.2 = true then (if a.1 < -20 ∨ 20 < a.1 then .inl (4, a.2) else (match itP T n (a.2 + 1) with
      | .inl e => .inl e
      | .inr b => if 20 < b.1 ∨ b.1 < a.1 then .inl (4, a.2) else .inr (((adN σ kd (tkW T (tokS T n k))).1, (adN σ kd (tkW T (tokS T n k))).2, upd (thL σ) (bsN kd + thM σ kd) a.1, upd (thH σ) (bsN kd + thM σ kd) b.1, thS σ, thG σ, thF σ), b.2))) else .inl (1, a.2)
def siP (σ : pTh) (k : Nat) : (Nat × Nat) ⊕ (pTh × Nat) := match nwP T n σ 4 k with
  | some f => .inl (f, k)
  | none => if (tokS T n (k + 1)).1 = 61 then (match suP T n (thN σ) (thM σ) 9 (k + 2) (thF σ) with
    | .inl e => .inl e
    | .inr x => .inr (((adN σ 4 (tkW T (tokS T n k))).1, (adN σ 4 (tkW T (tokS T n k))).2, thL σ, thH σ, thS σ, thG σ ++ [x.1], thF σ + x.1.length), x.2)) else .inl (1, k + 1)
def stP (σ : pTh) (s k : Nat) : (Nat × Nat) ⊕ (pTh × Nat) := if (thS σ).length < 8 then (if (tokS T n (k + 1)).1 = 61 then (match suP T n (thN σ) (thM σ) 9 (k + 2) (thF σ) with
    | .inl e => .inl e
    | .inr x => if isWd T n 6 x.2 = true then (match teP T n (thN σ) (thM σ) 9 31 (x.2 + 1) (thF σ + x.1.length) with
      | .inl e => .inl e
      | .inr y => .inr ((thM σ, thN σ, thL σ, thH σ, thS σ ++ [(s, x.1, y.1)], thG σ, thF σ + x.1.length + fLn y.1), y.2)) else .inr ((thM σ, thN σ, thL σ, thH σ, thS σ ++ [(s, x.1, [])], thG σ, thF σ + x.1.length), x.2)) else .inl (1, k + 1)) else .inl (5, k)
def liP (σ : pTh) (k : Nat) : (Nat × Nat) ⊕ (pTh × Nat) := if (tokS T n k).1 = 1 then (match khO T n k with
  | some i => if i = 4 then siP T n σ (k + 1) else spP T n σ i (k + 1)
  | none => match slF (thN σ) (thM σ) (tkW T (tokS T n k)) with
    | none => .inl (2, k)
    | some s => if s < 3 then stP T n σ s k else .inl (2, k)) else .inl (1, k)
/-- the rows of low and high as the class's Model has them -/
def rwL (σ : pTh) (k : Nat) : Nat → Int32 := if k = 3 then thL σ else thH σ
def fitB (σ : pTh) : Bool := decide (0 < thM σ 0) && (decide (prtN (rwL σ) 0 0 (thM σ 0) ≤ 400) && (decide (prtN (rwL σ) 0 3 (thM σ 1) ≤ 9) && decide (prtN (rwL σ) 0 5 (thM σ 2) * prtN (rwL σ) 0 7 (thM σ 3) ≤ 27)))
def thP : Nat → pTh → Nat → (Nat × Nat) ⊕ pTh
  | 0, _, k => .inl (1, k)
  | r + 1, σ, k => match liP T n σ k with
    | .inl e => .inl e
    | .inr x => if (tokS T n x.2).1 = 0 then (if fitB x.1 = true then .inr x.1 else .inl (5, x.2)) else if (tokS T n x.2).1 = 59 then thP r x.1 (x.2 + 1) else .inl (1, x.2)
end
/-! what a text tells is sound -/
def okFc (m : Nat → Nat) (per : Nat) (l : List pFa) : Prop := okB l ∧ ∀ a ∈ l, 0 ≤ a.2.1 → ∃ s, s < per ∧ dcl5 m s ∧ a.2.1 = jI s
theorem jI_sm {x : Nat} (h : x < 1000) : sm 1000 (jI x) := by
  unfold sm
  rw [jI_int (by omega)]
  omega
theorem fcP_ok {T : Nat → Nat} {n : Nat} {nm : Nat → List Nat} {m : Nat → Nat} {per k nf : Nat} {sw : Int32 × Int32} (h : fcP T n nm m per k nf = .inr sw) : (¬ 0 ≤ sw.1 → sm 1000 sw.2) ∧ (0 ≤ sw.1 → ∃ s, s < per ∧ dcl5 m s ∧ sw.1 = jI s) := by
  unfold fcP at h
  by_cases q2 : (tokS T n k).1 = 2
  · rw [if_pos q2] at h
    by_cases u : 60 ≤ nf
    · rw [if_pos u] at h; cases h
    · rw [if_neg u] at h
      cases h
      exact ⟨fun _ => jI_sm (tok_whole q2).1, fun z => absurd z (by show ¬ (0 : Int32) ≤ -1; decide)⟩
  · rw [if_neg q2] at h
    by_cases q1 : (tokS T n k).1 = 1 ∧ rsO (tkW T (tokS T n k)) = none
    · rw [if_pos q1] at h
      cases q : slF nm m (tkW T (tokS T n k)) with
      | none => rw [q] at h; cases h
      | some s =>
        rw [q] at h
        dsimp only at h
        by_cases u : per ≤ s
        · rw [if_pos u] at h; cases h
        · rw [if_neg u] at h
          by_cases v : 60 ≤ nf
          · rw [if_pos v] at h; cases h
          · rw [if_neg v] at h
            cases h
            exact ⟨fun _ => by show sm 1000 0; unfold sm; decide, fun _ => ⟨s, by omega, slG_dcl 5 0 s rfl q, rfl⟩⟩
    · rw [if_neg q1] at h; cases h
theorem smP_ok {T : Nat → Nat} {n : Nat} {nm : Nat → List Nat} {m : Nat → Nat} {per : Nat} : ∀ (r : Nat) (j : Int32) (k nf : Nat) (x : List pFa × Nat), smP T n nm m per r j k nf = .inr x → ∀ a ∈ x.1, (¬ 0 ≤ a.2.1 → sm 1000 a.2.2) ∧ (0 ≤ a.2.1 → ∃ s, s < per ∧ dcl5 m s ∧ a.2.1 = jI s)
  | 0, _, _, _, _, h => by cases h
  | r + 1, j, k, nf, x, h => by
    have e0 : smP T n nm m per (r + 1) j k nf = match fcP T n nm m per k nf with
      | .inl f => .inl (f, k)
      | .inr sw => match jnO (tokS T n (k + 1)).1 with
        | none => .inr ([(j, sw.1, sw.2)], k + 1)
        | some j' => match smP T n nm m per r j' (k + 2) (nf + 1) with
          | .inl e => .inl e
          | .inr x => .inr ((j, sw.1, sw.2) :: x.1, x.2) := rfl
    rw [e0] at h
    cases q : fcP T n nm m per k nf with
    | inl f => rw [q] at h; cases h
    | inr sw =>
      rw [q] at h
      dsimp only at h
      cases q2 : jnO (tokS T n (k + 1)).1 with
      | none =>
        rw [q2] at h
        cases h
        intro a ha
        rw [List.mem_singleton.mp ha]
        exact fcP_ok q
      | some j' =>
        rw [q2] at h
        dsimp only at h
        cases q3 : smP T n nm m per r j' (k + 2) (nf + 1) with
        | inl e => rw [q3] at h; cases h
        | inr y =>
          rw [q3] at h
          cases h
          intro a ha
          rcases List.mem_cons.mp ha with z | z
          · rw [z]; exact fcP_ok q
          · exact smP_ok r j' (k + 2) (nf + 1) y q3 a z
theorem suP_ok {T : Nat → Nat} {n : Nat} {nm : Nat → List Nat} {m : Nat → Nat} {per k nf : Nat} {x : List pFa × Nat} (h : suP T n nm m per k nf = .inr x) : okFc m per x.1 := by
  unfold suP at h
  have key : ∀ {j : Int32} {k : Nat}, (j = 0 ∨ j = 1) → smP T n nm m per 61 j k nf = .inr x → okFc m per x.1 := fun hj h => by
    have a := smP_ok _ _ _ _ _ h
    obtain ⟨p, q, e⟩ := smP_hd h
    exact ⟨⟨⟨_, _, e, hj⟩, fun z hz => (a z hz).1⟩, fun z hz => (a z hz).2⟩
  by_cases q : (tokS T n k).1 = 45
  · rw [if_pos q] at h; exact key (Or.inr rfl) h
  · rw [if_neg q] at h; exact key (Or.inl rfl) h
theorem teP_ok {T : Nat → Nat} {n : Nat} {nm : Nat → List Nat} {m : Nat → Nat} {per : Nat} : ∀ (r k nf : Nat) (x : List pOne × Nat), teP T n nm m per r k nf = .inr x → x.1 ≠ [] ∧ ∀ o ∈ x.1, okFc m per o.1 ∧ okFc m per o.2.1
  | 0, _, _, _, h => by cases h
  | r + 1, k, nf, x, h => by
    rw [teP_co] at h
    cases q : onP T n nm m per k nf with
    | inl e => rw [q] at h; cases h
    | inr y =>
      have ok1 : okFc m per y.1.1 ∧ okFc m per y.1.2.1 := by
        unfold onP at q
        cases q1 : suP T n nm m per k nf with
        | inl e => rw [q1] at q; cases q
        | inr a =>
          rw [q1] at q
          dsimp only at q
          by_cases u : isRl (tokS T n a.2).1 = true
          · rw [if_pos u] at q
            cases q2 : suP T n nm m per (a.2 + 1) (nf + a.1.length) with
            | inl e => rw [q2] at q; cases q
            | inr b => rw [q2] at q; cases q; exact ⟨suP_ok q1, suP_ok q2⟩
          · rw [if_neg u] at q; cases q
      rw [q] at h
      dsimp only at h
      cases q3 : teC T n nm m per r y.2 (nf + oLn y.1) with
      | inl e => rw [q3] at h; cases h
      | inr z =>
        rw [q3] at h
        cases h
        refine ⟨List.cons_ne_nil _ _, fun o ho => ?_⟩
        rcases List.mem_cons.mp ho with w | w
        · rw [w]; exact ok1
        · unfold teC at q3
          by_cases u : isWd T n 7 y.2 = true
          · rw [if_pos u] at q3
            exact (teP_ok r _ _ z q3).2 o w
          · rw [if_neg u] at q3
            cases q3
            exact absurd w List.not_mem_nil
