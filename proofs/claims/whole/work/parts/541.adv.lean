/-! a text ends: how far a line goes on -/
theorem lexR_0 (T : Nat → Nat) : ∀ (r i : Nat), (lexR T i r).1 = 0 → lexR T i r = (0, i + r, 0)
  | 0, i, _ => rfl
  | r + 1, i, h => by
    have e : lexR T i (r + 1) = if T i = 32 then lexR T (i + 1) r else if isLt (T i) = true then (if spN isLt T i (r + 1) ≤ 8 then 1 else 3, i, spN isLt T i (r + 1)) else if isDg (T i) = true then (if spN isDg T i (r + 1) ≤ 3 then 2 else 3, i, spN isDg T i (r + 1)) else (if isSg (T i) = true then T i else 3, i, 1) := rfl
    rw [e] at h ⊢
    by_cases q : T i = 32
    · rw [if_pos q] at h ⊢
      rw [lexR_0 T r (i + 1) h, show i + 1 + r = i + (r + 1) by omega]
    · rw [if_neg q] at h
      exfalso
      by_cases q1 : isLt (T i) = true
      · rw [if_pos q1] at h; dsimp only at h; split at h <;> omega
      · rw [if_neg q1] at h
        by_cases q2 : isDg (T i) = true
        · rw [if_pos q2] at h; dsimp only at h; split at h <;> omega
        · rw [if_neg q2] at h
          dsimp only at h
          by_cases q3 : isSg (T i) = true
          · rw [if_pos q3] at h
            have := of_decide_eq_true q3
            omega
          · rw [if_neg q3] at h; omega
theorem tok_end {T : Nat → Nat} {n k : Nat} (h : (tokS T n k).1 = 0) : (tokS T n (k + 1)).1 = 0 := by
  have e := tokS_P T n k
  have e2 : tokS T n k = (0, tkP T n k + (n - tkP T n k), 0) := by
    rw [e] at h ⊢
    exact lexR_0 T _ _ h
  have le := tkP_le T n k
  show (lexR T (tkE (tokS T n k)) (n - tkE (tokS T n k))).1 = 0
  rw [e2]
  show (lexR T (tkP T n k + (n - tkP T n k) + 0) (n - (tkP T n k + (n - tkP T n k) + 0))).1 = 0
  rw [show n - (tkP T n k + (n - tkP T n k) + 0) = 0 by omega]
  rfl
theorem tok_lt {T : Nat → Nat} {n : Nat} : ∀ k, (tokS T n k).1 ≠ 0 → k ≤ tkP T n k ∧ k < n
  | 0, h => by
    have := (tokS_rng T n 0).2.2.2 h
    exact ⟨Nat.zero_le _, by omega⟩
  | k + 1, h => by
    have h0 : (tokS T n k).1 ≠ 0 := fun z => h (tok_end z)
    have ih := tok_lt k h0
    have a := (tokS_rng T n k).2.2.2 h0
    have b := (tokS_rng T n (k + 1)).2.2.2 h
    have c := (tokS_rng T n (k + 1)).1
    exact ⟨by omega, by omega⟩
theorem smP_adv {T : Nat → Nat} {n : Nat} {nm : Nat → List Nat} {m : Nat → Nat} {per : Nat} : ∀ (r : Nat) (j : Int32) (k nf : Nat) (x : List pFa × Nat), smP T n nm m per r j k nf = .inr x → k < x.2
  | 0, _, _, _, _, h => by cases h
  | r + 1, j, k, nf, x, h => by
    have e0 : smP T n nm m per (r + 1) j k nf = match fcP T n nm m per k nf with
      | .inl f => .inl (f, k)
      | .inr sw => match jnO (tokS T n (k + 1)).1 with
        | none => .inr ([(j, sw.1, sw.2)], k + 1)
        | some j' => match smP T n nm m per r j' (k + 2) (nf + 1) with
          | .inl e => .inl e
          | .inr x => .inr ((j, sw.1, sw.2) :: x.1, x.2) := rfl
    rw [e0] at h
    cases q : fcP T n nm m per k nf with
    | inl f => rw [q] at h; cases h
    | inr sw =>
      rw [q] at h
      dsimp only at h
      cases q2 : jnO (tokS T n (k + 1)).1 with
      | none => rw [q2] at h; cases h; show k < k + 1; omega
      | some j' =>
        rw [q2] at h
        dsimp only at h
        cases q3 : smP T n nm m per r j' (k + 2) (nf + 1) with
        | inl e => rw [q3] at h; cases h
        | inr y =>
          rw [q3] at h
          cases h
          have := smP_adv r j' (k + 2) (nf + 1) y q3
          show k < y.2
          omega
theorem suP_adv {T : Nat → Nat} {n : Nat} {nm : Nat → List Nat} {m : Nat → Nat} {per k nf : Nat} {x : List pFa × Nat} (h : suP T n nm m per k nf = .inr x) : k < x.2 := by
  unfold suP at h
  by_cases q : (tokS T n k).1 = 45
  · rw [if_pos q] at h
    have := smP_adv _ _ _ _ _ h
    omega
  · rw [if_neg q] at h
    exact smP_adv _ _ _ _ _ h
theorem teP_adv {T : Nat → Nat} {n : Nat} {nm : Nat → List Nat} {m : Nat → Nat} {per : Nat} : ∀ (r k nf : Nat) (x : List pOne × Nat), teP T n nm m per r k nf = .inr x → k < x.2
  | 0, _, _, _, h => by cases h
  | r + 1, k, nf, x, h => by
    rw [teP_co] at h
    cases q : onP T n nm m per k nf with
    | inl e => rw [q] at h; cases h
    | inr y =>
      have a : k < y.2 := by
        unfold onP at q
        cases q1 : suP T n nm m per k nf with
        | inl e => rw [q1] at q; cases q
        | inr a =>
          rw [q1] at q
          dsimp only at q
          by_cases u : isRl (tokS T n a.2).1 = true
          · rw [if_pos u] at q
            cases q2 : suP T n nm m per (a.2 + 1) (nf + a.1.length) with
            | inl e => rw [q2] at q; cases q
            | inr b =>
              rw [q2] at q
              cases q
              have p1 := suP_adv q1
              have p2 := suP_adv q2
              show k < b.2
              omega
          · rw [if_neg u] at q; cases q
      rw [q] at h
      dsimp only at h
      cases q3 : teC T n nm m per r y.2 (nf + oLn y.1) with
      | inl e => rw [q3] at h; cases h
      | inr z =>
        rw [q3] at h
        cases h
        show k < z.2
        unfold teC at q3
        by_cases u : isWd T n 7 y.2 = true
        · rw [if_pos u] at q3
          have := teP_adv r _ _ z q3
          omega
        · rw [if_neg u] at q3
          cases q3
          exact a
theorem itP_adv {T : Nat → Nat} {n k : Nat} {x : Int32 × Nat} (h : itP T n k = .inr x) : k < x.2 := by
  unfold itP at h
  by_cases q : (tokS T n k).1 = 45
  · rw [if_pos q] at h
    by_cases u : (tokS T n (k + 1)).1 = 2
    · rw [if_pos u] at h; cases h; show k < k + 2; omega
    · rw [if_neg u] at h; cases h
  · rw [if_neg q] at h
    by_cases u : (tokS T n k).1 = 2
    · rw [if_pos u] at h; cases h; show k < k + 1; omega
    · rw [if_neg u] at h; cases h
theorem liP_adv {T : Nat → Nat} {n : Nat} {σ : pTh} {k : Nat} {x : pTh × Nat} (h : liP T n σ k = .inr x) : k < x.2 := by
  have st : ∀ {s : Nat}, stP T n σ s k = .inr x → k < x.2 := by
    intro s h
    unfold stP at h
    by_cases u : (thS σ).length < 8
    · rw [if_pos u] at h
      by_cases v : (tokS T n (k + 1)).1 = 61
      · rw [if_pos v] at h
        cases q : suP T n (thN σ) (thM σ) 9 (k + 2) (thF σ) with
        | inl e => rw [q] at h; cases h
        | inr y =>
          rw [q] at h
          have a := suP_adv q
          dsimp only at h
          by_cases w : isWd T n 6 y.2 = true
          · rw [if_pos w] at h
            cases q2 : teP T n (thN σ) (thM σ) 9 31 (y.2 + 1) (thF σ + y.1.length) with
            | inl e => rw [q2] at h; cases h
            | inr z =>
              rw [q2] at h
              cases h
              have b := teP_adv _ _ _ _ q2
              show k < z.2
              omega
          · rw [if_neg w] at h
            cases h
            show k < y.2
            omega
      · rw [if_neg v] at h; cases h
    · rw [if_neg u] at h; cases h
  unfold liP at h
  by_cases q : (tokS T n k).1 = 1
  · rw [if_pos q] at h
    cases qk : khO T n k with
    | none =>
      rw [qk] at h
      dsimp only at h
      cases qs : slF (thN σ) (thM σ) (tkW T (tokS T n k)) with
      | none => rw [qs] at h; cases h
      | some s =>
        rw [qs] at h
        dsimp only at h
        by_cases u : s < 3
        · rw [if_pos u] at h; exact st h
        · rw [if_neg u] at h; cases h
    | some i =>
      rw [qk] at h
      dsimp only at h
      by_cases u : i = 4
      · rw [if_pos u] at h
        unfold siP at h
        cases qn : nwP T n σ 4 (k + 1) with
        | some f => rw [qn] at h; cases h
        | none =>
          rw [qn] at h
          dsimp only at h
          by_cases v : (tokS T n (k + 1 + 1)).1 = 61
          · rw [if_pos v] at h
            cases q2 : suP T n (thN σ) (thM σ) 9 (k + 1 + 2) (thF σ) with
            | inl e => rw [q2] at h; cases h
            | inr y =>
              rw [q2] at h
              cases h
              have a := suP_adv q2
              show k < y.2
              omega
          · rw [if_neg v] at h; cases h
      · rw [if_neg u, spP_Q] at h
        cases qn : nwP T n σ i (k + 1) with
        | some f => rw [qn] at h; cases h
        | none =>
          rw [qn] at h
          dsimp only at h
          cases q2 : spQ T n (k + 1 + 1) with
          | inl e => rw [q2] at h; cases h
          | inr y =>
            rw [q2] at h
            cases h
            show k < y.2
            unfold spQ at q2
            cases q3 : itP T n (k + 1 + 1) with
            | inl e => rw [q3] at q2; cases q2
            | inr a =>
              rw [q3] at q2
              have b := itP_adv q3
              dsimp only at q2
              by_cases w : isWd T n 5 a.2 = true
              · rw [if_pos w] at q2
                by_cases w2 : a.1 < -20 ∨ 20 < a.1
                · rw [if_pos w2] at q2; cases q2
                · rw [if_neg w2] at q2
                  cases q4 : itP T n (a.2 + 1) with
                  | inl e => rw [q4] at q2; cases q2
                  | inr c =>
                    rw [q4] at q2
                    have d := itP_adv q4
                    dsimp only at q2
                    by_cases w3 : 20 < c.1 ∨ c.1 < a.1
                    · rw [if_pos w3] at q2; cases q2
                    · rw [if_neg w3] at q2
                      cases q2
                      show k < c.2
                      omega
              · rw [if_neg w] at q2; cases q2
  · rw [if_neg q] at h; cases h
