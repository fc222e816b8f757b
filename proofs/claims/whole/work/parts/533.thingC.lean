/-! the class reads a line, a thing -/
section
variable {h : aH} {T : Nat → Nat} {n e k : Nat} {wh : Int32} {A : Nat → Nat → Int32} {N : Nat → Int64} {F : Nat → Nat} {σ : pTh}
theorem line_at (X : CLw h T n e k wh A N F) (D : cD A N F σ) :
    (∀ x, liP T n σ k = .inl x → ∃ h', s_X6_line 51 h = some (.inl (some (.int 0)), h') ∧ FaL h h' T n x) ∧
    (∀ x, liP T n σ k = .inr x → ∃ h' wh' A' N' F', s_X6_line 51 h = some (.inl (some (.int 1)), h') ∧ CLw h' T n e x.2 wh' A' N' F' ∧ cD A' N' F' x.1 ∧ FrL h h') := by
  have hm : ∀ k, k < 5 → bsN k + thM σ k ≤ 11 := mxK_bs (fun k hk => (D.1 k hk).2)
  unfold liP
  by_cases q : (tokS T n k).1 = 1
  · rw [if_pos q]
    obtain ⟨w1, w2, -⟩ := tok_word q
    have r8 : ∀ s, rsO (tkW T (tokS T n k)) = some s → s < 2147483648 := fun s hs => Nat.lt_of_lt_of_le (rsO_lt hs) (by decide)
    have head : ∀ {y : aO}, (if oI (rsO (tkW T (tokS T n k))) < 0 then (s_X6_line_56 51 h) else (if 5 ≤ oI (rsO (tkW T (tokS T n k))) then (s_X6_line_56 51 h) else ((gI h (.ref 51) 6 2).bind fun x30 => (pF h (.ref 51) 6 2 (.int (x30 + 1))).bind fun h35 => if oI (rsO (tkW T (tokS T n k))) = 4 then (kO h35 51 6 (cI (s_X6_sightLine 51 h35) fun x44 h44 => rtZ x44 h44)) else (kO h35 51 6 (cI (s_X6_spanLine 51 (oI (rsO (tkW T (tokS T n k)))) h35) fun x52 h52 => rtZ x52 h52))))) = y → s_X6_line 51 h = y := by
      intro y hy
      unfold s_X6_line
      rw [X.kO, X.kind]
      simp only [cI]
      rw [if_pos (show jI (tokS T n k).1 = 1 from (X.kd 1 (by decide)).mpr q), X.kO, X.res q]
      exact hy
    cases qk : khO T n k with
    | some i =>
      -- a kind: rsO is that one
      have ri : rsO (tkW T (tokS T n k)) = some i ∧ i < 5 := by
        unfold khO at qk
        rw [if_pos q] at qk
        cases r : rsO (tkW T (tokS T n k)) with
        | none => rw [r] at qk; cases qk
        | some s =>
          rw [r] at qk
          dsimp only at qk
          by_cases u : s < 5
          · rw [if_pos u] at qk; cases qk; exact ⟨rfl, u⟩
          · rw [if_neg u] at qk; cases qk
      obtain ⟨ri, i5⟩ := ri
      obtain ⟨h1, x1, g1, p1, X1, f1, -⟩ := X.adv (by omega)
      have head2 : ∀ {y : aO}, (if jI i = 4 then (kO h1 51 6 (cI (s_X6_sightLine 51 h1) fun x44 h44 => rtZ x44 h44)) else (kO h1 51 6 (cI (s_X6_spanLine 51 (jI i) h1) fun x52 h52 => rtZ x52 h52))) = y → s_X6_line 51 h = y := by
        intro y hy
        refine head ?_
        rw [ri]
        rw [if_neg (show ¬ oI (some i) < 0 from jI_neg (by omega)), if_neg (show ¬ 5 ≤ oI (some i) from fun z => by have := (jI_le (j := 5) (k := i) (by omega) (by omega)).mp z; omega), g1, Option.bind_some, p1, Option.bind_some]
        exact hy
      dsimp only
      by_cases u : i = 4
      · rw [if_pos u]
        obtain ⟨c1, c2⟩ := sightLine_at X1 D
        refine ⟨fun x hx => ?_, fun x hx => ?_⟩
        · obtain ⟨h', a, b⟩ := c1 x hx
          refine ⟨h', head2 ?_, FaL.trans f1 b⟩
          rw [if_pos (show jI i = 4 by rw [u]; rfl), X1.kO, a]
          rfl
        · obtain ⟨h', wh', A', N', F', a, b, c, d⟩ := c2 x hx
          refine ⟨h', wh', A', N', F', head2 ?_, b, c, f1.trans d⟩
          rw [if_pos (show jI i = 4 by rw [u]; rfl), X1.kO, a]
          rfl
      · rw [if_neg u]
        obtain ⟨c1, c2⟩ := spanLine_at X1 D (kd := i) (by omega)
        have n4 : ¬ jI i = 4 := fun z => u ((jI_inj (k := 4) (by omega) (by omega)).mp z)
        refine ⟨fun x hx => ?_, fun x hx => ?_⟩
        · obtain ⟨h', a, b⟩ := c1 x hx
          refine ⟨h', head2 ?_, FaL.trans f1 b⟩
          rw [if_neg n4, X1.kO, a]
          rfl
        · obtain ⟨h', wh', A', N', F', a, b, c, d⟩ := c2 x hx
          refine ⟨h', wh', A', N', F', head2 ?_, b, c, f1.trans d⟩
          rw [if_neg n4, X1.kO, a]
          rfl
    | none =>
      have h56 : ∀ {y : aO}, s_X6_line_56 51 h = y → s_X6_line 51 h = y := by
        intro y hy
        refine head ?_
        cases r : rsO (tkW T (tokS T n k)) with
        | none =>
          rw [if_pos (show oI none < 0 by show (-1 : Int32) < 0; decide)]
          exact hy
        | some s =>
          have s8 := rsO_lt r
          have s5 : 5 ≤ s := by
            unfold khO at qk
            rw [if_pos q, r] at qk
            dsimp only at qk
            by_cases u : s < 5
            · rw [if_pos u] at qk; cases qk
            · omega
          rw [if_neg (show ¬ oI (some s) < 0 from jI_neg (by omega)), if_pos (show 5 ≤ oI (some s) from (jI_le (j := 5) (by omega) (by omega)).mpr s5)]
          exact hy
      have f81 : ∃ h', s_X6_line_81 51 h = some (.inl (some (.int 0)), h') ∧ FaL h h' T n (2, k) := by
        obtain ⟨h', a, b⟩ := X.failL D.2.2.2.2.1 2
        refine ⟨h', ?_, b⟩
        have a' : s_X6_fail 51 2 h = _ := a
        unfold s_X6_line_81
        rw [X.kO, a']
        rfl
      have h56' : ∀ {y : aO}, (if oI (slF (thN σ) (thM σ) (tkW T (tokS T n k))) < 0 then (s_X6_line_81 51 h) else ((ldI .int h (.ref (aE + 1)) 1).bind fun x77 => if oI (slF (thN σ) (thM σ) (tkW T (tokS T n k))) < x77 then (kO h 51 6 (cI (s_X6_stepLine 51 (oI (slF (thN σ) (thM σ) (tkW T (tokS T n k)))) h) fun x89 h89 => rtZ x89 h89)) else (s_X6_line_81 51 h))) = y → s_X6_line 51 h = y := by
        intro y hy
        refine h56 ?_
        unfold s_X6_line_56
        rw [X.g5.1, Option.bind_some, X.kO, X.mean]
        simp only [cJ]
        rw [X.2.kO, w2, slotOf_cl (D.nm X.2) w1]
        exact hy
      dsimp only
      cases qs : slF (thN σ) (thM σ) (tkW T (tokS T n k)) with
      | none =>
        refine ⟨fun z hz => ?_, fun x hx => by cases hx⟩
        cases hz
        obtain ⟨h', a, b⟩ := f81
        refine ⟨h', h56' ?_, b⟩
        rw [qs, if_pos (show oI none < 0 by show (-1 : Int32) < 0; decide)]
        exact a
      | some s =>
        have s11 := slF_lt hm qs
        have b3 : ldI .int h (.ref (aE + 1)) 1 = some 3 := bs_at (k := 1) (by decide)
        have h3 : ∀ {y : aO}, (if jI s < 3 then (kO h 51 6 (cI (s_X6_stepLine 51 (jI s) h) fun x89 h89 => rtZ x89 h89)) else (s_X6_line_81 51 h)) = y → s_X6_line 51 h = y := by
          intro y hy
          refine h56' ?_
          rw [qs, if_neg (show ¬ oI (some s) < 0 from jI_neg (by omega)), b3, Option.bind_some]
          exact hy
        dsimp only
        by_cases u : s < 3
        · rw [if_pos u]
          have sm0 : s < thM σ 0 := by
            obtain ⟨j, j5, j1, j2⟩ := slG_dcl 5 0 s rfl qs
            match j, j5, j1, j2 with
            | 0, _, _, j2 => have j2 : s < 0 + thM σ 0 := j2; omega
            | 1, _, j1, _ => have j1 : 3 ≤ s := j1; omega
            | 2, _, j1, _ => have j1 : 5 ≤ s := j1; omega
            | 3, _, j1, _ => have j1 : 7 ≤ s := j1; omega
            | 4, _, j1, _ => have j1 : 9 ≤ s := j1; omega
          obtain ⟨c1, c2⟩ := stepLine_at X D sm0 (by omega)
          have yes : jI s < 3 := (jI_lt (k := 3) (by omega) (by omega)).mpr u
          refine ⟨fun x hx => ?_, fun x hx => ?_⟩
          · obtain ⟨h', a, b⟩ := c1 x hx
            refine ⟨h', h3 ?_, b⟩
            rw [if_pos yes, X.kO, a]
            rfl
          · obtain ⟨h', wh', A', N', F', a, b, c, d⟩ := c2 x hx
            refine ⟨h', wh', A', N', F', h3 ?_, b, c, d⟩
            rw [if_pos yes, X.kO, a]
            rfl
        · rw [if_neg u]
          refine ⟨fun z hz => ?_, fun x hx => by cases hx⟩
          cases hz
          obtain ⟨h', a, b⟩ := f81
          refine ⟨h', h3 ?_, b⟩
          rw [if_neg (show ¬ jI s < 3 from fun z => u ((jI_lt (k := 3) (by omega) (by omega)).mp z))]
          exact a
  · rw [if_neg q]
    refine ⟨fun z hz => ?_, fun x hx => by cases hx⟩
    cases hz
    obtain ⟨h', a, b⟩ := X.failL D.2.2.2.2.1 1
    refine ⟨h', ?_, b⟩
    have a' : s_X6_fail 51 1 h = _ := a
    unfold s_X6_line
    rw [X.kO, X.kind]
    simp only [cI]
    rw [if_neg (show ¬ jI (tokS T n k).1 = 1 from fun z => q ((X.kd 1 (by decide)).mp z)), X.kO, a']
    rfl
end
