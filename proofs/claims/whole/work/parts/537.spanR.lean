/-! the reference reads a span -/
def spQ (T : Nat → Nat) (n k : Nat) : (Nat × Nat) ⊕ ((Int32 × Int32) × Nat) := match itP T n k with
  | .inl e => .inl e
  | .inr a => if isWd T n 5 a.2 = true then (if a.1 < -20 ∨ 20 < a.1 then .inl (4, a.2) else (match itP T n (a.2 + 1) with
    | .inl e => .inl e
    | .inr b => if 20 < b.1 ∨ b.1 < a.1 then .inl (4, a.2) else .inr ((a.1, b.1), b.2))) else .inl (1, a.2)
theorem spP_Q (T : Nat → Nat) (n : Nat) (σ : pTh) (kd k : Nat) : spP T n σ kd k = match nwP T n σ kd k with
    | some f => .inl (f, k)
    | none => match spQ T n (k + 1) with
      | .inl e => .inl e
      | .inr y => .inr (((adN σ kd (tkW T (tokS T n k))).1, (adN σ kd (tkW T (tokS T n k))).2, upd (thL σ) (bsN kd + thM σ kd) y.1.1, upd (thH σ) (bsN kd + thM σ kd) y.1.2, thS σ, thG σ, thF σ), y.2) := by
  unfold spP spQ
  cases nwP T n σ kd k with
  | some f => rfl
  | none =>
    dsimp only
    cases itP T n (k + 1) with
    | inl e => rfl
    | inr a =>
      dsimp only
      by_cases q : isWd T n 5 a.2 = true
      · rw [if_pos q, if_pos q]
        by_cases q2 : a.1 < -20 ∨ 20 < a.1
        · rw [if_pos q2, if_pos q2]
        · rw [if_neg q2, if_neg q2]
          cases itP T n (a.2 + 1) with
          | inl e => rfl
          | inr b =>
            dsimp only
            by_cases q3 : 20 < b.1 ∨ b.1 < a.1
            · rw [if_pos q3, if_pos q3]
            · rw [if_neg q3, if_neg q3]
      · rw [if_neg q, if_neg q]
theorem in_at (x a b : Int32) (h : aH) : s_X14_in x a b h = some (.inl (some (.int (b01 (!(decide (x < a) || decide (b < x)))))), h) := by
  unfold s_X14_in
  by_cases u : x < a
  · rw [if_pos u, show decide (x < a) = true from decide_eq_true u]; rfl
  · rw [if_neg u, show decide (x < a) = false from decide_eq_false u]
    by_cases v : b < x
    · rw [if_pos v, show decide (b < x) = true from decide_eq_true v]; rfl
    · rw [if_neg v, show decide (b < x) = false from decide_eq_false v]; rfl
section
variable {h : aH} {S : Nat → Int32} {wd : Int64} {tv fv : Value} {t : Nat} {V : Nat → Nat → Int32} {Z : Nat → Nat → Int64} {T : Nat → Nat} {n k : Nat} {B : Nat → Nat → Int32} {W : Nat → Int64} {G : Nat → Nat}
theorem readSpan_at (X : RPw h S wd tv fv t V Z T n k) (HT : isT h t B W G) {s : Nat} (hs : s < 11) :
    (∀ e, spQ T n k = .inl e → ∃ h', s_X14_readSpan 104 (jI s) h = some (.inr (RX12, 118), h') ∧ FaR h h' S tv fv t V Z T n e) ∧
    (∀ x, spQ T n k = .inr x → -20 ≤ x.1.1.toInt ∧ x.1.1.toInt ≤ x.1.2.toInt ∧ x.1.2.toInt ≤ 20 ∧ ∃ h' S' wd', s_X14_readSpan 104 (jI s) h = some (.inl none, h') ∧ RPw h' S' wd' tv fv t V Z T n x.2 ∧ isT h' t (upd2 (upd2 B 2 (upd (B 2) s x.1.1)) 3 (upd (B 3) s x.1.2)) W G ∧ FrR t h h' ∧ ∀ j, (j < 11 ∨ 15 < j) → S' j = S j) := by
  have qn := okt2_ne X.2.2.2.2.2.2.1
  have ht := HT.1
  have g6 : ∀ {h : aH} {S : Nat → Int32} {wd : Int64} {k : Nat}, RPw h S wd tv fv t V Z T n k → gO h (.ref 104) 14 6 = some t := fun X => gO_of (ltE (by decide)) X.1.1 rfl
  have g1 : ∀ {h : aH} {B : Nat → Nat → Int32}, isT h t B W G → gO h (.ref t) 13 1 = some (t + 2) ∧ gO h (.ref t) 13 2 = some (t + 3) := fun HT => ⟨gO_of (by omega) HT.2.1 rfl, gO_of (by omega) HT.2.1 rfl⟩
  obtain ⟨c1, c2⟩ := readInt_at X HT
  unfold spQ
  cases q1 : itP T n k with
  | inl e =>
    refine ⟨fun z hz => ?_, fun x hx => by cases hx⟩
    cases hz
    obtain ⟨h', a, b⟩ := c1 e q1
    refine ⟨h', ?_, b⟩
    unfold s_X14_readSpan
    rw [g6 X, Option.bind_some, (g1 HT).1, Option.bind_some, X.kO, a]
    rfl
  | inr a =>
    obtain ⟨h1, S1, wd1, k1, e1, X1, ka, t1, l1, o1, s1⟩ := c2 a q1
    have T1 := HT.of (h' := h1) (fun i i1 i2 => o1 i (by omega))
    obtain ⟨h2, e2, T2, l2, o2⟩ := T1.row (k := 2) (j := s) (x := a.1) (by decide) (by decide) (by decide) hs
    have X2 := X1.th (h' := h2) (fun i hi => o2 i (by omega))
    obtain ⟨h3, S3, wd3, e3, X3, l3, o3, s3⟩ := X2.next (by omega)
    rw [← ka] at X3
    have T3 := T2.of (h' := h3) (fun i i1 i2 => o3 i (by omega))
    have f3 : FrR t h h3 := ⟨by rw [l3, l2, l1], fun i i1 _ i3 => by rw [o3 i i1, o2 i (by omega), o1 i i1]⟩
    have kp3 : ∀ j, (j < 11 ∨ 15 < j) → S3 j = S j := fun j hj => (s3 j hj).trans (s1 j hj)
    have kp3' : ∀ j, (j < 11 ∨ 17 < j) → S3 j = S j := fun j hj => kp3 j (by omega)
    have iw : s_X14_isWord 104 (aE + 10 + 5) h3 = _ := isWd_R X3 (i := 5) (by decide)
    have lo3 : ldI .int h3 (.ref (t + 2)) (jI s) = some a.1 := by
      rw [T3.ld (k := 2) (by decide) (by decide) (by decide) hs, upd2_eq, upd_eq]
    have head : ∀ {y : aO}, (if b01 (isWd T n 5 a.2) = 0 then (kO h3 104 14 (cR (s_X14_stop 104 1 h3) fun x28 h28 => kO h28 x28 12 (some (.inr (RX12, x28), h28)))) else ((gI h3 (.ref 104) 14 13).bind fun x33 => (gO h3 (.ref 104) 14 6).bind fun x38 => (gO h3 (.ref x38) 13 1).bind fun x41 => (ldI .int h3 (.ref x41) (jI s)).bind fun x45 => cI (s_X14_in x45 (-20) 20 h3) fun x50 h50 => if x50 = 0 then (kO h50 104 14 (cR (s_X14_stop 104 4 h50) fun x58 h58 => kO h58 x58 12 (some (.inr (RX12, x58), h58)))) else (kO h50 104 14 (cN (s_X14_next 104 h50) fun h63 => (gO h63 (.ref 104) 14 6).bind fun x67 => (gO h63 (.ref x67) 13 2).bind fun x70 => kO h63 104 14 (xI (s_X14_readInt 104 h63) (fun x75 h75 => (stI h75 (.ref x70) (jI s) x75).bind fun h78 => (gO h78 (.ref 104) 14 6).bind fun x80 => (gO h78 (.ref x80) 13 2).bind fun x83 => (ldI .int h78 (.ref x83) (jI s)).bind fun x87 => (gO h78 (.ref 104) 14 6).bind fun x89 => (gO h78 (.ref x89) 13 1).bind fun x92 => (ldI .int h78 (.ref x92) (jI s)).bind fun x96 => cI (s_X14_in x87 x96 20 h78) fun x99 h99 => if x99 = 0 then (kO h99 104 14 (cR (s_X14_stopAt 104 4 x33 h99) fun x108 h108 => kO h108 x108 12 (some (.inr (RX12, x108), h108)))) else (kO h99 104 14 (cN (s_X14_next 104 h99) fun h113 => some (.inl none, h113)))) (fun E i h => some (.inr (E, i), h))))))) = y → s_X14_readSpan 104 (jI s) h = y := by
      intro y hy
      unfold s_X14_readSpan
      rw [g6 X, Option.bind_some, (g1 HT).1, Option.bind_some, X.kO, e1]
      simp only [xI]
      rw [e2, Option.bind_some, X2.kO, e3]
      simp only [cN]
      rw [X3.kO, iw]
      exact hy
    dsimp only
    by_cases qw : isWd T n 5 a.2 = true
    · rw [if_pos qw]
      have tw := (of_decide_eq_true qw).1
      have head2 : ∀ {y : aO}, (if b01 (!(decide (a.1 < -20) || decide (20 < a.1))) = 0 then (kO h3 104 14 (cR (s_X14_stop 104 4 h3) fun x58 h58 => kO h58 x58 12 (some (.inr (RX12, x58), h58)))) else (kO h3 104 14 (cN (s_X14_next 104 h3) fun h63 => (gO h63 (.ref 104) 14 6).bind fun x67 => (gO h63 (.ref x67) 13 2).bind fun x70 => kO h63 104 14 (xI (s_X14_readInt 104 h63) (fun x75 h75 => (stI h75 (.ref x70) (jI s) x75).bind fun h78 => (gO h78 (.ref 104) 14 6).bind fun x80 => (gO h78 (.ref x80) 13 2).bind fun x83 => (ldI .int h78 (.ref x83) (jI s)).bind fun x87 => (gO h78 (.ref 104) 14 6).bind fun x89 => (gO h78 (.ref x89) 13 1).bind fun x92 => (ldI .int h78 (.ref x92) (jI s)).bind fun x96 => cI (s_X14_in x87 x96 20 h78) fun x99 h99 => if x99 = 0 then (kO h99 104 14 (cR (s_X14_stopAt 104 4 (jI (tokS T n a.2).2.1) h99) fun x108 h108 => kO h108 x108 12 (some (.inr (RX12, x108), h108)))) else (kO h99 104 14 (cN (s_X14_next 104 h99) fun h113 => some (.inl none, h113)))) (fun E i h => some (.inr (E, i), h)))))) = y → s_X14_readSpan 104 (jI s) h = y := by
        intro y hy
        refine head ?_
        rw [qw, if_neg (show ¬ b01 true = 0 by decide), X3.1.gS (k := 13) rfl, Option.bind_some, X3.2.2.2.2.2.1.1, g6 X3, Option.bind_some, (g1 T3).1, Option.bind_some, lo3, Option.bind_some, in_at]
        exact hy
      by_cases qa : a.1 < -20 ∨ 20 < a.1
      · rw [if_pos qa]
        refine ⟨fun z hz => ?_, fun x hx => by cases hx⟩
        cases hz
        obtain ⟨h', u, v⟩ := throw_at X3 T3 4
        refine ⟨h', head2 ?_, FaR.trans f3 kp3' v⟩
        have : (!(decide (a.1 < -20) || decide (20 < a.1))) = false := by
          rcases qa with z | z
          · rw [show decide (a.1 < -20) = true from decide_eq_true z]; rfl
          · rw [show decide (20 < a.1) = true from decide_eq_true z, Bool.or_true]; rfl
        rw [this, if_pos (show b01 false = 0 by decide)]
        exact u
      · rw [if_neg qa]
        have qa1 : ¬ a.1 < -20 := fun z => qa (Or.inl z)
        have qa2 : ¬ 20 < a.1 := fun z => qa (Or.inr z)
        have ok1 : (!(decide (a.1 < -20) || decide (20 < a.1))) = true := by rw [show decide (a.1 < -20) = false from decide_eq_false qa1, show decide (20 < a.1) = false from decide_eq_false qa2]; rfl
        obtain ⟨h4, S4, wd4, e4, X4, l4, o4, s4⟩ := X3.next (by omega)
        have T4 := T3.of (h' := h4) (fun i i1 i2 => o4 i (by omega))
        have f4 : FrR t h h4 := f3.trans ⟨l4, fun i i1 _ _ => o4 i i1⟩
        have kp4 : ∀ j, (j < 11 ∨ 17 < j) → S4 j = S j := fun j hj => (s4 j (by omega)).trans (kp3' j hj)
        obtain ⟨d1, d2⟩ := readInt_at X4 T4
        have head3 : ∀ {y : aO}, (xI (s_X14_readInt 104 h4) (fun x75 h75 => (stI h75 (.ref (t + 3)) (jI s) x75).bind fun h78 => (gO h78 (.ref 104) 14 6).bind fun x80 => (gO h78 (.ref x80) 13 2).bind fun x83 => (ldI .int h78 (.ref x83) (jI s)).bind fun x87 => (gO h78 (.ref 104) 14 6).bind fun x89 => (gO h78 (.ref x89) 13 1).bind fun x92 => (ldI .int h78 (.ref x92) (jI s)).bind fun x96 => cI (s_X14_in x87 x96 20 h78) fun x99 h99 => if x99 = 0 then (kO h99 104 14 (cR (s_X14_stopAt 104 4 (jI (tokS T n a.2).2.1) h99) fun x108 h108 => kO h108 x108 12 (some (.inr (RX12, x108), h108)))) else (kO h99 104 14 (cN (s_X14_next 104 h99) fun h113 => some (.inl none, h113)))) (fun E i h => some (.inr (E, i), h))) = y → s_X14_readSpan 104 (jI s) h = y := by
          intro y hy
          refine head2 ?_
          rw [ok1, if_neg (show ¬ b01 true = 0 by decide), X3.kO, e4]
          simp only [cN]
          rw [g6 X4, Option.bind_some, (g1 T4).2, Option.bind_some, X4.kO]
          exact hy
        cases q2 : itP T n (a.2 + 1) with
        | inl e =>
          refine ⟨fun z hz => ?_, fun x hx => by cases hx⟩
          cases hz
          obtain ⟨h', u, v⟩ := d1 e q2
          exact ⟨h', head3 (by rw [u]; rfl), FaR.trans f4 kp4 v⟩
        | inr b =>
          obtain ⟨h5, S5, wd5, k5, e5, X5, kb, t5, l5, o5, s5⟩ := d2 b q2
          have T5 := T4.of (h' := h5) (fun i i1 i2 => o5 i (by omega))
          obtain ⟨h6, e6, T6, l6, o6⟩ := T5.row (k := 3) (j := s) (x := b.1) (by decide) (by decide) (by decide) hs
          have X6 := X5.th (h' := h6) (fun i hi => o6 i (by omega))
          rw [upd2_ne (show (3 : Nat) ≠ 2 by decide)] at T6
          have f6 : FrR t h h6 := f4.trans ⟨by rw [l6, l5], fun i i1 _ i3 => by rw [o6 i (by omega), o5 i i1]⟩
          have kp6 : ∀ j, (j < 11 ∨ 17 < j) → S5 j = S j := fun j hj => (s5 j (by omega)).trans (kp4 j hj)
          have hi6 : ldI .int h6 (.ref (t + 3)) (jI s) = some b.1 := by
            rw [T6.ld (k := 3) (by decide) (by decide) (by decide) hs, upd2_eq, upd_eq]
          have lo6 : ldI .int h6 (.ref (t + 2)) (jI s) = some a.1 := by
            rw [T6.ld (k := 2) (by decide) (by decide) (by decide) hs, upd2_ne (by decide), upd2_eq, upd_eq]
          have head4 : ∀ {y : aO}, (if b01 (!(decide (b.1 < a.1) || decide (20 < b.1))) = 0 then (kO h6 104 14 (cR (s_X14_stopAt 104 4 (jI (tokS T n a.2).2.1) h6) fun x108 h108 => kO h108 x108 12 (some (.inr (RX12, x108), h108)))) else (kO h6 104 14 (cN (s_X14_next 104 h6) fun h113 => some (.inl none, h113)))) = y → s_X14_readSpan 104 (jI s) h = y := by
            intro y hy
            refine head3 ?_
            rw [e5]
            simp only [xI]
            rw [e6, Option.bind_some, g6 X6, Option.bind_some, (g1 T6).2, Option.bind_some, hi6, Option.bind_some, Option.bind_some, (g1 T6).1, Option.bind_some, lo6, Option.bind_some, in_at]
            exact hy
          dsimp only
          by_cases qb : 20 < b.1 ∨ b.1 < a.1
          · rw [if_pos qb]
            refine ⟨fun z hz => ?_, fun x hx => by cases hx⟩
            cases hz
            obtain ⟨h', u, v⟩ := throwA_at X6 T6 4 a.2
            refine ⟨h', head4 ?_, FaR.trans f6 kp6 v⟩
            have : (!(decide (b.1 < a.1) || decide (20 < b.1))) = false := by
              rcases qb with z | z
              · rw [show decide (20 < b.1) = true from decide_eq_true z, Bool.or_true]; rfl
              · rw [show decide (b.1 < a.1) = true from decide_eq_true z]; rfl
            rw [this, if_pos (show b01 false = 0 by decide)]
            exact u
          · rw [if_neg qb]
            refine ⟨fun z hz => (by cases hz), fun x hx => ?_⟩
            cases hx
            have qb1 : ¬ 20 < b.1 := fun z => qb (Or.inl z)
            have qb2 : ¬ b.1 < a.1 := fun z => qb (Or.inr z)
            have ok2 : (!(decide (b.1 < a.1) || decide (20 < b.1))) = true := by rw [show decide (b.1 < a.1) = false from decide_eq_false qb2, show decide (20 < b.1) = false from decide_eq_false qb1]; rfl
            obtain ⟨h7, S7, wd7, e7, X7, l7, o7, s7⟩ := X6.next (by omega)
            rw [← kb] at X7
            have c1' : (-20 : Int32).toInt = -20 := by decide
            have c2' : (20 : Int32).toInt = 20 := by decide
            have z1 : ¬ a.1.toInt < (-20 : Int32).toInt := fun z => qa1 (Int32.lt_iff_toInt_lt.mpr z)
            have z2 : ¬ b.1.toInt < a.1.toInt := fun z => qb2 (Int32.lt_iff_toInt_lt.mpr z)
            have z3 : ¬ (20 : Int32).toInt < b.1.toInt := fun z => qb1 (Int32.lt_iff_toInt_lt.mpr z)
            refine ⟨by dsimp only; omega, by dsimp only; omega, by dsimp only; omega, h7, S7, wd7, head4 ?_, X7, T6.of (fun i i1 i2 => o7 i (by omega)), f6.trans ⟨l7, fun i i1 _ _ => o7 i i1⟩, fun j hj => by rw [s7 j hj, s5 j hj, s4 j hj, kp3 j hj]⟩
            rw [ok2, if_neg (show ¬ b01 true = 0 by decide), X6.kO, e7]
            rfl
    · rw [if_neg qw]
      refine ⟨fun z hz => ?_, fun x hx => by cases hx⟩
      cases hz
      obtain ⟨h', u, v⟩ := throw_at X3 T3 1
      refine ⟨h', head ?_, FaR.trans f3 kp3' v⟩
      rw [Bool.eq_false_iff.mpr qw, if_pos (show b01 false = 0 by decide)]
      exact u
end
