/-! the class: does a thing fit, and the reading of it -/
theorem wdN_cg {A A' : Nat → Nat → Int32} {w : Int32} {s : Nat} (h3 : A' 3 s = A 3 s) (h4 : A' 4 s = A 4 s) : wdN A' w s = wdN A w s := by
  unfold wdN wdt
  rw [h3, h4]
theorem prtN_cg {A A' : Nat → Nat → Int32} {w : Int32} : ∀ (n s : Nat), (∀ x, s ≤ x → x < s + n → A' 3 x = A 3 x ∧ A' 4 x = A 4 x) → prtN A' w s n = prtN A w s n
  | 0, _, _ => rfl
  | n + 1, s, h => by
    show wdN A' w s * prtN A' w (s + 1) n = wdN A w s * prtN A w (s + 1) n
    obtain ⟨a, b⟩ := h s (by omega) (by omega)
    rw [wdN_cg a b, prtN_cg n (s + 1) (fun x h1 h2 => h x (by omega) (by omega))]
theorem prtN_41 {A : Nat → Nat → Int32} : ∀ (n s : Nat), (∀ x, s ≤ x → x < s + n → okR A x) → prtN A 0 s n ≤ 41 ^ n
  | 0, _, _ => Nat.le_refl 1
  | n + 1, s, h => by
    show wdN A 0 s * prtN A 0 (s + 1) n ≤ 41 ^ (n + 1)
    have a := (wdN_R (h s (by omega) (by omega))).2
    have b := prtN_41 n (s + 1) (fun x h1 h2 => h x (by omega) (by omega))
    rw [Nat.pow_succ, Nat.mul_comm (41 ^ n)]
    exact Nat.mul_le_mul a b
section
variable {h : aH} {T : Nat → Nat} {n e k : Nat} {wh : Int32} {A : Nat → Nat → Int32} {N : Nat → Int64} {F : Nat → Nat} {σ : pTh}
theorem cD.okm (D : cD A N F σ) : okm (thM σ) := ⟨(D.1 0 (by decide)).2, (D.1 1 (by decide)).2, (D.1 2 (by decide)).2, (D.1 3 (by decide)).2, (D.1 4 (by decide)).2⟩
theorem cD.oR (D : cD A N F σ) {s : Nat} (h : decl (thM σ) s) : okR A s := by
  obtain ⟨a, b, c, d, e⟩ := D.2.2.1 s h
  unfold okR
  rw [a, b]
  exact ⟨c, d, e⟩
theorem cD.prt (D : cD A N F σ) : prtN A 0 0 (thM σ 0) = prtN (rwL σ) 0 0 (thM σ 0) ∧ prtN A 0 3 (thM σ 1) = prtN (rwL σ) 0 3 (thM σ 1) ∧ prtN A 0 5 (thM σ 2) = prtN (rwL σ) 0 5 (thM σ 2) ∧ prtN A 0 7 (thM σ 3) = prtN (rwL σ) 0 7 (thM σ 3) ∧ prtN A 0 0 (thM σ 0) ≤ 68921 ∧ prtN A 0 3 (thM σ 1) ≤ 1681 ∧ prtN A 0 5 (thM σ 2) * prtN A 0 7 (thM σ 3) ≤ 2825761 := by
  obtain ⟨m0, m1, m2, m3, -⟩ := D.okm
  have key : ∀ s, decl (thM σ) s → A 3 s = rwL σ 3 s ∧ A 4 s = rwL σ 4 s := fun s hs => ⟨(D.2.2.1 s hs).1, (D.2.2.1 s hs).2.1⟩
  have d0 : ∀ x, 0 ≤ x → x < 0 + thM σ 0 → decl (thM σ) x := fun x _ h => Or.inl (by omega)
  have d1 : ∀ x, 3 ≤ x → x < 3 + thM σ 1 → decl (thM σ) x := fun x h1 h2 => Or.inr (Or.inl ⟨h1, h2⟩)
  have d2 : ∀ x, 5 ≤ x → x < 5 + thM σ 2 → decl (thM σ) x := fun x h1 h2 => Or.inr (Or.inr (Or.inl ⟨h1, h2⟩))
  have d3 : ∀ x, 7 ≤ x → x < 7 + thM σ 3 → decl (thM σ) x := fun x h1 h2 => Or.inr (Or.inr (Or.inr ⟨h1, h2⟩))
  have b0 := prtN_41 (A := A) (thM σ 0) 0 (fun x h1 h2 => D.oR (d0 x h1 h2))
  have b1 := prtN_41 (A := A) (thM σ 1) 3 (fun x h1 h2 => D.oR (d1 x h1 h2))
  have b2 := prtN_41 (A := A) (thM σ 2) 5 (fun x h1 h2 => D.oR (d2 x h1 h2))
  have b3 := prtN_41 (A := A) (thM σ 3) 7 (fun x h1 h2 => D.oR (d3 x h1 h2))
  have p : ∀ {a b : Nat}, a ≤ b → 41 ^ a ≤ 41 ^ b := fun h => Nat.pow_le_pow_right (by decide) h
  refine ⟨prtN_cg _ _ (fun x h1 h2 => key x (d0 x h1 h2)), prtN_cg _ _ (fun x h1 h2 => key x (d1 x h1 h2)), prtN_cg _ _ (fun x h1 h2 => key x (d2 x h1 h2)), prtN_cg _ _ (fun x h1 h2 => key x (d3 x h1 h2)), Nat.le_trans b0 (p m0), Nat.le_trans b1 (p m1), ?_⟩
  exact Nat.mul_le_mul (Nat.le_trans b2 (p m2)) (Nat.le_trans b3 (p m3))
theorem fits_at (X : CLw h T n e k wh A N F) (D : cD A N F σ) : ∃ h', s_X2_fits 23 h = some (.inl (some (.int (b01 (fitB σ)))), h') ∧ CLw h' T n e k wh A N (meas A (thM σ) F) ∧ cD A N (meas A (thM σ) F) σ ∧ FrL h h' := by
  have e1 := measure_at X.2 D.okm (fun k hk => (D.1 k hk).1)
  have H1 := X.2.obj (F' := meas A (thM σ) F) rfl rfl
  have X1 : CLw (h.set 23 (mObj 23 (meas A (thM σ) F))) T n e k wh A N (meas A (thM σ) F) := X.to H1 (fun i hi => set_ne (by omega))
  obtain ⟨p0, p1, p2, p3, q0, q1, q2⟩ := D.prt
  obtain ⟨m0, -⟩ := D.okm
  refine ⟨_, ?_, X1, D, ⟨List.length_set .., fun i _ hi => set_ne (by omega)⟩⟩
  have lm : ldI .int (h.set 23 (mObj 23 (meas A (thM σ) F))) (.ref 24) 0 = some (jI (thM σ 0)) := by
    have := H1.ldmn (s := 0) (by decide)
    rw [(D.1 0 (by decide)).1] at this
    exact this
  have g12 : gI (h.set 23 (mObj 23 (meas A (thM σ) F))) (.ref 23) 2 12 = some (jI (prtN A 0 0 (thM σ 0))) := gI_of (ltE (by decide)) H1.2.1 rfl
  have g13 : gI (h.set 23 (mObj 23 (meas A (thM σ) F))) (.ref 23) 2 13 = some (jI (prtN A 0 3 (thM σ 1))) := gI_of (ltE (by decide)) H1.2.1 rfl
  have g14 : gI (h.set 23 (mObj 23 (meas A (thM σ) F))) (.ref 23) 2 14 = some (jI (prtN A 0 5 (thM σ 2) * prtN A 0 7 (thM σ 3))) := gI_of (ltE (by decide)) H1.2.1 rfl
  unfold s_X2_fits
  rw [X.2.kO, e1]
  simp only [cN]
  rw [H1.mn, Option.bind_some, lm, Option.bind_some]
  unfold fitB
  rw [← p0, ← p1, ← p2, ← p3]
  by_cases u0 : 0 < thM σ 0
  · rw [if_neg (show ¬ jI (thM σ 0) ≤ 0 from fun z => by have := (jI_le (k := 0) (by omega) (by omega)).mp z; omega), show decide (0 < thM σ 0) = true from decide_eq_true u0, g12, Option.bind_some]
    by_cases u1 : prtN A 0 0 (thM σ 0) ≤ 400
    · rw [if_neg (show ¬ (400 : Int32) < jI (prtN A 0 0 (thM σ 0)) from fun z => by have := (jI_lt (j := 400) (by omega) (by omega)).mp z; omega), show decide (prtN A 0 0 (thM σ 0) ≤ 400) = true from decide_eq_true u1, g13, Option.bind_some]
      by_cases u2 : prtN A 0 3 (thM σ 1) ≤ 9
      · rw [if_neg (show ¬ (9 : Int32) < jI (prtN A 0 3 (thM σ 1)) from fun z => by have := (jI_lt (j := 9) (by omega) (by omega)).mp z; omega), show decide (prtN A 0 3 (thM σ 1) ≤ 9) = true from decide_eq_true u2, g14, Option.bind_some]
        by_cases u3 : prtN A 0 5 (thM σ 2) * prtN A 0 7 (thM σ 3) ≤ 27
        · rw [if_neg (show ¬ (27 : Int32) < jI (prtN A 0 5 (thM σ 2) * prtN A 0 7 (thM σ 3)) from fun z => by have := (jI_lt (j := 27) (by omega) (by omega)).mp z; omega), show decide (prtN A 0 5 (thM σ 2) * prtN A 0 7 (thM σ 3) ≤ 27) = true from decide_eq_true u3]
          rfl
        · rw [if_pos (show (27 : Int32) < jI (prtN A 0 5 (thM σ 2) * prtN A 0 7 (thM σ 3)) from (jI_lt (j := 27) (by omega) (by omega)).mpr (by omega)), show decide (prtN A 0 5 (thM σ 2) * prtN A 0 7 (thM σ 3) ≤ 27) = false from decide_eq_false u3]
          rfl
      · rw [if_pos (show (9 : Int32) < jI (prtN A 0 3 (thM σ 1)) from (jI_lt (j := 9) (by omega) (by omega)).mpr (by omega)), show decide (prtN A 0 3 (thM σ 1) ≤ 9) = false from decide_eq_false u2]
        rfl
    · rw [if_pos (show (400 : Int32) < jI (prtN A 0 0 (thM σ 0)) from (jI_lt (j := 400) (by omega) (by omega)).mpr (by omega)), show decide (prtN A 0 0 (thM σ 0) ≤ 400) = false from decide_eq_false u1]
      rfl
  · rw [if_pos (show jI (thM σ 0) ≤ 0 from (jI_le (k := 0) (by omega) (by omega)).mpr (by omega)), show decide (0 < thM σ 0) = false from decide_eq_false u0]
    rfl
theorem rt24_go : ∀ (r i f k : Nat) (h : aH) (wh : Int32) (A : Nat → Nat → Int32) (N : Nat → Int64) (F : Nat → Nat) (σ : pTh), i + r = 401 → r < f → CLw h T n e k wh A N F → cD A N F σ →
    (∀ x, thP T n r σ k = .inl x → ∃ h', s_X6_readThing_24 f 51 23 (jI i) h = some (.inl (some (.int 0)), h') ∧ FaL h h' T n x) ∧
    (∀ τ, thP T n r σ k = .inr τ → fitB τ = true ∧ ∃ h' k' wh' A' N' F', s_X6_readThing_24 f 51 23 (jI i) h = some (.inl (some (.int 1)), h') ∧ CLw h' T n e k' wh' A' N' (meas A' (thM τ) F') ∧ cD A' N' (meas A' (thM τ) F') τ ∧ FrL h h')
  | _, _, 0, _, _, _, _, _, _, _, _, hf, _, _ => by omega
  | 0, i, f + 1, k, h, wh, A, N, F, σ, hi, hf, X, D => by
    refine ⟨fun x hx => ?_, fun τ hτ => by cases hτ⟩
    cases hx
    obtain ⟨h', a, b⟩ := X.failL D.2.2.2.2.1 1
    refine ⟨h', ?_, b⟩
    have a' : s_X6_fail 51 1 h = _ := a
    show s_X6_readThing_24_b (s_X6_readThing_24 f) 51 23 (jI i) h = _
    unfold s_X6_readThing_24_b
    rw [if_pos (show (400 : Int32) < jI i from (jI_lt (j := 400) (by omega) (by omega)).mpr (by omega)), X.kO, a']
    rfl
  | r + 1, i, f + 1, k, h, wh, A, N, F, σ, hi, hf, X, D => by
    have n400 : ¬ (400 : Int32) < jI i := fun z => by have := (jI_lt (j := 400) (by omega) (by omega)).mp z; omega
    obtain ⟨c1, c2⟩ := line_at X D
    have e0 : thP T n (r + 1) σ k = match liP T n σ k with
      | .inl e => .inl e
      | .inr x => if (tokS T n x.2).1 = 0 then (if fitB x.1 = true then .inr x.1 else .inl (5, x.2)) else if (tokS T n x.2).1 = 59 then thP T n r x.1 (x.2 + 1) else .inl (1, x.2) := rfl
    rw [e0]
    cases q1 : liP T n σ k with
    | inl x =>
      refine ⟨fun z hz => ?_, fun τ hτ => by cases hτ⟩
      cases hz
      obtain ⟨h', a, b⟩ := c1 x q1
      refine ⟨h', ?_, b⟩
      show s_X6_readThing_24_b (s_X6_readThing_24 f) 51 23 (jI i) h = _
      unfold s_X6_readThing_24_b
      rw [if_neg n400, X.kO, a]
      rfl
    | inr x =>
      obtain ⟨h1, wh1, A1, N1, F1, a1, X1, D1, f1⟩ := c2 x q1
      have head : ∀ {y : aO}, (if jI (tokS T n x.2).1 = 0 then (kO h1 23 2 (cI (s_X2_fits 23 h1) fun x49 h49 => if x49 = 0 then (kO h49 51 6 (cI (s_X6_fail 51 5 h49) fun x57 h57 => if x57 = 0 then (rtZ 0 h57) else (rtZ 1 h57))) else (rtZ 1 h49))) else (kO h1 51 6 (cI (s_X6_pass 51 59 h1) fun x72 h72 => if x72 = 0 then (rtZ 0 h72) else (s_X6_readThing_24 f 51 23 (jI i + 1) h72)))) = y → s_X6_readThing_24 (f + 1) 51 23 (jI i) h = y := by
        intro y hy
        show s_X6_readThing_24_b (s_X6_readThing_24 f) 51 23 (jI i) h = _
        unfold s_X6_readThing_24_b
        rw [if_neg n400, X.kO, a1]
        simp only [cI]
        rw [if_neg (show ¬ (1 : Int32) = 0 by decide), X1.kO, X1.kind]
        exact hy
      have k0 : jI (tokS T n x.2).1 = 0 ↔ (tokS T n x.2).1 = 0 := X1.kd 0 (by decide)
      dsimp only
      by_cases q0 : (tokS T n x.2).1 = 0
      · rw [if_pos q0]
        obtain ⟨h2, a2, X2, D2, f2⟩ := fits_at X1 D1
        by_cases qf : fitB x.1 = true
        · rw [if_pos qf]
          refine ⟨fun z hz => (by cases hz), fun τ hτ => ?_⟩
          cases hτ
          refine ⟨qf, h2, x.2, wh1, A1, N1, F1, head ?_, X2, D2, f1.trans f2⟩
          rw [if_pos (k0.mpr q0), X1.2.kO, a2, qf]
          rfl
        · rw [if_neg qf]
          refine ⟨fun z hz => ?_, fun τ hτ => by cases hτ⟩
          cases hz
          obtain ⟨h', a, b⟩ := X2.failL D2.2.2.2.2.1 5
          refine ⟨h', head ?_, FaL.trans (f1.trans f2) b⟩
          have a' : s_X6_fail 51 5 h2 = _ := a
          rw [if_pos (k0.mpr q0), X1.2.kO, a2, Bool.eq_false_iff.mpr qf]
          simp only [cI]
          rw [if_pos (show b01 false = 0 by decide), X2.kO, a']
          simp only []
          rw [if_pos trivial]
          rfl
      · rw [if_neg q0]
        obtain ⟨p1, p2⟩ := pass_at X1 D1.2.2.2.2.1 (c := 59) (by decide) (by decide)
        by_cases q9 : (tokS T n x.2).1 = 59
        · rw [if_pos q9]
          obtain ⟨h2, a2, X2, f2⟩ := p2 q9
          have a2' : s_X6_pass 51 59 h1 = _ := a2
          obtain ⟨d1, d2⟩ := rt24_go r (i + 1) f (x.2 + 1) h2 wh1 A1 N1 F1 x.1 (by omega) (by omega) X2 D1
          have go : ∀ {y : aO}, s_X6_readThing_24 f 51 23 (jI (i + 1)) h2 = y → s_X6_readThing_24 (f + 1) 51 23 (jI i) h = y := by
            intro y hy
            refine head ?_
            rw [if_neg (fun z => q0 (k0.mp z)), X1.kO, a2']
            simp only [cI]
            rw [if_neg (show ¬ (1 : Int32) = 0 by decide), jI_inc]
            exact hy
          refine ⟨fun z hz => ?_, fun τ hτ => ?_⟩
          · obtain ⟨h', a, b⟩ := d1 z hz
            exact ⟨h', go a, FaL.trans (f1.trans f2) b⟩
          · obtain ⟨ft, h', k', wh', A', N', F', a, b, c, d⟩ := d2 τ hτ
            exact ⟨ft, h', k', wh', A', N', F', go a, b, c, (f1.trans f2).trans d⟩
        · rw [if_neg q9]
          refine ⟨fun z hz => ?_, fun τ hτ => by cases hτ⟩
          cases hz
          obtain ⟨h', a, b⟩ := p1 q9
          refine ⟨h', head ?_, FaL.trans f1 b⟩
          have a' : s_X6_pass 51 59 h1 = _ := a
          rw [if_neg (fun z => q0 (k0.mp z)), X1.kO, a']
          rfl
end
