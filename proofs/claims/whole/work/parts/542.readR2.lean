/-! the reference reads a thing -/
section
variable {h : aH} {S : Nat → Int32} {wd : Int64} {tv fv : Value} {t : Nat} {V : Nat → Nat → Int32} {Z : Nat → Nat → Int64} {T : Nat → Nat} {n k : Nat} {B : Nat → Nat → Int32} {W : Nat → Int64} {G : Nat → Nat} {σ : pTh}
theorem pr5_step (HT : isT h t B W G) (D : rD B W G σ) {kd to f : Nat} {p : Int32} (hkd : kd < 4) (ht : kd ≤ to) (ht4 : to < 4) : s_X14_product_5 (f + 1) t (jI to) p (jI kd) h = s_X14_product_5 f t (jI to) (p * jI (prtN (rwL σ) 0 (bsN kd) (thM σ kd))) (jI (kd + 1)) h := by
  have mk := (D.1 kd (by omega)).2
  have mx3 : mxK kd ≤ 3 := by unfold mxK; split <;> omega
  have e0 : s_X14_product_5 (f + 1) = s_X14_product_5_b (s_X14_product_5 f) := rfl
  rw [e0]
  unfold s_X14_product_5_b
  rw [if_neg (fun z => by have := (jI_lt (by omega) (by omega)).mp z; omega)]
  have e := pr14_go HT D (to := to) hkd (k5 := s_X14_product_5 f) (thM σ kd) 0 FU p (by omega) (by show thM σ kd < 1000000; omega)
  rw [Nat.add_zero] at e
  exact e
theorem pr5_end {kd to f : Nat} {p : Int32} (hk : kd < 10) (ht : to < kd) : s_X14_product_5 (f + 1) t (jI to) p (jI kd) h = some (.inl (some (.int p)), h) := by
  have e0 : s_X14_product_5 (f + 1) = s_X14_product_5_b (s_X14_product_5 f) := rfl
  rw [e0]
  unfold s_X14_product_5_b
  rw [if_pos ((jI_lt (by omega) (by omega)).mpr ht)]
theorem FU_3 : ∃ f, FU = f + 1 + 1 + 1 := ⟨999997, rfl⟩
theorem product1_at (HT : isT h t B W G) (D : rD B W G σ) {kd : Nat} (hkd : kd < 4) : s_X14_product t (jI kd) (jI kd) h = some (.inl (some (.int (jI (prtN (rwL σ) 0 (bsN kd) (thM σ kd))))), h) := by
  unfold s_X14_product
  obtain ⟨f, ef⟩ := FU_3
  rw [ef, pr5_step HT D hkd (Nat.le_refl _) hkd, pr5_end (by omega) (by omega), Int32.one_mul]
theorem product2_at (HT : isT h t B W G) (D : rD B W G σ) : s_X14_product t 2 3 h = some (.inl (some (.int (jI (prtN (rwL σ) 0 5 (thM σ 2) * prtN (rwL σ) 0 7 (thM σ 3))))), h) := by
  have key : s_X14_product t (jI 2) (jI 3) h = some (.inl (some (.int (jI (prtN (rwL σ) 0 5 (thM σ 2) * prtN (rwL σ) 0 7 (thM σ 3))))), h) := by
    unfold s_X14_product
    obtain ⟨f, ef⟩ := FU_3
    rw [ef, pr5_step HT D (kd := 2) (to := 3) (by decide) (by decide) (by decide), pr5_step HT D (kd := 3) (to := 3) (by decide) (by decide) (by decide), pr5_end (by decide) (by decide), Int32.one_mul, jI_mul]
    rfl
  exact key
theorem rD.prt (D : rD B W G σ) : prtN (rwL σ) 0 0 (thM σ 0) ≤ 68921 ∧ prtN (rwL σ) 0 3 (thM σ 1) ≤ 1681 ∧ prtN (rwL σ) 0 5 (thM σ 2) * prtN (rwL σ) 0 7 (thM σ 3) ≤ 2825761 := by
  have m0 : thM σ 0 ≤ 3 := (D.1 0 (by decide)).2
  have m1 : thM σ 1 ≤ 2 := (D.1 1 (by decide)).2
  have m2 : thM σ 2 ≤ 2 := (D.1 2 (by decide)).2
  have m3 : thM σ 3 ≤ 2 := (D.1 3 (by decide)).2
  have key : ∀ s, decl (thM σ) s → okR (rwL σ) s := fun s hs => ⟨(D.2.2.1 s hs).2.2.1, (D.2.2.1 s hs).2.2.2.1, (D.2.2.1 s hs).2.2.2.2⟩
  have b0 := prtN_41 (A := rwL σ) (thM σ 0) 0 (fun x h1 h2 => key x (Or.inl (by omega)))
  have b1 := prtN_41 (A := rwL σ) (thM σ 1) 3 (fun x h1 h2 => key x (Or.inr (Or.inl ⟨h1, h2⟩)))
  have b2 := prtN_41 (A := rwL σ) (thM σ 2) 5 (fun x h1 h2 => key x (Or.inr (Or.inr (Or.inl ⟨h1, h2⟩))))
  have b3 := prtN_41 (A := rwL σ) (thM σ 3) 7 (fun x h1 h2 => key x (Or.inr (Or.inr (Or.inr ⟨h1, h2⟩))))
  have p : ∀ {a b : Nat}, a ≤ b → 41 ^ a ≤ 41 ^ b := fun h => Nat.pow_le_pow_right (by decide) h
  exact ⟨Nat.le_trans b0 (p m0), Nat.le_trans b1 (p m1), Nat.mul_le_mul (Nat.le_trans b2 (p m2)) (Nat.le_trans b3 (p m3))⟩
/-- the end of the text is reached -/
theorem rt0_at (X : RSx h S wd tv fv t V Z T n k B W G (thF σ)) (D : rD B W G σ) (f : Nat) (n9 : (tokS T n k).1 ≠ 59) :
    (∀ e, (if (tokS T n k).1 = 0 then (if fitB σ = true then .inr σ else .inl (5, k)) else .inl (1, k) : (Nat × Nat) ⊕ pTh) = .inl e → ∃ h', s_X14_readThing_2 (f + 1) 104 0 h = some (.inr (RX12, 118), h') ∧ FaR h h' S tv fv t V Z T n e) ∧
    (∀ τ, (if (tokS T n k).1 = 0 then (if fitB σ = true then .inr σ else .inl (5, k)) else .inl (1, k) : (Nat × Nat) ⊕ pTh) = .inr τ → τ = σ ∧ fitB σ = true ∧ s_X14_readThing_2 (f + 1) 104 0 h = some (.inl none, h)) := by
  have X0 := X.1
  have HT := X.2.1
  have ht := HT.1
  have g6 : gO h (.ref 104) 14 6 = some t := gO_of (ltE (by decide)) X0.1.1 rfl
  have g0 : gO h (.ref t) 13 0 = some (t + 1) := gO_of (by omega) HT.2.1 rfl
  have lm : ldI .int h (.ref (t + 1)) 0 = some (jI (thM σ 0)) := by
    have := HT.ld (k := 1) (j := 0) (by decide) (by decide) (by decide) (by decide)
    rw [(D.1 0 (by decide)).1] at this
    exact this
  have m0 : thM σ 0 ≤ 3 := (D.1 0 (by decide)).2
  obtain ⟨p0, p1, p2⟩ := D.prt
  have un : ∀ {y : aO}, (if srt (tokS T n k).1 = 1 then ((gO h (.ref 104) 14 6).bind fun x43 => (gO h (.ref x43) 13 0).bind fun x46 => (ldI .int h (.ref x46) 0).bind fun x50 => if x50 = 0 then (s_X14_readThing_97 104 h) else ((gO h (.ref 104) 14 6).bind fun x55 => cI (s_X14_product x55 0 0 h) fun x60 h60 => if 400 < x60 then (s_X14_readThing_97 104 h60) else ((gO h60 (.ref 104) 14 6).bind fun x70 => cI (s_X14_product x70 1 1 h60) fun x75 h75 => if 9 < x75 then (s_X14_readThing_97 104 h75) else ((gO h75 (.ref 104) 14 6).bind fun x84 => cI (s_X14_product x84 2 3 h75) fun x89 h89 => if x89 ≤ 27 then (some (.inl none, h89)) else (s_X14_readThing_97 104 h89))))) else (kO h 104 14 (cR (s_X14_stop 104 1 h) fun x38 h38 => kO h38 x38 12 (some (.inr (RX12, x38), h38))))) = y → s_X14_readThing_2 (f + 1) 104 0 h = y := by
    intro y hy
    have e : s_X14_readThing_2 (f + 1) = s_X14_readThing_2_b (s_X14_readThing_2 f) := rfl
    rw [e]
    unfold s_X14_readThing_2_b
    rw [if_pos rfl, X0.s12, Option.bind_some]
    exact hy
  have f97 : ∃ h', s_X14_readThing_97 104 h = some (.inr (RX12, 118), h') ∧ FaR h h' S tv fv t V Z T n (5, k) := throw_at X0 HT 5
  by_cases q : (tokS T n k).1 = 0
  · rw [if_pos q]
    have pr0 : s_X14_product t 0 0 h = _ := product1_at HT D (kd := 0) (by decide)
    have pr1 : s_X14_product t 1 1 h = _ := product1_at HT D (kd := 1) (by decide)
    have pr2 := product2_at HT D
    have b0 : bsN 0 = 0 := rfl
    have b1 : bsN 1 = 3 := rfl
    rw [b0] at pr0
    rw [b1] at pr1
    have un2 : ∀ {y : aO}, (if jI (thM σ 0) = 0 then (s_X14_readThing_97 104 h) else (if 400 < jI (prtN (rwL σ) 0 0 (thM σ 0)) then (s_X14_readThing_97 104 h) else (if 9 < jI (prtN (rwL σ) 0 3 (thM σ 1)) then (s_X14_readThing_97 104 h) else (if jI (prtN (rwL σ) 0 5 (thM σ 2) * prtN (rwL σ) 0 7 (thM σ 3)) ≤ 27 then (some (.inl none, h)) else (s_X14_readThing_97 104 h))))) = y → s_X14_readThing_2 (f + 1) 104 0 h = y := by
      intro y hy
      refine un ?_
      rw [if_pos (srt_1.mpr q), g6, Option.bind_some, g0, Option.bind_some, lm, Option.bind_some, Option.bind_some, cI_of pr0, g6, Option.bind_some, cI_of pr1, g6, Option.bind_some, cI_of pr2]
      exact hy
    have key : (fitB σ = true → s_X14_readThing_2 (f + 1) 104 0 h = some (.inl none, h)) ∧ (fitB σ = false → s_X14_readThing_2 (f + 1) 104 0 h = s_X14_readThing_97 104 h) := by
      unfold fitB
      by_cases u0 : 0 < thM σ 0
      · have a0 : ¬ jI (thM σ 0) = 0 := fun z => by have := (jI_inj (k := 0) (by omega) (by omega)).mp z; omega
        rw [show decide (0 < thM σ 0) = true from decide_eq_true u0, Bool.true_and]
        by_cases u1 : prtN (rwL σ) 0 0 (thM σ 0) ≤ 400
        · have a1 : ¬ (400 : Int32) < jI (prtN (rwL σ) 0 0 (thM σ 0)) := fun z => by have := (jI_lt (j := 400) (by omega) (by omega)).mp z; omega
          rw [show decide (prtN (rwL σ) 0 0 (thM σ 0) ≤ 400) = true from decide_eq_true u1, Bool.true_and]
          by_cases u2 : prtN (rwL σ) 0 3 (thM σ 1) ≤ 9
          · have a2 : ¬ (9 : Int32) < jI (prtN (rwL σ) 0 3 (thM σ 1)) := fun z => by have := (jI_lt (j := 9) (by omega) (by omega)).mp z; omega
            rw [show decide (prtN (rwL σ) 0 3 (thM σ 1) ≤ 9) = true from decide_eq_true u2, Bool.true_and]
            by_cases u3 : prtN (rwL σ) 0 5 (thM σ 2) * prtN (rwL σ) 0 7 (thM σ 3) ≤ 27
            · have a3 : jI (prtN (rwL σ) 0 5 (thM σ 2) * prtN (rwL σ) 0 7 (thM σ 3)) ≤ 27 := (jI_le (k := 27) (by omega) (by omega)).mpr u3
              rw [show decide (prtN (rwL σ) 0 5 (thM σ 2) * prtN (rwL σ) 0 7 (thM σ 3) ≤ 27) = true from decide_eq_true u3]
              exact ⟨fun _ => un2 (by rw [if_neg a0, if_neg a1, if_neg a2, if_pos a3]), fun z => by cases z⟩
            · have a3 : ¬ jI (prtN (rwL σ) 0 5 (thM σ 2) * prtN (rwL σ) 0 7 (thM σ 3)) ≤ 27 := fun z => u3 ((jI_le (k := 27) (by omega) (by omega)).mp z)
              rw [show decide (prtN (rwL σ) 0 5 (thM σ 2) * prtN (rwL σ) 0 7 (thM σ 3) ≤ 27) = false from decide_eq_false u3]
              exact ⟨fun z => (by cases z), fun _ => un2 (by rw [if_neg a0, if_neg a1, if_neg a2, if_neg a3])⟩
          · have a2 : (9 : Int32) < jI (prtN (rwL σ) 0 3 (thM σ 1)) := (jI_lt (j := 9) (by omega) (by omega)).mpr (by omega)
            rw [show decide (prtN (rwL σ) 0 3 (thM σ 1) ≤ 9) = false from decide_eq_false u2, Bool.false_and]
            exact ⟨fun z => (by cases z), fun _ => un2 (by rw [if_neg a0, if_neg a1, if_pos a2])⟩
        · have a1 : (400 : Int32) < jI (prtN (rwL σ) 0 0 (thM σ 0)) := (jI_lt (j := 400) (by omega) (by omega)).mpr (by omega)
          rw [show decide (prtN (rwL σ) 0 0 (thM σ 0) ≤ 400) = false from decide_eq_false u1, Bool.false_and]
          exact ⟨fun z => (by cases z), fun _ => un2 (by rw [if_neg a0, if_pos a1])⟩
      · have a0 : jI (thM σ 0) = 0 := by rw [show thM σ 0 = 0 by omega]; rfl
        rw [show decide (0 < thM σ 0) = false from decide_eq_false u0, Bool.false_and]
        exact ⟨fun z => (by cases z), fun _ => un2 (by rw [if_pos a0])⟩
    by_cases qf : fitB σ = true
    · rw [if_pos qf]
      refine ⟨fun e he => (by cases he), fun τ hτ => ?_⟩
      cases hτ
      exact ⟨rfl, qf, key.1 qf⟩
    · rw [if_neg qf]
      refine ⟨fun e he => ?_, fun τ hτ => by cases hτ⟩
      cases he
      obtain ⟨h', a, b⟩ := f97
      exact ⟨h', (key.2 (Bool.eq_false_iff.mpr qf)).trans a, b⟩
  · rw [if_neg q]
    refine ⟨fun e he => ?_, fun τ hτ => by cases hτ⟩
    cases he
    obtain ⟨h', a, b⟩ := throw_at X0 HT 1
    refine ⟨h', un ?_, b⟩
    rw [if_neg (fun z => q (srt_1.mp z))]
    exact a
theorem rtR_go : ∀ (r f k : Nat) (h : aH) (S : Nat → Int32) (wd : Int64) (B : Nat → Nat → Int32) (W : Nat → Int64) (G : Nat → Nat) (σ : pTh), r + 1 < f → 401 ≤ r + k → (k = 0 ∨ (tokS T n (k - 1)).1 ≠ 0) → RSx h S wd tv fv t V Z T n k B W G (thF σ) → rD B W G σ →
    (∀ e, thP T n r σ k = .inl e → ∃ h', s_X14_readThing_2 f 104 1 h = some (.inr (RX12, 118), h') ∧ FaR h h' S tv fv t V Z T n e) ∧
    (∀ τ, thP T n r σ k = .inr τ → fitB τ = true ∧ ∃ h' S' wd' B' W' G' k', s_X14_readThing_2 f 104 1 h = some (.inl none, h') ∧ RSx h' S' wd' tv fv t V Z T n k' B' W' G' (thF τ) ∧ rD B' W' G' τ ∧ FrR t h h' ∧ ∀ j, (j < 11 ∨ 17 < j) → S' j = S j)
  | _, 0, _, _, _, _, _, _, _, _, hf, _, _, _, _ => by omega
  | 0, f + 1, k, h, S, wd, B, W, G, σ, hf, hr, hk, X, D => by
    exfalso
    have n4 := X.1.2.2.2.1
    rcases hk with z | z
    · omega
    · have := (tok_lt _ z).2
      omega
  | r + 1, f + 1, k, h, S, wd, B, W, G, σ, hf, hr, hk, X, D => by
    have X0 := X.1
    have qn := okt2_ne X0.2.2.2.2.2.2.1
    obtain ⟨c1, c2⟩ := readLine_at X D
    have head : ∀ {y : aO}, (xN (s_X14_readLine 104 h) (fun h7 => kO h7 104 14 (cI (s_X14_is 104 59 h7) fun x13 h13 => if x13 = 0 then (s_X14_readThing_2 f 104 x13 h13) else (kO h13 104 14 (cN (s_X14_next 104 h13) fun h22 => s_X14_readThing_2 f 104 x13 h22)))) (fun E i h => some (.inr (E, i), h))) = y → s_X14_readThing_2 (f + 1) 104 1 h = y := by
      intro y hy
      have e : s_X14_readThing_2 (f + 1) = s_X14_readThing_2_b (s_X14_readThing_2 f) := rfl
      rw [e]
      unfold s_X14_readThing_2_b
      rw [if_neg (show ¬ (1 : Int32) = 0 by decide), X0.kO]
      exact hy
    have e0 : thP T n (r + 1) σ k = match liP T n σ k with
      | .inl e => .inl e
      | .inr x => if (tokS T n x.2).1 = 0 then (if fitB x.1 = true then .inr x.1 else .inl (5, x.2)) else if (tokS T n x.2).1 = 59 then thP T n r x.1 (x.2 + 1) else .inl (1, x.2) := rfl
    rw [e0]
    cases q1 : liP T n σ k with
    | inl e =>
      refine ⟨fun z hz => ?_, fun τ hτ => by cases hτ⟩
      cases hz
      obtain ⟨h', a, b⟩ := c1 e q1
      exact ⟨h', head (by rw [a]; rfl), b⟩
    | inr x =>
      obtain ⟨h1, S1, wd1, B1, W1, G1, a1, R1, D1, f1, k1⟩ := c2 x q1
      have ad := liP_adv q1
      have i59 : s_X14_is 104 59 h1 = _ := is_R R1.1 (c := 59) (by decide) (by decide)
      dsimp only
      by_cases q9 : (tokS T n x.2).1 = 59
      · rw [if_neg (show ¬ (tokS T n x.2).1 = 0 by omega), if_pos q9]
        obtain ⟨h2, S2, wd2, e2, X2, l2, o2, s2⟩ := R1.1.next (by omega)
        have R2 : RSx h2 S2 wd2 tv fv t V Z T n (x.2 + 1) B1 W1 G1 (thF x.1) := ⟨X2, R1.2.1.of (fun i i1 i2 => o2 i (by omega)), by rw [s2 16 (by omega)]; exact R1.2.2.1, R1.2.2.2⟩
        have f2 : FrR t h h2 := f1.trans ⟨l2, fun i i1 _ _ => o2 i i1⟩
        have k2 : ∀ j, (j < 11 ∨ 17 < j) → S2 j = S j := fun j hj => (s2 j (by omega)).trans (k1 j hj)
        obtain ⟨d1, d2⟩ := rtR_go r f (x.2 + 1) h2 S2 wd2 B1 W1 G1 x.1 (by omega) (by omega) (Or.inr (by rw [Nat.add_sub_cancel]; omega)) R2 D1
        have go : ∀ {y : aO}, s_X14_readThing_2 f 104 1 h2 = y → s_X14_readThing_2 (f + 1) 104 1 h = y := by
          intro y hy
          refine head ?_
          rw [xN_of a1, R1.1.kO, cI_of i59, show decide ((tokS T n x.2).1 = 59) = true from decide_eq_true q9, if_neg (show ¬ b01 true = 0 by decide), R1.1.kO, cN_of e2]
          exact hy
        refine ⟨fun z hz => ?_, fun τ hτ => ?_⟩
        · obtain ⟨h', a, b⟩ := d1 z hz
          exact ⟨h', go a, FaR.trans f2 k2 b⟩
        · obtain ⟨ft, h', S', wd', B', W', G', k', a, b, c, d, e⟩ := d2 τ hτ
          exact ⟨ft, h', S', wd', B', W', G', k', go a, b, c, f2.trans d, fun j hj => (e j hj).trans (k2 j hj)⟩
      · match f, hf with
        | f + 1, hf =>
          obtain ⟨d1, d2⟩ := rt0_at R1 D1 f q9
          have go : ∀ {y : aO}, s_X14_readThing_2 (f + 1) 104 0 h1 = y → s_X14_readThing_2 (f + 1 + 1) 104 1 h = y := by
            intro y hy
            refine head ?_
            rw [xN_of a1, R1.1.kO, cI_of i59, show decide ((tokS T n x.2).1 = 59) = false from decide_eq_false q9, if_pos (show b01 false = 0 by decide)]
            exact hy
          have ev : (if (tokS T n x.2).1 = 0 then (if fitB x.1 = true then .inr x.1 else .inl (5, x.2)) else if (tokS T n x.2).1 = 59 then thP T n r x.1 (x.2 + 1) else .inl (1, x.2) : (Nat × Nat) ⊕ pTh) = (if (tokS T n x.2).1 = 0 then (if fitB x.1 = true then .inr x.1 else .inl (5, x.2)) else .inl (1, x.2)) := by
            by_cases z : (tokS T n x.2).1 = 0
            · rw [if_pos z, if_pos z]
            · rw [if_neg z, if_neg z, if_neg q9]
          rw [ev]
          refine ⟨fun z hz => ?_, fun τ hτ => ?_⟩
          · obtain ⟨h', a, b⟩ := d1 z hz
            exact ⟨h', go a, FaR.trans f1 k1 b⟩
          · obtain ⟨e1, e2, e3⟩ := d2 τ hτ
            subst e1
            exact ⟨e2, h1, S1, wd1, B1, W1, G1, x.2, go e3, R1, D1, f1, k1⟩
end
