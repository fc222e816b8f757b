/-! the reference reads a line, a thing -/
section
variable {h : aH} {S : Nat → Int32} {wd : Int64} {tv fv : Value} {t : Nat} {V : Nat → Nat → Int32} {Z : Nat → Nat → Int64} {T : Nat → Nat} {n k : Nat} {B : Nat → Nat → Int32} {W : Nat → Int64} {G : Nat → Nat} {σ : pTh}
theorem nwP_nm {f kd : Nat} (h : nwP T n σ kd k = some f) : siP T n σ k = .inl (f, k) ∨ kd ≠ 4 := by
  by_cases u : kd = 4
  · subst u
    left
    unfold siP
    rw [h]
  · exact Or.inr u
theorem readLine_at (X : RSx h S wd tv fv t V Z T n k B W G (thF σ)) (D : rD B W G σ) :
    (∀ e, liP T n σ k = .inl e → ∃ h', s_X14_readLine 104 h = some (.inr (RX12, 118), h') ∧ FaR h h' S tv fv t V Z T n e) ∧
    (∀ x, liP T n σ k = .inr x → ∃ h' S' wd' B' W' G', s_X14_readLine 104 h = some (.inl none, h') ∧ RSx h' S' wd' tv fv t V Z T n x.2 B' W' G' (thF x.1) ∧ rD B' W' G' x.1 ∧ FrR t h h' ∧ ∀ j, (j < 11 ∨ 17 < j) → S' j = S j) := by
  have X0 := X.1
  have HT := X.2.1
  have ht := HT.1
  have qn := okt2_ne X0.2.2.2.2.2.2.1
  have hm : ∀ k, k < 5 → thM σ k ≤ mxK k := fun k hk => (D.1 k hk).2
  have hm11 := mxK_bs hm
  unfold liP
  by_cases q : (tokS T n k).1 = 1
  · rw [if_pos q]
    cases qk : khO T n k with
    | none =>
      obtain ⟨c1, c2⟩ := readStep_at X D q
      have head : ∀ {y : aO}, xN (s_X14_readStep 104 h) (fun h25 => some (.inl none, h25)) (fun E i h => some (.inr (E, i), h)) = y → s_X14_readLine 104 h = y := by
        intro y hy
        unfold s_X14_readLine
        rw [X0.s12, Option.bind_some, if_pos (srt_2.mpr q), X0.kO, cI_of (kindHere_at X0), qk, if_pos (show oI none = -1 from rfl), X0.kO]
        exact hy
      refine ⟨fun e he => ?_, fun x hx => ?_⟩
      · obtain ⟨h', a, b⟩ := c1 e he
        exact ⟨h', head (by rw [a]; rfl), b⟩
      · obtain ⟨h', S', wd', B', W', G', a, b⟩ := c2 x hx
        exact ⟨h', S', wd', B', W', G', head (by rw [a]; rfl), b⟩
    | some i =>
      have i5 : i < 5 := by
        unfold khO at qk
        rw [if_pos q] at qk
        cases r : rsO (tkW T (tokS T n k)) with
        | none => rw [r] at qk; cases qk
        | some s =>
          rw [r] at qk
          dsimp only at qk
          by_cases u : s < 5
          · rw [if_pos u] at qk; cases qk; exact u
          · rw [if_neg u] at qk; cases qk
      have nm1 : ¬ oI (some i) = -1 := fun z => by
        have z : jI i = -1 := z
        have := jI_neg (j := i) (by omega)
        rw [z] at this
        exact this (by decide)
      obtain ⟨h1, S1, wd1, e1, X1, l1, o1, s1⟩ := X0.next (by omega)
      have R1 : RSx h1 S1 wd1 tv fv t V Z T n (k + 1) B W G (thF σ) := ⟨X1, HT.of (fun i i1 i2 => o1 i (by omega)), by rw [s1 16 (by omega)]; exact X.2.2.1, X.2.2.2⟩
      have f1 : FrR t h h1 := ⟨l1, fun i i1 _ _ => o1 i i1⟩
      have k1 : ∀ j, (j < 11 ∨ 17 < j) → S1 j = S j := fun j hj => s1 j (by omega)
      have T1 := R1.2.1
      have g6 : gO h1 (.ref 104) 14 6 = some t := gO_of (ltE (by decide)) X1.1.1 rfl
      have g0 : gO h1 (.ref t) 13 0 = some (t + 1) := gO_of (by omega) T1.2.1 rfl
      have lm : ldI .int h1 (.ref (t + 1)) (jI i) = some (jI (thM σ i)) := by rw [T1.ld (k := 1) (by decide) (by decide) (by decide) (show i < 5 from i5), (D.1 i i5).1]
      have head : ∀ {y : aO}, (if srt (tokS T n (k + 1)).1 = 2 then (kO h1 104 14 (cI (s_X14_isKept 104 h1) fun x48 h48 => if x48 = 0 then (kO h48 104 14 (cI (s_X14_slotHere 104 h48) fun x55 h55 => if x55 = (-1) then ((gO h55 (.ref 104) 14 6).bind fun x69 => (gO h55 (.ref x69) 13 0).bind fun x72 => (ldI .int h55 (.ref x72) (jI i)).bind fun x76 => if jI i = 0 then (s_X14_readLine_86 104 (jI i) 3 x76 h55) else (s_X14_readLine_86 104 (jI i) 2 x76 h55)) else (s_X14_readLine_62 104 h55))) else (s_X14_readLine_62 104 h48))) else (kO h1 104 14 (cR (s_X14_stop 104 1 h1) fun x43 h43 => kO h43 x43 12 (some (.inr (RX12, x43), h43))))) = y → s_X14_readLine 104 h = y := by
        intro y hy
        unfold s_X14_readLine
        rw [X0.s12, Option.bind_some, if_pos (srt_2.mpr q), X0.kO, cI_of (kindHere_at X0), qk, if_neg nm1, X0.kO, cN_of e1, X1.s12, Option.bind_some]
        exact hy
      have whole : (if i = 4 then siP T n σ (k + 1) else spP T n σ i (k + 1)) = (if i = 4 then siP T n σ (k + 1) else spP T n σ i (k + 1)) := rfl
      dsimp only
      cases qw : nwP T n σ i (k + 1) with
      | some f =>
        have ev : (if i = 4 then siP T n σ (k + 1) else spP T n σ i (k + 1)) = .inl (f, k + 1) := by
          by_cases u : i = 4
          · rw [if_pos u]
            rw [u] at qw
            unfold siP
            rw [qw]
          · rw [if_neg u]
            unfold spP
            rw [qw]
        rw [ev]
        refine ⟨fun e he => ?_, fun x hx => by cases hx⟩
        cases he
        unfold nwP at qw
        by_cases v1 : (tokS T n (k + 1)).1 = 1
        · rw [if_pos v1] at qw
          by_cases v2 : rsO (tkW T (tokS T n (k + 1))) = none
          · have kp : kpB T n (k + 1) = false := decide_eq_false (fun z => z.2 v2)
            by_cases v3 : slF (thN σ) (thM σ) (tkW T (tokS T n (k + 1))) = none
            · rw [if_pos ⟨v2, v3⟩] at qw
              by_cases v4 : thM σ i < mxK i
              · rw [if_pos v4] at qw; cases qw
              · rw [if_neg v4] at qw
                cases qw
                obtain ⟨h', a, b⟩ := throw_at X1 T1 5
                refine ⟨h', head ?_, FaR.trans f1 k1 b⟩
                have em : thM σ i = mxK i := by have := hm i i5; omega
                rw [if_pos (srt_2.mpr v1), X1.kO, cI_of (isKept_at X1), kp, if_pos (show b01 false = 0 by decide), X1.kO, cI_of (slotHere_at X1 T1 D.nm v1), v3, if_pos (show oI none = -1 from rfl), g6, Option.bind_some, g0, Option.bind_some, lm, Option.bind_some]
                by_cases w : i = 0
                · rw [if_pos (show jI i = 0 by rw [w]; rfl)]
                  unfold s_X14_readLine_86
                  rw [if_pos (show jI (thM σ i) = 3 by rw [em, w]; rfl)]
                  exact a
                · rw [if_neg (show ¬ jI i = 0 from fun z => w ((jI_inj (k := 0) (by omega) (by omega)).mp z))]
                  unfold s_X14_readLine_86
                  rw [if_pos (show jI (thM σ i) = 2 by rw [em]; unfold mxK; rw [if_neg w]; rfl)]
                  exact a
            · rw [if_neg (fun z => v3 z.2)] at qw
              cases qw
              obtain ⟨h', a, b⟩ := throw_at X1 T1 3
              refine ⟨h', head ?_, FaR.trans f1 k1 b⟩
              have nn : ¬ oI (slF (thN σ) (thM σ) (tkW T (tokS T n (k + 1)))) = -1 := by
                cases r : slF (thN σ) (thM σ) (tkW T (tokS T n (k + 1))) with
                | none => exact absurd r v3
                | some s =>
                  intro z
                  have z : jI s = -1 := z
                  have := jI_neg (j := s) (by have := slF_lt hm11 r; omega)
                  rw [z] at this
                  exact this (by decide)
              rw [if_pos (srt_2.mpr v1), X1.kO, cI_of (isKept_at X1), kp, if_pos (show b01 false = 0 by decide), X1.kO, cI_of (slotHere_at X1 T1 D.nm v1), if_neg nn]
              exact a
          · rw [if_neg (fun z => v2 z.1)] at qw
            cases qw
            obtain ⟨h', a, b⟩ := throw_at X1 T1 3
            refine ⟨h', head ?_, FaR.trans f1 k1 b⟩
            have kp : kpB T n (k + 1) = true := decide_eq_true ⟨v1, v2⟩
            rw [if_pos (srt_2.mpr v1), X1.kO, cI_of (isKept_at X1), kp, if_neg (show ¬ b01 true = 0 by decide)]
            exact a
        · rw [if_neg v1] at qw
          cases qw
          obtain ⟨h', a, b⟩ := throw_at X1 T1 1
          refine ⟨h', head ?_, FaR.trans f1 k1 b⟩
          rw [if_neg (fun z => v1 (srt_2.mp z))]
          exact a
      | none =>
        obtain ⟨v1, hl⟩ := nwP_none qw
        have vv : rsO (tkW T (tokS T n (k + 1))) = none ∧ slF (thN σ) (thM σ) (tkW T (tokS T n (k + 1))) = none := by
          have qw' := qw
          unfold nwP at qw'
          rw [if_pos v1] at qw'
          by_cases z : rsO (tkW T (tokS T n (k + 1))) = none ∧ slF (thN σ) (thM σ) (tkW T (tokS T n (k + 1))) = none
          · exact z
          · rw [if_neg z] at qw'; cases qw'
        have kp : kpB T n (k + 1) = false := decide_eq_false (fun z => z.2 vv.1)
        obtain ⟨c1, c2⟩ := rl86_at R1 D i5 v1 hl qw
        have go : ∀ {y : aO}, s_X14_readLine_86 104 (jI i) (jI (mxK i)) (jI (thM σ i)) h1 = y → s_X14_readLine 104 h = y := by
          intro y hy
          refine head ?_
          rw [if_pos (srt_2.mpr v1), X1.kO, cI_of (isKept_at X1), kp, if_pos (show b01 false = 0 by decide), X1.kO, cI_of (slotHere_at X1 T1 D.nm v1), vv.2, if_pos (show oI none = -1 from rfl), g6, Option.bind_some, g0, Option.bind_some, lm, Option.bind_some]
          by_cases w : i = 0
          · rw [if_pos (show jI i = 0 by rw [w]; rfl)]
            have e3 : jI (mxK i) = 3 := by rw [w]; rfl
            rw [e3] at hy
            exact hy
          · rw [if_neg (show ¬ jI i = 0 from fun z => w ((jI_inj (k := 0) (by omega) (by omega)).mp z))]
            have e3 : jI (mxK i) = 2 := by unfold mxK; rw [if_neg w]; rfl
            rw [e3] at hy
            exact hy
        refine ⟨fun e he => ?_, fun x hx => ?_⟩
        · obtain ⟨h', a, b⟩ := c1 e he
          exact ⟨h', go a, FaR.trans f1 k1 b⟩
        · obtain ⟨h', S', wd', B', W', G', a, b, c, d, e⟩ := c2 x hx
          exact ⟨h', S', wd', B', W', G', go a, b, c, f1.trans d, fun j hj => (e j hj).trans (k1 j hj)⟩
  · rw [if_neg q]
    refine ⟨fun e he => ?_, fun x hx => by cases hx⟩
    cases he
    obtain ⟨h', a, b⟩ := throw_at X0 HT 1
    refine ⟨h', ?_, b⟩
    unfold s_X14_readLine
    rw [X0.s12, Option.bind_some, if_neg (fun z => q (srt_2.mp z))]
    exact a
/-- how many there are of a kind -/
theorem pr14_go (HT : isT h t B W G) (D : rD B W G σ) {kd to : Nat} (hkd : kd < 4) {k5 : Nat → Int32 → Int32 → Int32 → aH → aO} : ∀ (c i f : Nat) (p : Int32), i + c = thM σ kd → c < f → s_X14_product_14 k5 f t (jI to) p (jI kd) (jI i) h = k5 t (jI to) (p * jI (prtN (rwL σ) 0 (bsN kd + i) c)) (jI (kd + 1)) h
  | _, _, 0, _, _, hf => by omega
  | c, i, f + 1, p, hi, hf => by
    have ht := HT.1
    have mk := (D.1 kd (by omega)).2
    have mx3 : mxK kd ≤ 3 := by unfold mxK; split <;> omega
    have g0 : gO h (.ref t) 13 0 = some (t + 1) := gO_of (by omega) HT.2.1 rfl
    have lm : ldI .int h (.ref (t + 1)) (jI kd) = some (jI (thM σ kd)) := by rw [HT.ld (k := 1) (by decide) (by decide) (by decide) (show kd < 5 by omega), (D.1 kd (by omega)).1]
    match c, hi, hf with
    | 0, hi, hf =>
      show s_X14_product_14_b k5 (s_X14_product_14 k5 f) t (jI to) p (jI kd) (jI i) h = _
      unfold s_X14_product_14_b
      rw [g0, Option.bind_some, lm, Option.bind_some, if_pos ((jI_le (by omega) (by omega)).mpr (by omega)), jI_inc]
      show _ = k5 t (jI to) (p * 1) (jI (kd + 1)) h
      rw [Int32.mul_one]
    | c + 1, hi, hf =>
      have dc : decl (thM σ) (bsN kd + i) := by
        have d5 : dcl5 (thM σ) (bsN kd + i) := ⟨kd, by omega, by omega, by omega⟩
        refine dcl5_4 d5 ?_
        match kd, hkd, mk, hi with
        | 0, _, q, hi => show 0 + i < 9; have q : thM σ 0 ≤ 3 := q; omega
        | 1, _, q, hi => show 3 + i < 9; have q : thM σ 1 ≤ 2 := q; omega
        | 2, _, q, hi => show 5 + i < 9; have q : thM σ 2 ≤ 2 := q; omega
        | 3, _, q, hi => show 7 + i < 9; have q : thM σ 3 ≤ 2 := q; omega
      obtain ⟨b2, b3, z1, z2, z3⟩ := D.2.2.1 _ dc
      have d9 := decl9 (fun k hk => (D.1 k (by omega)).2) dc
      have sz : szT B (bsN kd + i) = jI (wdN (rwL σ) 0 (bsN kd + i)) := by
        rw [szT_wdt (A := rwL σ) (show okR (rwL σ) (bsN kd + i) from ⟨z1, z2, z3⟩) b2 b3]
        exact wdt_N _ _ _
      show s_X14_product_14_b k5 (s_X14_product_14 k5 f) t (jI to) p (jI kd) (jI i) h = _
      unfold s_X14_product_14_b
      rw [g0, Option.bind_some, lm, Option.bind_some, if_neg (fun z => by have := (jI_le (by omega) (by omega)).mp z; omega), cI_of (slotOf_bs (by omega) h), HT.kO, jI_add, cI_of (size_at HT (by omega)), sz, jI_inc, pr14_go HT D hkd c (i + 1) f _ (by omega) (by omega), Int32.mul_assoc, jI_mul]
      rfl
end
