/-! the reference reads a step -/
theorem xN_of {o : aO} {h : aH} {f : aH → aO} {g : String → Nat → aH → aO} (e : o = some (.inl none, h)) : xN o f g = f h := by rw [e]; rfl
section
variable {h : aH} {S : Nat → Int32} {wd : Int64} {tv fv : Value} {t : Nat} {V : Nat → Nat → Int32} {Z : Nat → Nat → Int64} {T : Nat → Nat} {n k : Nat} {B : Nat → Nat → Int32} {W : Nat → Int64} {G : Nat → Nat} {σ : pTh}
theorem need_at (X : RPw h S wd tv fv t V Z T n k) (HT : isT h t B W G) {c : Nat} (hc : 3 < c) (hc2 : c < 256) :
    ((tokS T n k).1 ≠ c → ∃ h', s_X14_need 104 (jI c) h = some (.inr (RX12, 118), h') ∧ FaR h h' S tv fv t V Z T n (1, k)) ∧ ((tokS T n k).1 = c → ∃ h' S' wd', s_X14_need 104 (jI c) h = some (.inl none, h') ∧ RPw h' S' wd' tv fv t V Z T n (k + 1) ∧ h'.length = h.length ∧ (∀ i, i ≠ 104 → h'[i]? = h[i]?) ∧ ∀ j, (j < 11 ∨ 15 < j) → S' j = S j) := by
  have i := is_R X hc hc2
  constructor
  · intro q
    obtain ⟨h', a, b⟩ := throw_at X HT 1
    refine ⟨h', ?_, b⟩
    unfold s_X14_need
    rw [X.kO, i, show decide ((tokS T n k).1 = c) = false from decide_eq_false q]
    simp only [cI]
    rw [if_pos (show b01 false = 0 by decide)]
    exact a
  · intro q
    obtain ⟨h1, S1, wd1, e1, X1, l1, o1, s1⟩ := X.next (by omega)
    refine ⟨h1, S1, wd1, ?_, X1, l1, o1, s1⟩
    unfold s_X14_need
    rw [X.kO, i, show decide ((tokS T n k).1 = c) = true from decide_eq_true q]
    simp only [cI]
    rw [if_neg (show ¬ b01 true = 0 by decide), X.kO, e1]
    rfl
/-- scalars of the object that a line leaves -/
theorem kpL {S S1 S2 : Nat → Int32} (a : ∀ j, (j < 11 ∨ 17 < j) → S1 j = S j) (b : ∀ j, (j < 11 ∨ 17 < j) → S2 j = S1 j) : ∀ j, (j < 11 ∨ 17 < j) → S2 j = S j := fun j hj => (b j hj).trans (a j hj)
theorem rs125_at (X : RSx h S wd tv fv t V Z T n k B W G (thF σ)) {m0 : Nat} (hm : m0 = G 6) (h8 : G 6 < 8) : ∃ h' , s_X14_readStep_125 104 (jI m0) h = some (.inl none, h') ∧ RSx h' S wd tv fv t V Z T n k (upd2 B 10 (upd (B 10) (G 6) (jI (G 7)))) W (upd2 G 6 (G 6 + 1)) (thF σ) ∧ FrR t h h' := by
  subst hm
  have HT := X.2.1
  have ht := HT.1
  have g6 : gO h (.ref 104) 14 6 = some t := gO_of (ltE (by decide)) X.1.1.1 rfl
  obtain ⟨h1, e1, T1, l1, o1⟩ := HT.row (k := 10) (j := G 6) (x := jI (G 7)) (by decide) (by decide) (by decide) h8
  have X1 := X.1.th (h' := h1) (fun i hi => o1 i (by omega))
  have g6' : gO h1 (.ref 104) 14 6 = some t := gO_of (ltE (by decide)) X1.1.1 rfl
  obtain ⟨h2, e2, T2, l2, o2⟩ := T1.num (k := 6) (Or.inl rfl) (G 6 + 1)
  have X2 := X1.th (h' := h2) (fun i hi => o2 i (by omega))
  refine ⟨h2, ?_, ⟨X2, T2, X.2.2.1, X.2.2.2.1, by rw [upd2_ne (by decide)]; exact X.2.2.2.2⟩, ⟨by rw [l2, l1], fun i _ _ hi => by rw [o2 i (by omega), o1 i (by omega)]⟩⟩
  unfold s_X14_readStep_125
  rw [g6, Option.bind_some, gO_of (x := t + 10) (k := 11) (by omega) HT.2.1 rfl, Option.bind_some, Option.bind_some, gI_of (x := jI (G 7)) (k := 7) (by omega) HT.2.1 rfl, Option.bind_some, e1, Option.bind_some, g6', Option.bind_some, gI_of (x := jI (G 6)) (k := 6) (by omega) T1.2.1 rfl, Option.bind_some, jI_inc, e2, Option.bind_some]
theorem readStep_at (X : RSx h S wd tv fv t V Z T n k B W G (thF σ)) (D : rD B W G σ) (tw : (tokS T n k).1 = 1) :
    (∀ e, (match slF (thN σ) (thM σ) (tkW T (tokS T n k)) with
      | none => .inl (2, k)
      | some s => if s < 3 then stP T n σ s k else .inl (2, k) : (Nat × Nat) ⊕ (pTh × Nat)) = .inl e → ∃ h', s_X14_readStep 104 h = some (.inr (RX12, 118), h') ∧ FaR h h' S tv fv t V Z T n e) ∧
    (∀ x, (match slF (thN σ) (thM σ) (tkW T (tokS T n k)) with
      | none => .inl (2, k)
      | some s => if s < 3 then stP T n σ s k else .inl (2, k) : (Nat × Nat) ⊕ (pTh × Nat)) = .inr x → ∃ h' S' wd' B' W' G', s_X14_readStep 104 h = some (.inl none, h') ∧ RSx h' S' wd' tv fv t V Z T n x.2 B' W' G' (thF x.1) ∧ rD B' W' G' x.1 ∧ FrR t h h' ∧ ∀ j, (j < 11 ∨ 17 < j) → S' j = S j) := by
  have X0 := X.1
  have HT := X.2.1
  have ht := HT.1
  have qn := okt2_ne X0.2.2.2.2.2.2.1
  have hm : ∀ k, k < 5 → bsN k + thM σ k ≤ 11 := mxK_bs (fun k hk => (D.1 k hk).2)
  have g8 : G 6 ≤ 8 := D.2.2.2.1.2.1
  have gl : G 6 = (thS σ).length := D.2.2.2.1.1
  have f15 : ∃ h', s_X14_readStep_15 104 h = some (.inr (RX12, 118), h') ∧ FaR h h' S tv fv t V Z T n (2, k) := throw_at X0 HT 2
  have sh := slotHere_at X0 HT D.nm tw
  cases qs : slF (thN σ) (thM σ) (tkW T (tokS T n k)) with
  | none =>
    refine ⟨fun e he => ?_, fun x hx => by cases hx⟩
    cases he
    obtain ⟨h', a, b⟩ := f15
    refine ⟨h', ?_, b⟩
    unfold s_X14_readStep
    rw [X0.kO, cI_of sh, qs, if_pos (show oI none = -1 from rfl)]
    exact a
  | some s =>
    have s11 := slF_lt hm qs
    have nm1 : ¬ oI (some s) = -1 := fun z => by
      have z : jI s = -1 := z
      have := jI_neg (j := s) (by omega)
      rw [z] at this
      exact this (by decide)
    dsimp only
    by_cases u3 : s < 3
    · rw [if_pos u3]
      have g6 : ∀ {h : aH} {S : Nat → Int32} {wd : Int64} {k : Nat}, RPw h S wd tv fv t V Z T n k → gO h (.ref 104) 14 6 = some t := fun X => gO_of (ltE (by decide)) X.1.1 rfl
      have gs : gI h (.ref t) 13 6 = some (jI (G 6)) := gI_of (by omega) HT.2.1 rfl
      unfold stP
      by_cases u8 : (thS σ).length < 8
      · rw [if_pos u8]
        obtain ⟨h1, S1, wd1, e1, X1, l1, o1, s1⟩ := X0.next (by omega)
        have T1 := HT.of (h' := h1) (fun i i1 i2 => o1 i (by omega))
        obtain ⟨c1, c2⟩ := need_at X1 T1 (c := 61) (by decide) (by decide)
        have f1 : FrR t h h1 := ⟨l1, fun i i1 _ _ => o1 i i1⟩
        have k1 : ∀ j, (j < 11 ∨ 17 < j) → S1 j = S j := fun j hj => s1 j (by omega)
        have head : ∀ {y : aO}, (xN (s_X14_need 104 61 h1) (fun h54 => (pF h54 (.ref 104) 14 17 (.int 3)).bind fun h59 => (gO h59 (.ref 104) 14 6).bind fun x63 => (gO h59 (.ref x63) 13 8).bind fun x66 => (stI h59 (.ref x66) (jI (G 6)) (jI s)).bind fun h71 => (gO h71 (.ref 104) 14 6).bind fun x73 => (gO h71 (.ref x73) 13 9).bind fun x76 => (gO h71 (.ref 104) 14 6).bind fun x81 => (gI h71 (.ref x81) 13 7).bind fun x84 => (stI h71 (.ref x76) (jI (G 6)) x84).bind fun h87 => kO h87 104 14 (xN (s_X14_readSum 104 h87) (fun h89 => (gO h89 (.ref 104) 14 6).bind fun x93 => (gO h89 (.ref x93) 13 10).bind fun x96 => (gO h89 (.ref 104) 14 6).bind fun x101 => (gI h89 (.ref x101) 13 7).bind fun x104 => (stI h89 (.ref x96) (jI (G 6)) x104).bind fun h107 => kO h107 104 14 (cI (s_X14_isWord 104 (aE + 10 + 6) h107) fun x111 h111 => if x111 = 0 then (s_X14_readStep_125 104 (jI (G 6)) h111) else (kO h111 104 14 (cN (s_X14_next 104 h111) fun h118 => kO h118 104 14 (xN (s_X14_readTest 104 h118) (fun h122 => s_X14_readStep_125 104 (jI (G 6)) h122) (fun E i h => some (.inr (E, i), h))))))) (fun E i h => some (.inr (E, i), h)))) (fun E i h => some (.inr (E, i), h))) = y → s_X14_readStep 104 h = y := by
          intro y hy
          unfold s_X14_readStep
          rw [X0.kO, cI_of sh, qs, if_neg nm1, if_pos (show oI (some s) < 3 from (jI_lt (j := s) (k := 3) (by omega) (by omega)).mpr u3), g6 X0, Option.bind_some, gs, Option.bind_some, if_neg (show ¬ jI (G 6) = 8 from fun z => by have := (jI_inj (k := 8) (by omega) (by omega)).mp z; omega), Option.bind_some, gs, Option.bind_some, X0.kO, cN_of e1, X1.kO]
          exact hy
        by_cases q1 : (tokS T n (k + 1)).1 = 61
        · rw [if_pos q1]
          obtain ⟨h2, S2, wd2, e2, X2, l2, o2, s2⟩ := c2 q1
          have e2' : s_X14_need 104 61 h1 = _ := e2
          obtain ⟨h3, e3, Y3, l3, o3⟩ := X2.1.pSo (i := 17) rfl 3
          have X3 := X2.ob Y3 o3 (fun j hj => upd_ne (by omega))
          have T3 : isT h3 t B W G := HT.of (fun i i1 i2 => by rw [o3 i (by omega), o2 i (by omega), o1 i (by omega)])
          obtain ⟨h4, e4, T4, l4, o4⟩ := T3.row (k := 7) (j := G 6) (x := jI s) (by decide) (by decide) (by decide) (show G 6 < 8 by omega)
          have X4 := X3.th (h' := h4) (fun i hi => o4 i (by omega))
          obtain ⟨h5, e5, T5, l5, o5⟩ := T4.row (k := 8) (j := G 6) (x := jI (G 7)) (by decide) (by decide) (by decide) (show G 6 < 8 by omega)
          rw [upd2_ne (show (8 : Nat) ≠ 7 by decide)] at T5
          have X5 := X4.th (h' := h5) (fun i hi => o5 i (by omega))
          have S16 : (upd S2 17 3) 16 = jI (thF σ) := by rw [upd_ne (by decide), s2 16 (by omega), s1 16 (by omega)]; exact X.2.2.1
          have R5 : RSx h5 (upd S2 17 3) wd2 tv fv t V Z T n (k + 1 + 1) (upd2 (upd2 B 7 (upd (B 7) (G 6) (jI s))) 8 (upd (B 8) (G 6) (jI (G 7)))) W G (thF σ) := ⟨X5, T5, S16, X.2.2.2⟩
          have f5 : FrR t h h5 := f1.trans ⟨by rw [l5, l4, l3, l2], fun i i1 _ i3 => by rw [o5 i (by omega), o4 i (by omega), o3 i i1, o2 i i1]⟩
          have k5 : ∀ j, (j < 11 ∨ 17 < j) → (upd S2 17 3) j = S j := fun j hj => by rw [upd_ne (by omega), s2 j (by omega), s1 j (by omega)]
          have D5 : rD (upd2 (upd2 B 7 (upd (B 7) (G 6) (jI s))) 8 (upd (B 8) (G 6) (jI (G 7)))) W G σ := D.ext (by rw [upd2_ne (by decide), upd2_ne (by decide)]) (fun s _ => by rw [upd2_ne (by decide), upd2_ne (by decide), upd2_ne (by decide), upd2_ne (by decide)]; exact ⟨rfl, rfl⟩) (fun i hi => by rw [upd2_ne (show (7 : Nat) ≠ 8 by decide), upd2_eq, upd_ne (by omega), upd2_eq, upd_ne (by omega), upd2_ne (show (9 : Nat) ≠ 8 by decide), upd2_ne (show (9 : Nat) ≠ 7 by decide), upd2_ne (show (10 : Nat) ≠ 8 by decide), upd2_ne (show (10 : Nat) ≠ 7 by decide)]; exact ⟨rfl, rfl, rfl, rfl⟩) (fun i _ => by rw [upd2_ne (by decide), upd2_ne (by decide), upd2_ne (by decide), upd2_ne (by decide)]; exact ⟨rfl, rfl⟩) (fun j _ => by rw [upd2_ne (by decide), upd2_ne (by decide), upd2_ne (by decide), upd2_ne (by decide)]; exact ⟨rfl, rfl⟩) rfl (Nat.le_refl _)
          obtain ⟨d1, d2⟩ := readSum_at (kd := 3) (pr := 9) (by decide) rfl R5 D5.nm upd_eq
          have head2 : ∀ {y : aO}, (xN (s_X14_readSum 104 h5) (fun h89 => (gO h89 (.ref 104) 14 6).bind fun x93 => (gO h89 (.ref x93) 13 10).bind fun x96 => (gO h89 (.ref 104) 14 6).bind fun x101 => (gI h89 (.ref x101) 13 7).bind fun x104 => (stI h89 (.ref x96) (jI (G 6)) x104).bind fun h107 => kO h107 104 14 (cI (s_X14_isWord 104 (aE + 10 + 6) h107) fun x111 h111 => if x111 = 0 then (s_X14_readStep_125 104 (jI (G 6)) h111) else (kO h111 104 14 (cN (s_X14_next 104 h111) fun h118 => kO h118 104 14 (xN (s_X14_readTest 104 h118) (fun h122 => s_X14_readStep_125 104 (jI (G 6)) h122) (fun E i h => some (.inr (E, i), h))))))) (fun E i h => some (.inr (E, i), h))) = y → s_X14_readStep 104 h = y := by
            intro y hy
            refine head ?_
            rw [xN_of e2', e3, Option.bind_some, g6 X3, Option.bind_some, gO_of (x := t + 7) (k := 8) (by omega) T3.2.1 rfl, Option.bind_some, e4, Option.bind_some, g6 X4, Option.bind_some, gO_of (x := t + 8) (k := 9) (by omega) T4.2.1 rfl, Option.bind_some, Option.bind_some, gI_of (x := jI (G 7)) (k := 7) (by omega) T4.2.1 rfl, Option.bind_some, e5, Option.bind_some, X5.kO]
            exact hy
          have e22 : suP T n (thN σ) (thM σ) 9 (k + 2) (thF σ) = suP T n (thN σ) (thM σ) 9 (k + 1 + 1) (thF σ) := rfl
          rw [e22]
          cases q2 : suP T n (thN σ) (thM σ) 9 (k + 1 + 1) (thF σ) with
          | inl e =>
            refine ⟨fun z hz => ?_, fun x hx => by cases hx⟩
            cases hz
            obtain ⟨h', a, b⟩ := d1 e q2
            exact ⟨h', head2 (by rw [a]; rfl), FaR.trans f5 k5 b⟩
          | inr x =>
            obtain ⟨h6, S6, wd6, B6, G6, a6, R6, g66, g67, p6, A6, f6, k6⟩ := d2 x q2
            have T6 := R6.2.1
            obtain ⟨h7, e7, T7, l7, o7⟩ := T6.row (k := 9) (j := G 6) (x := jI (G6 7)) (by decide) (by decide) (by decide) (show G 6 < 8 by omega)
            have X7 := R6.1.th (h' := h7) (fun i hi => o7 i (by omega))
            have D6 := D5.app A6 g66 (by omega)
            have f7 : FrR t h h7 := (f5.trans f6).trans ⟨l7, fun i _ _ i3 => o7 i (by omega)⟩
            have k7 : ∀ j, (j < 11 ∨ 17 < j) → S6 j = S j := fun j hj => (k6 j (by omega)).trans (k5 j hj)
            have iw : s_X14_isWord 104 (aE + 10 + 6) h7 = _ := isWd_R X7 (i := 6) (by decide)
            have n9 : ∀ {k : Nat}, k ≠ 11 → k ≠ 12 → k ≠ 7 → k ≠ 8 → B6 k = B k := fun {k} a b c d => by rw [A6.1 k a b, upd2_ne d, upd2_ne c]
            have b7 : B6 7 = upd (B 7) (G 6) (jI s) := by rw [A6.1 7 (by decide) (by decide), upd2_ne (by decide), upd2_eq]
            have b8 : B6 8 = upd (B 8) (G 6) (jI (G 7)) := by rw [A6.1 8 (by decide) (by decide), upd2_eq]
            have head3 : ∀ {y : aO}, (if b01 (isWd T n 6 x.2) = 0 then (s_X14_readStep_125 104 (jI (G 6)) h7) else (kO h7 104 14 (cN (s_X14_next 104 h7) fun h118 => kO h118 104 14 (xN (s_X14_readTest 104 h118) (fun h122 => s_X14_readStep_125 104 (jI (G 6)) h122) (fun E i h => some (.inr (E, i), h)))))) = y → s_X14_readStep 104 h = y := by
              intro y hy
              refine head2 ?_
              rw [xN_of a6, g6 R6.1, Option.bind_some, gO_of (x := t + 9) (k := 10) (by omega) T6.2.1 rfl, Option.bind_some, Option.bind_some, gI_of (x := jI (G6 7)) (k := 7) (by omega) T6.2.1 rfl, Option.bind_some, e7, Option.bind_some, X7.kO, iw]
              exact hy
            -- the step is closed, once all that belongs to it stands
            have fin : ∀ {h9 : aH} {S9 : Nat → Int32} {wd9 : Int64} {k9 nf9 : Nat} {B9 : Nat → Nat → Int32} {G9 : Nat → Nat} {os : List pOne}, RSx h9 S9 wd9 tv fv t V Z T n k9 B9 W G9 nf9 → (∀ k, k ≠ 11 → k ≠ 12 → B9 k = upd2 B6 9 (upd (B6 9) (G 6) (jI (G6 7))) k) → (∀ j, j < G6 7 → B9 11 j = B6 11 j ∧ B9 12 j = B6 12 j) → G9 6 = G 6 → G6 7 ≤ G9 7 → seg2 (B9 11) (B9 12) (G6 7) (G9 7 - G6 7) = testI os → FrR t h h9 → (∀ j, (j < 11 ∨ 17 < j) → S9 j = S j) → ∃ h' S' wd' B' W' G', s_X14_readStep_125 104 (jI (G 6)) h9 = some (.inl none, h') ∧ RSx h' S' wd' tv fv t V Z T n k9 B' W' G' nf9 ∧ rD B' W' G' (thM σ, thN σ, thL σ, thH σ, thS σ ++ [(s, x.1, os)], thG σ, nf9) ∧ FrR t h h' ∧ ∀ j, (j < 11 ∨ 17 < j) → S' j = S j := by
              intro h9 S9 wd9 k9 nf9 B9 G9 os R9 n9' i9 g96 g97 so f9 k9'
              have R9' : RSx h9 S9 wd9 tv fv t V Z T n k9 B9 W G9 (thF (th0.1, th0.2.1, th0.2.2.1, th0.2.2.2.1, [], [], nf9)) := R9
              obtain ⟨h', e9, R', f'⟩ := rs125_at R9' (m0 := G 6) g96.symm (by omega)
              have D9 : rD B9 W G9 σ := D6.ext (by rw [n9' 1 (by decide) (by decide), upd2_ne (by decide)]) (fun s _ => by rw [n9' 2 (by decide) (by decide), n9' 3 (by decide) (by decide), upd2_ne (by decide), upd2_ne (by decide)]; exact ⟨rfl, rfl⟩) (fun i hi => by
                rw [g66] at hi
                rw [n9' 7 (by decide) (by decide), n9' 8 (by decide) (by decide), n9' 9 (by decide) (by decide), n9' 10 (by decide) (by decide), upd2_ne (show (7 : Nat) ≠ 9 by decide), upd2_ne (show (8 : Nat) ≠ 9 by decide), upd2_eq, upd_ne (by omega), upd2_ne (show (10 : Nat) ≠ 9 by decide)]
                exact ⟨rfl, rfl, rfl, rfl⟩) (fun i _ => by rw [n9' 4 (by decide) (by decide), n9' 5 (by decide) (by decide), upd2_ne (by decide), upd2_ne (by decide)]; exact ⟨rfl, rfl⟩) i9 (by rw [g96, g66]) g97
              refine ⟨h', S9, wd9, _, W, _, e9, R', ?_, f9.trans f', k9'⟩
              have sg1 : seg2 (B9 11) (B9 12) (G 7) (postV x.1).length = postV x.1 := by
                rw [seg2_keep (f := B6 11) (g := B6 12) _ _ (fun j j1 j2 => i9 j (by omega))]
                exact A6.2.2
              rw [show G6 7 = G 7 + (postV x.1).length from g67] at so
              refine rD.step D9 (s := s) (a := G 7) (b := (postV x.1).length) (c := G9 7 - (G 7 + (postV x.1).length)) (by omega) ?_ ?_ ?_ ?_ (fun k hk => upd2_ne (by omega)) (by omega) sg1 so
              · rw [upd2_ne (by decide), n9' 7 (by decide) (by decide), upd2_ne (by decide), b7, g96]
                funext j
                by_cases v : j = G 6
                · rw [v, upd_eq, upd_eq]
                · rw [upd_ne v, upd_ne v, upd_ne v]
              · rw [upd2_ne (by decide), n9' 8 (by decide) (by decide), upd2_ne (by decide), b8, g96]
                funext j
                by_cases v : j = G 6
                · rw [v, upd_eq, upd_eq]
                · rw [upd_ne v, upd_ne v, upd_ne v]
              · rw [upd2_ne (by decide), n9' 9 (by decide) (by decide), upd2_eq, g96, g67]
                funext j
                by_cases v : j = G 6
                · rw [v, upd_eq, upd_eq]
                · rw [upd_ne v, upd_ne v, upd_ne v]
              · rw [upd2_eq, show G 7 + (postV x.1).length + (G9 7 - (G 7 + (postV x.1).length)) = G9 7 by omega]
            dsimp only
            by_cases q3 : isWd T n 6 x.2 = true
            · rw [if_pos q3]
              have tq := (of_decide_eq_true q3).1
              obtain ⟨h8, S8, wd8, e8, X8, l8, o8, s8⟩ := X7.next (by omega)
              have R8 : RSx h8 S8 wd8 tv fv t V Z T n (x.2 + 1) (upd2 B6 9 (upd (B6 9) (G 6) (jI (G6 7)))) W G6 (thF σ + x.1.length) := ⟨X8, T7.of (fun i i1 i2 => o8 i (by omega)), by rw [s8 16 (by omega)]; exact R6.2.2.1, R6.2.2.2⟩
              have f8 : FrR t h h8 := f7.trans ⟨l8, fun i i1 _ _ => o8 i i1⟩
              have k8 : ∀ j, (j < 11 ∨ 17 < j) → S8 j = S j := fun j hj => (s8 j (by omega)).trans (k7 j hj)
              have NM8 : NmR (upd2 B6 9 (upd (B6 9) (G 6) (jI (G6 7)))) W (thM σ) (thN σ) := D6.nm.of (by rw [upd2_ne (by decide)])
              obtain ⟨t1, t2⟩ := readTest_at (kd := 3) (pr := 9) (by decide) rfl R8 NM8 (by rw [s8 17 (by omega), k6 17 (by omega), upd_eq]; rfl)
              have head4 : ∀ {y : aO}, (xN (s_X14_readTest 104 h8) (fun h122 => s_X14_readStep_125 104 (jI (G 6)) h122) (fun E i h => some (.inr (E, i), h))) = y → s_X14_readStep 104 h = y := by
                intro y hy
                refine head3 ?_
                rw [q3, if_neg (show ¬ b01 true = 0 by decide), X7.kO, cN_of e8, X8.kO]
                exact hy
              cases q4 : teP T n (thN σ) (thM σ) 9 31 (x.2 + 1) (thF σ + x.1.length) with
              | inl e =>
                refine ⟨fun z hz => ?_, fun x hx => by cases hx⟩
                cases hz
                obtain ⟨h', a, b⟩ := t1 e q4
                exact ⟨h', head4 (by rw [a]; rfl), FaR.trans f8 k8 b⟩
              | inr y =>
                refine ⟨fun z hz => (by cases hz), fun z hz => ?_⟩
                cases hz
                obtain ⟨h9, S9, wd9, B9, G9, a9, R9, g96, g97, A9, f9, k9⟩ := t2 y q4
                obtain ⟨h', S', wd', B', W', G', e', r1, r2, r3, r4⟩ := fin (os := y.1) R9 A9.1 (fun j hj => by
                  obtain ⟨u, v⟩ := A9.2.1 j hj
                  rw [u, v, upd2_ne (by decide), upd2_ne (by decide)]
                  exact ⟨rfl, rfl⟩) (by rw [g96, g66]) (by omega) (by rw [g97, show G6 7 + (testI y.1).length - G6 7 = (testI y.1).length by omega]; exact A9.2.2) (f8.trans f9) (fun j hj => (k9 j (by omega)).trans (k8 j hj))
                refine ⟨h', S', wd', B', W', G', head4 ?_, r1, r2, r3, r4⟩
                rw [a9]
                exact e'
            · rw [if_neg q3]
              refine ⟨fun z hz => (by cases hz), fun z hz => ?_⟩
              cases hz
              obtain ⟨h', S', wd', B', W', G', e', r1, r2, r3, r4⟩ := fin (os := []) (show RSx h7 S6 wd6 tv fv t V Z T n x.2 (upd2 B6 9 (upd (B6 9) (G 6) (jI (G6 7)))) W G6 (thF σ + x.1.length) from ⟨X7, T7, R6.2.2⟩) (fun _ _ _ => rfl) (fun j hj => by rw [upd2_ne (by decide), upd2_ne (by decide)]; exact ⟨rfl, rfl⟩) g66 (Nat.le_refl _) (by rw [Nat.sub_self]; rfl) f7 k7
              refine ⟨h', S', wd', B', W', G', head3 ?_, r1, r2, r3, r4⟩
              rw [Bool.eq_false_iff.mpr q3, if_pos (show b01 false = 0 by decide)]
              exact e'
        · rw [if_neg q1]
          refine ⟨fun z hz => ?_, fun x hx => by cases hx⟩
          cases hz
          obtain ⟨h', a, b⟩ := c1 q1
          have a' : s_X14_need 104 61 h1 = _ := a
          exact ⟨h', head (by rw [a']; rfl), FaR.trans f1 k1 b⟩
      · rw [if_neg u8]
        refine ⟨fun z hz => ?_, fun x hx => by cases hx⟩
        cases hz
        obtain ⟨h', a, b⟩ := throw_at X0 HT 5
        refine ⟨h', ?_, b⟩
        have e8 : G 6 = 8 := by omega
        unfold s_X14_readStep
        rw [X0.kO, cI_of sh, qs, if_neg nm1, if_pos (show oI (some s) < 3 from (jI_lt (j := s) (k := 3) (by omega) (by omega)).mpr u3), g6 X0, Option.bind_some, gs, Option.bind_some, if_pos (show jI (G 6) = 8 by rw [e8]; rfl)]
        exact a
    · rw [if_neg u3]
      refine ⟨fun z hz => ?_, fun x hx => by cases hx⟩
      cases hz
      obtain ⟨h', a, b⟩ := f15
      refine ⟨h', ?_, b⟩
      unfold s_X14_readStep
      rw [X0.kO, cI_of sh, qs, if_neg nm1, if_neg (show ¬ oI (some s) < 3 from fun z => u3 ((jI_lt (j := s) (k := 3) (by omega) (by omega)).mp z))]
      exact a
end
