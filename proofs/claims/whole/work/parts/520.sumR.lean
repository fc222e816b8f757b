/-! the reference reads a term, a sum -/
def tmR (r : List (Int32 × Int32)) : List (Int32 × Int32) := match r with
  | [] => []
  | b :: r => itA b :: (4, 0) :: tmR r
def tmI (l : List (Int32 × Int32)) : List (Int32 × Int32) := match l with
  | [] => []
  | a :: r => itA a :: tmR r
theorem tmR_len : ∀ (r : List (Int32 × Int32)), (tmR r).length = 2 * r.length
  | [] => rfl
  | b :: r => by
    show (tmR r).length + 1 + 1 = 2 * (r.length + 1)
    rw [tmR_len r]
    omega
section
variable {tv fv : Value} {t : Nat} {V : Nat → Nat → Int32} {Z : Nat → Nat → Int64} {T : Nat → Nat} {n : Nat} {W : Nat → Int64} {m : Nat → Nat} {nm : Nat → List Nat} {kd pr : Nat}
theorem NmR.of {B B' : Nat → Nat → Int32} (NM : NmR B W m nm) (h : B' 1 = B 1) : NmR B' W m nm := ⟨fun k hk => by rw [h]; exact NM.1 k hk, NM.2⟩
/-- what the '*' loop leaves: r more factors, each with its TIMES -/
theorem rt4_go (hkd : kd < 5) (hpr : bsN (kd + 1) = pr) : ∀ (r f k nf : Nat) (h : aH) (S : Nat → Int32) (wd : Int64) (B : Nat → Nat → Int32) (G : Nat → Nat), r < f → 61 ≤ r + nf → RSx h S wd tv fv t V Z T n k B W G nf → NmR B W m nm → S 17 = jI kd →
    ((tokS T n k).1 ≠ 42 → s_X14_readTerm_4 f 104 h = some (.inl none, h)) ∧
    ((tokS T n k).1 = 42 → (∀ e, tmP T n nm m pr r (k + 1) nf = .inl e → ∃ h', s_X14_readTerm_4 f 104 h = some (.inr (RX12, 118), h') ∧ FaR h h' S tv fv t V Z T n e) ∧
      (∀ x, tmP T n nm m pr r (k + 1) nf = .inr x → ∃ h' S' wd' B' G', s_X14_readTerm_4 f 104 h = some (.inl none, h') ∧ RSx h' S' wd' tv fv t V Z T n x.2 B' W G' (nf + x.1.length) ∧ G' 6 = G 6 ∧ G' 7 = G 7 + 2 * x.1.length ∧ apB (tmR x.1) (G 7) B B' ∧ FrR t h h' ∧ kp17 S S'))
  | r, 0, _, _, _, _, _, _, _, hf, _, _, _, _ => by omega
  | r, f + 1, k, nf, h, S, wd, B, G, hf, hr, X, NM, s17 => by
    have X0 := X.1
    have i42 := is_R X0 (c := 42) (by decide) (by decide)
    have i42' : s_X14_is 104 42 h = _ := i42
    constructor
    · intro q
      show s_X14_readTerm_4_b (s_X14_readTerm_4 f) 104 h = _
      unfold s_X14_readTerm_4_b
      rw [X0.kO, i42', show decide ((tokS T n k).1 = 42) = false from decide_eq_false q]
      simp only [cI]
      rw [if_pos (show b01 false = 0 by decide)]
    · intro q
      have r1 : 1 ≤ r := by have := X.2.2.2.1; omega
      obtain ⟨h1, S1, wd1, e1, X1, l1, o1, s1⟩ := X0.next (by omega)
      have qn := okt2_ne X0.2.2.2.2.2.2.1
      have T1 := X.2.1.of (h' := h1) (fun i i1 i2 => o1 i (by omega))
      have X1' : RSx h1 S1 wd1 tv fv t V Z T n (k + 1) B W G nf := ⟨X1, T1, by rw [s1 16 (by omega)]; exact X.2.2.1, X.2.2.2⟩
      have f1 : FrR t h h1 := ⟨l1, fun i i1 _ _ => o1 i i1⟩
      obtain ⟨c1, c2⟩ := readFactor_at X1' NM (by rw [s1 17 (by omega)]; exact s17) hkd hpr
      have head : ∀ {y : aO}, xN (s_X14_readFactor 104 h1) (fun h18 => (gO h18 (.ref 104) 14 6).bind fun x22 => kO h18 x22 13 (cN (s_X13_put x22 4 0 h18) fun h27 => s_X14_readTerm_4 f 104 h27)) (fun E i h => some (.inr (E, i), h)) = y → s_X14_readTerm_4 (f + 1) 104 h = y := by
        intro y hy
        show s_X14_readTerm_4_b (s_X14_readTerm_4 f) 104 h = _
        unfold s_X14_readTerm_4_b
        rw [X0.kO, i42', show decide ((tokS T n k).1 = 42) = true from decide_eq_true q]
        simp only [cI]
        rw [if_neg (show ¬ b01 true = 0 by decide), X0.kO, e1]
        simp only [cN]
        rw [X1.kO]
        exact hy
      match r, r1, hf, hr with
      | r + 1, _, hf, hr =>
        have e0 : tmP T n nm m pr (r + 1) (k + 1) nf = match fcP T n nm m pr (k + 1) nf with
          | .inl f => .inl (f, k + 1)
          | .inr sw => if (tokS T n (k + 1 + 1)).1 = 42 then (match tmP T n nm m pr r (k + 1 + 2) (nf + 1) with
            | .inl e => .inl e
            | .inr x => .inr (sw :: x.1, x.2)) else .inr ([sw], k + 1 + 1) := rfl
        rw [e0]
        have kpS : ∀ j, (j < 11 ∨ 17 < j) → S1 j = S j := fun j hj => s1 j (by omega)
        cases qf : fcP T n nm m pr (k + 1) nf with
        | inl g =>
          refine ⟨fun e he => ?_, fun x hx => by cases hx⟩
          cases he
          obtain ⟨h', a, b⟩ := c1 g qf
          exact ⟨h', head (by rw [a]; rfl), FaR.trans f1 kpS b⟩
        | inr sw =>
          obtain ⟨lt, h2, S2, wd2, B2, a2, X2, A2, f2, k2⟩ := c2 sw qf
          have g2 : (upd2 G 7 (G 7 + 1)) 7 < 400 := by rw [upd2_eq]; have := X.2.2.2.2; omega
          obtain ⟨h3, B3, e3, T3, A3, l3, o3⟩ := put_at X2.2.1 g2 4 0
          rw [upd2_eq, upd2_2] at T3
          rw [upd2_eq] at A3
          have X3 : RSx h3 S2 wd2 tv fv t V Z T n (k + 1 + 1) B3 W (upd2 G 7 (G 7 + 1 + 1)) (nf + 1) := ⟨X2.1.th o3, T3, X2.2.2.1, X2.2.2.2.1, by rw [upd2_eq]; have := X.2.2.2.2; omega⟩
          have A23 : apB [itA sw, (4, 0)] (G 7) B B3 := A2.trans A3
          have NM3 : NmR B3 W m nm := NM.of (A23.1 1 (by decide) (by decide))
          have f23 : FrR t h h3 := (f1.trans f2).trans ⟨l3, fun i _ _ i3 => o3 i i3⟩
          have s17' : S2 17 = jI kd := by rw [k2 17 (by omega), s1 17 (by omega)]; exact s17
          have kp3 : ∀ j, (j < 11 ∨ 17 < j) → S2 j = S j := fun j hj => (k2 j (by omega)).trans (kpS j hj)
          obtain ⟨d1, d2⟩ := rt4_go hkd hpr r f (k + 1 + 1) (nf + 1) h3 S2 wd2 B3 _ (by omega) (by omega) X3 NM3 s17'
          have go : ∀ {y : aO}, s_X14_readTerm_4 f 104 h3 = y → s_X14_readTerm_4 (f + 1) 104 h = y := by
            intro y hy
            refine head ?_
            rw [a2]
            have g6 : gO h2 (.ref 104) 14 6 = some t := gO_of (ltE (by decide)) X2.1.1.1 rfl
            simp only [xN]
            rw [g6, Option.bind_some, X2.2.1.kO, e3]
            exact hy
          dsimp only
          by_cases u : (tokS T n (k + 1 + 1)).1 = 42
          · rw [if_pos u]
            obtain ⟨d3, d4⟩ := d2 u
            have e5 : tmP T n nm m pr r (k + 1 + 2) (nf + 1) = tmP T n nm m pr r (k + 1 + 1 + 1) (nf + 1) := rfl
            rw [e5]
            cases q3 : tmP T n nm m pr r (k + 1 + 1 + 1) (nf + 1) with
            | inl e =>
              refine ⟨fun z hz => ?_, fun x hx => by cases hx⟩
              cases hz
              obtain ⟨h', a, b⟩ := d3 e q3
              exact ⟨h', go a, FaR.trans f23 kp3 b⟩
            | inr x =>
              refine ⟨fun z hz => (by cases hz), fun z hz => ?_⟩
              cases hz
              obtain ⟨h', S', wd', B', G', a, b, g6, g7, c, d, e9⟩ := d4 x q3
              rw [upd2_ne (by decide)] at g6
              rw [upd2_eq] at g7 c
              refine ⟨h', S', wd', B', G', go a, ?_, g6, by dsimp only; rw [g7, List.length_cons]; omega, ?_, f23.trans d, fun j hj => by rw [e9 j hj, k2 j hj, s1 j (by omega)]⟩
              · dsimp only
                rw [List.length_cons, show nf + (x.1.length + 1) = nf + 1 + x.1.length by omega]
                exact b
              · exact A23.trans c
          · rw [if_neg u]
            refine ⟨fun z hz => (by cases hz), fun z hz => ?_⟩
            cases hz
            exact ⟨h3, S2, wd2, B3, _, go (d1 u), X3, upd2_ne (by decide), by rw [upd2_eq]; rfl, A23, f23, fun j hj => by rw [k2 j hj, s1 j (by omega)]⟩
theorem readTerm_at (hkd : kd < 5) (hpr : bsN (kd + 1) = pr) {r k nf : Nat} {h : aH} {S : Nat → Int32} {wd : Int64} {B : Nat → Nat → Int32} {G : Nat → Nat} (hr9 : r ≤ 61) (hr : 61 ≤ r + nf) (X : RSx h S wd tv fv t V Z T n k B W G nf) (NM : NmR B W m nm) (s17 : S 17 = jI kd) :
    (∀ e, tmP T n nm m pr r k nf = .inl e → ∃ h', s_X14_readTerm 104 h = some (.inr (RX12, 118), h') ∧ FaR h h' S tv fv t V Z T n e) ∧
    (∀ x, tmP T n nm m pr r k nf = .inr x → ∃ h' S' wd' B' G', s_X14_readTerm 104 h = some (.inl none, h') ∧ RSx h' S' wd' tv fv t V Z T n x.2 B' W G' (nf + x.1.length) ∧ G' 6 = G 6 ∧ G' 7 + 1 = G 7 + 2 * x.1.length ∧ apB (tmI x.1) (G 7) B B' ∧ FrR t h h' ∧ kp17 S S') := by
  have X0 := X.1
  obtain ⟨c1, c2⟩ := readFactor_at X NM s17 hkd hpr
  have r1 : 1 ≤ r := by have := X.2.2.2.1; omega
  match r, r1, hr, hr9 with
  | r + 1, _, hr, hr9 =>
    have e0 : tmP T n nm m pr (r + 1) k nf = match fcP T n nm m pr k nf with
      | .inl f => .inl (f, k)
      | .inr sw => if (tokS T n (k + 1)).1 = 42 then (match tmP T n nm m pr r (k + 2) (nf + 1) with
        | .inl e => .inl e
        | .inr x => .inr (sw :: x.1, x.2)) else .inr ([sw], k + 1) := rfl
    rw [e0]
    cases qf : fcP T n nm m pr k nf with
    | inl g =>
      refine ⟨fun e he => ?_, fun x hx => by cases hx⟩
      cases he
      obtain ⟨h', a, b⟩ := c1 g qf
      refine ⟨h', ?_, b⟩
      unfold s_X14_readTerm
      rw [X0.kO, a]
      rfl
    | inr sw =>
      obtain ⟨lt, h2, S2, wd2, B2, a2, X2, A2, f2, k2⟩ := c2 sw qf
      have NM2 : NmR B2 W m nm := NM.of (A2.1 1 (by decide) (by decide))
      have kp2 : ∀ j, (j < 11 ∨ 17 < j) → S2 j = S j := fun j hj => k2 j (by omega)
      obtain ⟨d1, d2⟩ := rt4_go hkd hpr r FU (k + 1) (nf + 1) h2 S2 wd2 B2 _ (by show r < 1000000; omega) (by omega) X2 NM2 (by rw [k2 17 (by omega)]; exact s17)
      have go : ∀ {y : aO}, s_X14_readTerm_4 FU 104 h2 = y → s_X14_readTerm 104 h = y := by
        intro y hy
        unfold s_X14_readTerm
        rw [X0.kO, a2]
        exact hy
      dsimp only
      by_cases u : (tokS T n (k + 1)).1 = 42
      · rw [if_pos u]
        obtain ⟨d3, d4⟩ := d2 u
        have e5 : tmP T n nm m pr r (k + 2) (nf + 1) = tmP T n nm m pr r (k + 1 + 1) (nf + 1) := rfl
        rw [e5]
        cases q3 : tmP T n nm m pr r (k + 1 + 1) (nf + 1) with
        | inl e =>
          refine ⟨fun z hz => ?_, fun x hx => by cases hx⟩
          cases hz
          obtain ⟨h', a, b⟩ := d3 e q3
          exact ⟨h', go a, FaR.trans f2 kp2 b⟩
        | inr x =>
          refine ⟨fun z hz => (by cases hz), fun z hz => ?_⟩
          cases hz
          obtain ⟨h', S', wd', B', G', a, b, g6, g7, c, d, e9⟩ := d4 x q3
          rw [upd2_ne (by decide)] at g6
          rw [upd2_eq] at g7 c
          refine ⟨h', S', wd', B', G', go a, ?_, g6, by dsimp only; rw [g7, List.length_cons]; omega, ?_, f2.trans d, k2.trans e9⟩
          · dsimp only
            rw [List.length_cons, show nf + (x.1.length + 1) = nf + 1 + x.1.length by omega]
            exact b
          · exact A2.trans c
      · rw [if_neg u]
        refine ⟨fun z hz => (by cases hz), fun z hz => ?_⟩
        cases hz
        exact ⟨h2, S2, wd2, B2, _, go (d1 u), X2, upd2_ne (by decide), by rw [upd2_eq]; rfl, A2, f2, k2⟩
end
