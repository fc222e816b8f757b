/-! the reference reads a one, a test -/
def teC (T : Nat → Nat) (n : Nat) (nm : Nat → List Nat) (m : Nat → Nat) (per r k nf : Nat) : (Nat × Nat) ⊕ (List pOne × Nat) := if isWd T n 7 k = true then teP T n nm m per r (k + 1) nf else .inr ([], k)
theorem teP_co {T : Nat → Nat} {n : Nat} {nm : Nat → List Nat} {m : Nat → Nat} {per : Nat} (r k nf : Nat) : teP T n nm m per (r + 1) k nf = match onP T n nm m per k nf with
    | .inl e => .inl e
    | .inr x => match teC T n nm m per r x.2 (nf + oLn x.1) with
      | .inl e => .inl e
      | .inr y => .inr (x.1 :: y.1, y.2) := by
  have e0 : teP T n nm m per (r + 1) k nf = match onP T n nm m per k nf with
    | .inl e => .inl e
    | .inr x => if isWd T n 7 x.2 = true then (match teP T n nm m per r (x.2 + 1) (nf + oLn x.1) with
      | .inl e => .inl e
      | .inr y => .inr (x.1 :: y.1, y.2)) else .inr ([x.1], x.2) := rfl
  rw [e0]
  cases onP T n nm m per k nf with
  | inl e => rfl
  | inr x =>
    dsimp only
    unfold teC
    by_cases q : isWd T n 7 x.2 = true
    · rw [if_pos q, if_pos q]
    · rw [if_neg q, if_neg q]
theorem onP_len {T : Nat → Nat} {n : Nat} {nm : Nat → List Nat} {m : Nat → Nat} {per k nf : Nat} {x : pOne × Nat} (h : onP T n nm m per k nf = .inr x) : 2 ≤ oLn x.1 := by
  unfold onP at h
  cases q : suP T n nm m per k nf with
  | inl e => rw [q] at h; cases h
  | inr y =>
    rw [q] at h
    dsimp only at h
    by_cases u : isRl (tokS T n y.2).1 = true
    · rw [if_pos u] at h
      cases q2 : suP T n nm m per (y.2 + 1) (nf + y.1.length) with
      | inl e => rw [q2] at h; cases h
      | inr z =>
        rw [q2] at h
        cases h
        have a := suP_len q
        have b := suP_len q2
        show 2 ≤ y.1.length + z.1.length
        omega
    · rw [if_neg u] at h; cases h
section
variable {tv fv : Value} {t : Nat} {V : Nat → Nat → Int32} {Z : Nat → Nat → Int64} {T : Nat → Nat} {n : Nat} {W : Nat → Int64} {m : Nat → Nat} {nm : Nat → List Nat} {kd pr : Nat}
theorem readOne_at (hkd : kd < 5) (hpr : bsN (kd + 1) = pr) {k nf : Nat} {h : aH} {S : Nat → Int32} {wd : Int64} {B : Nat → Nat → Int32} {G : Nat → Nat} (X : RSx h S wd tv fv t V Z T n k B W G nf) (NM : NmR B W m nm) (s17 : S 17 = jI kd) :
    (∀ e, onP T n nm m pr k nf = .inl e → ∃ h', s_X14_readOne 104 h = some (.inr (RX12, 118), h') ∧ FaR h h' S tv fv t V Z T n e) ∧
    (∀ x, onP T n nm m pr k nf = .inr x → ∃ h' S' wd' B' G', s_X14_readOne 104 h = some (.inl none, h') ∧ RSx h' S' wd' tv fv t V Z T n x.2 B' W G' (nf + oLn x.1) ∧ G' 6 = G 6 ∧ G' 7 = G 7 + (oneI x.1).length ∧ (oneI x.1).length ≤ 2 * oLn x.1 + 1 ∧ apB (oneI x.1) (G 7) B B' ∧ FrR t h h' ∧ kp17 S S') := by
  have X0 := X.1
  obtain ⟨c1, c2⟩ := readSum_at hkd hpr X NM s17
  unfold onP
  cases q1 : suP T n nm m pr k nf with
  | inl e =>
    refine ⟨fun z hz => ?_, fun x hx => by cases hx⟩
    cases hz
    obtain ⟨h', a, b⟩ := c1 e q1
    refine ⟨h', ?_, b⟩
    unfold s_X14_readOne
    rw [X0.kO, a]
    rfl
  | inr x =>
    obtain ⟨h1, S1, wd1, B1, G1, a1, X1, g16, g17, p1, A1, f1, k1⟩ := c2 x q1
    have l1 := suP_len q1
    have Y1 := X1.1
    have i60 : s_X14_is 104 60 h1 = _ := is_R Y1 (c := 60) (by decide) (by decide)
    have i62 : s_X14_is 104 62 h1 = _ := is_R Y1 (c := 62) (by decide) (by decide)
    have i61 : s_X14_is 104 61 h1 = _ := is_R Y1 (c := 61) (by decide) (by decide)
    have kp1 : ∀ j, (j < 11 ∨ 17 < j) → S1 j = S j := fun j hj => k1 j (by omega)
    dsimp only
    by_cases qr : isRl (tokS T n x.2).1 = true
    · rw [if_pos qr]
      have qr' := of_decide_eq_true qr
      have kd' := tok_kd X0.2.2.1 n x.2
      have head : ∀ {y : aO}, s_X14_readOne_47 104 (kRl (jI (tokS T n x.2).1)) h1 = y → s_X14_readOne 104 h = y := by
        intro y hy
        unfold s_X14_readOne
        rw [X0.kO, a1]
        simp only [xN]
        rw [Y1.kO, i60]
        simp only [cI]
        rcases qr' with u | u | u
        · rw [show decide ((tokS T n x.2).1 = 60) = true from decide_eq_true u, if_neg (show ¬ b01 true = 0 by decide)]
          rw [u] at hy
          exact hy
        · rw [show decide ((tokS T n x.2).1 = 60) = false from decide_eq_false (by omega), if_pos (show b01 false = 0 by decide), Y1.kO, i62, show decide ((tokS T n x.2).1 = 62) = true from decide_eq_true u]
          simp only []
          rw [if_neg (show ¬ b01 true = 0 by decide)]
          rw [u] at hy
          exact hy
        · rw [show decide ((tokS T n x.2).1 = 60) = false from decide_eq_false (by omega), if_pos (show b01 false = 0 by decide), Y1.kO, i62, show decide ((tokS T n x.2).1 = 62) = false from decide_eq_false (by omega)]
          simp only []
          rw [if_pos (show b01 false = 0 by decide), Y1.kO, i61, show decide ((tokS T n x.2).1 = 61) = true from decide_eq_true u]
          simp only []
          rw [if_neg (show ¬ b01 true = 0 by decide)]
          rw [u] at hy
          exact hy
      have nm1 : ¬ kRl (jI (tokS T n x.2).1) = -1 := by
        rcases qr' with u | u | u <;> (rw [u]; decide)
      obtain ⟨h2, S2, wd2, e2, X2, l2, o2, s2⟩ := Y1.next (by omega)
      have qn := okt2_ne X0.2.2.2.2.2.2.1
      have X2' : RSx h2 S2 wd2 tv fv t V Z T n (x.2 + 1) B1 W G1 (nf + x.1.length) := ⟨X2, X1.2.1.of (fun i i1 i2 => o2 i (by omega)), by rw [s2 16 (by omega)]; exact X1.2.2.1, X1.2.2.2⟩
      have f2 : FrR t h h2 := f1.trans ⟨l2, fun i i1 _ _ => o2 i i1⟩
      have NM1 : NmR B1 W m nm := NM.of (A1.1 1 (by decide) (by decide))
      have kp2 : ∀ j, (j < 11 ∨ 17 < j) → S2 j = S j := fun j hj => (s2 j (by omega)).trans (kp1 j hj)
      obtain ⟨d1, d2⟩ := readSum_at hkd hpr X2' NM1 (by rw [s2 17 (by omega), k1 17 (by omega)]; exact s17)
      have h47 : ∀ {y : aO}, xN (s_X14_readSum 104 h2) (fun h64 => (gO h64 (.ref 104) 14 6).bind fun x68 => kO h64 x68 13 (cN (s_X13_put x68 (kRl (jI (tokS T n x.2).1)) 0 h64) fun h73 => some (.inl none, h73))) (fun E i h => some (.inr (E, i), h)) = y → s_X14_readOne 104 h = y := by
        intro y hy
        refine head ?_
        unfold s_X14_readOne_47
        rw [if_neg nm1, Y1.kO, e2]
        simp only [cN]
        rw [X2.kO]
        exact hy
      cases q2 : suP T n nm m pr (x.2 + 1) (nf + x.1.length) with
      | inl e =>
        refine ⟨fun z hz => ?_, fun x hx => by cases hx⟩
        cases hz
        obtain ⟨h', a, b⟩ := d1 e q2
        exact ⟨h', h47 (by rw [a]; rfl), FaR.trans f2 kp2 b⟩
      | inr y =>
        refine ⟨fun z hz => (by cases hz), fun z hz => ?_⟩
        cases hz
        obtain ⟨h3, S3, wd3, B3, G3, a3, X3, g36, g37, p3, A3, f3, k3⟩ := d2 y q2
        have l3 := suP_len q2
        have n60 := X3.2.2.2.1
        have g3 : G3 7 < 400 := by have := X.2.2.2.2; omega
        obtain ⟨h4, B4, e4, T4, A4, l4, o4⟩ := put_at X3.2.1 g3 (kRl (jI (tokS T n x.2).1)) 0
        have ol : oLn (x.1, y.1, jI (tokS T n x.2).1) = x.1.length + y.1.length := rfl
        have oi : oneI (x.1, y.1, jI (tokS T n x.2).1) = postV x.1 ++ (postV y.1 ++ [(kRl (jI (tokS T n x.2).1), 0)]) := rfl
        have nfe : nf + oLn (x.1, y.1, jI (tokS T n x.2).1) = nf + x.1.length + y.1.length := by rw [ol]; omega
        have oil : (oneI (x.1, y.1, jI (tokS T n x.2).1)).length = (postV x.1).length + ((postV y.1).length + 1) := by rw [oi, List.length_append, List.length_append]; rfl
        refine ⟨h4, S3, wd3, B4, upd2 G3 7 (G3 7 + 1), h47 ?_, ?_, by rw [upd2_ne (by decide), g36, g16], by dsimp only; rw [upd2_eq, oil]; omega, by dsimp only; rw [oil, ol]; omega, ?_, (f2.trans f3).trans ⟨l4, fun i _ _ i3 => o4 i i3⟩, fun j hj => by rw [k3 j hj, s2 j (by omega), k1 j hj]⟩
        · have g6 : gO h3 (.ref 104) 14 6 = some t := gO_of (ltE (by decide)) X3.1.1.1 rfl
          rw [a3]
          simp only [xN]
          rw [g6, Option.bind_some, X3.2.1.kO, e4]
          rfl
        · dsimp only
          rw [nfe]
          exact ⟨X3.1.th o4, T4, X3.2.2.1, n60, by rw [upd2_eq]; have := X.2.2.2.2; omega⟩
        · dsimp only
          rw [oi]
          refine A1.trans ?_
          rw [← g17]
          refine A3.trans ?_
          rw [← g37]
          exact A4
    · rw [if_neg qr]
      have qr' : ¬ ((tokS T n x.2).1 = 60 ∨ (tokS T n x.2).1 = 62 ∨ (tokS T n x.2).1 = 61) := fun u => qr (decide_eq_true u)
      refine ⟨fun z hz => ?_, fun x hx => by cases hx⟩
      cases hz
      obtain ⟨h', e, F⟩ := throw_at Y1 X1.2.1 1
      refine ⟨h', ?_, FaR.trans f1 kp1 F⟩
      unfold s_X14_readOne
      rw [X0.kO, a1]
      simp only [xN]
      rw [Y1.kO, i60, show decide ((tokS T n x.2).1 = 60) = false from decide_eq_false (fun z => qr' (Or.inl z))]
      simp only [cI]
      rw [if_pos (show b01 false = 0 by decide), Y1.kO, i62, show decide ((tokS T n x.2).1 = 62) = false from decide_eq_false (fun z => qr' (Or.inr (Or.inl z)))]
      simp only []
      rw [if_pos (show b01 false = 0 by decide), Y1.kO, i61, show decide ((tokS T n x.2).1 = 61) = false from decide_eq_false (fun z => qr' (Or.inr (Or.inr z)))]
      simp only []
      rw [if_pos (show b01 false = 0 by decide)]
      unfold s_X14_readOne_47
      rw [if_pos rfl]
      exact e
theorem rt_go (hkd : kd < 5) (hpr : bsN (kd + 1) = pr) : ∀ (f r k nf : Nat) (h : aH) (S : Nat → Int32) (wd : Int64) (B : Nat → Nat → Int32) (G : Nat → Nat), r < f → 62 ≤ 2 * r + nf → RSx h S wd tv fv t V Z T n k B W G nf → NmR B W m nm → S 17 = jI kd →
    (∀ e, teC T n nm m pr r k nf = .inl e → ∃ h', s_X14_readTest_4 f 104 h = some (.inr (RX12, 118), h') ∧ FaR h h' S tv fv t V Z T n e) ∧
    (∀ x, teC T n nm m pr r k nf = .inr x → ∃ h' S' wd' B' G', s_X14_readTest_4 f 104 h = some (.inl none, h') ∧ RSx h' S' wd' tv fv t V Z T n x.2 B' W G' (nf + fLn x.1) ∧ G' 6 = G 6 ∧ G' 7 = G 7 + (andI x.1).length ∧ apB (andI x.1) (G 7) B B' ∧ FrR t h h' ∧ kp17 S S')
  | 0, _, _, _, _, _, _, _, _, hf, _, _, _, _ => by omega
  | f + 1, r, k, nf, h, S, wd, B, G, hf, hr, X, NM, s17 => by
    have X0 := X.1
    have iw : s_X14_isWord 104 (aE + 10 + 7) h = _ := isWd_R X0 (i := 7) (by decide)
    unfold teC
    by_cases q : isWd T n 7 k = true
    · rw [if_pos q]
      have q1 := (of_decide_eq_true q).1
      obtain ⟨h1, S1, wd1, e1, X1, l1, o1, s1⟩ := X0.next (by omega)
      have qn := okt2_ne X0.2.2.2.2.2.2.1
      have X1' : RSx h1 S1 wd1 tv fv t V Z T n (k + 1) B W G nf := ⟨X1, X.2.1.of (fun i i1 i2 => o1 i (by omega)), by rw [s1 16 (by omega)]; exact X.2.2.1, X.2.2.2⟩
      have f1 : FrR t h h1 := ⟨l1, fun i i1 _ _ => o1 i i1⟩
      have kp1 : ∀ j, (j < 11 ∨ 17 < j) → S1 j = S j := fun j hj => s1 j (by omega)
      obtain ⟨c1, c2⟩ := readOne_at hkd hpr X1' NM (by rw [s1 17 (by omega)]; exact s17)
      have head : ∀ {y : aO}, xN (s_X14_readOne 104 h1) (fun h18 => (gO h18 (.ref 104) 14 6).bind fun x22 => kO h18 x22 13 (cN (s_X13_put x22 9 0 h18) fun h28 => s_X14_readTest_4 f 104 h28)) (fun E i h => some (.inr (E, i), h)) = y → s_X14_readTest_4 (f + 1) 104 h = y := by
        intro y hy
        show s_X14_readTest_4_b (s_X14_readTest_4 f) 104 h = _
        unfold s_X14_readTest_4_b
        rw [X0.kO, iw, q]
        simp only [cI]
        rw [if_neg (show ¬ b01 true = 0 by decide), X0.kO, e1]
        simp only [cN]
        rw [X1.kO]
        exact hy
      have r1 : 1 ≤ r := by have := X.2.2.2.1; omega
      match r, r1, hr, hf with
      | r + 1, _, hr, hf =>
        rw [teP_co]
        cases q2 : onP T n nm m pr (k + 1) nf with
        | inl e =>
          refine ⟨fun z hz => ?_, fun x hx => by cases hx⟩
          cases hz
          obtain ⟨h', a, b⟩ := c1 e q2
          exact ⟨h', head (by rw [a]; rfl), FaR.trans f1 kp1 b⟩
        | inr x =>
          obtain ⟨h2, S2, wd2, B2, G2, a2, X2, g26, g27, p2, A2, f2, k2⟩ := c2 x q2
          have ol := onP_len q2
          have n60 := X2.2.2.2.1
          obtain ⟨h3, B3, e3, T3, A3, l3, o3⟩ := put_at X2.2.1 (by have := X.2.2.2.2; omega) 9 0
          have X3 : RSx h3 S2 wd2 tv fv t V Z T n x.2 B3 W (upd2 G2 7 (G2 7 + 1)) (nf + oLn x.1) := ⟨X2.1.th o3, T3, X2.2.2.1, n60, by rw [upd2_eq]; have := X.2.2.2.2; omega⟩
          have A23 : apB (oneI x.1 ++ [((9 : Int32), (0 : Int32))]) (G 7) B B3 := A2.trans (by rw [← g27]; exact A3)
          have f23 : FrR t h h3 := (f1.trans f2).trans ⟨l3, fun i _ _ i3 => o3 i i3⟩
          have kp3 : ∀ j, (j < 11 ∨ 17 < j) → S2 j = S j := fun j hj => (k2 j (by omega)).trans (kp1 j hj)
          have NM3 : NmR B3 W m nm := NM.of (A23.1 1 (by decide) (by decide))
          obtain ⟨d1, d2⟩ := rt_go hkd hpr f r x.2 (nf + oLn x.1) h3 S2 wd2 B3 _ (by omega) (by omega) X3 NM3 (by rw [k2 17 (by omega), s1 17 (by omega)]; exact s17)
          have go : ∀ {y : aO}, s_X14_readTest_4 f 104 h3 = y → s_X14_readTest_4 (f + 1) 104 h = y := by
            intro y hy
            refine head ?_
            have g6 : gO h2 (.ref 104) 14 6 = some t := gO_of (ltE (by decide)) X2.1.1.1 rfl
            rw [a2]
            simp only [xN]
            rw [g6, Option.bind_some, X2.2.1.kO, e3]
            exact hy
          dsimp only
          cases q3 : teC T n nm m pr r x.2 (nf + oLn x.1) with
          | inl e =>
            refine ⟨fun z hz => ?_, fun x hx => by cases hx⟩
            cases hz
            obtain ⟨h', a, b⟩ := d1 e q3
            exact ⟨h', go a, FaR.trans f23 kp3 b⟩
          | inr y =>
            refine ⟨fun z hz => (by cases hz), fun z hz => ?_⟩
            cases hz
            obtain ⟨h', S', wd', B', G', a, b, g6, g7, c, d, e9⟩ := d2 y q3
            rw [upd2_ne (by decide)] at g6
            rw [upd2_eq] at g7 c
            have fl : fLn (x.1 :: y.1) = oLn x.1 + fLn y.1 := rfl
            have al : andI (x.1 :: y.1) = (oneI x.1 ++ [((9 : Int32), (0 : Int32))]) ++ andI y.1 := rfl
            refine ⟨h', S', wd', B', G', go a, ?_, by rw [g6, g26], ?_, ?_, f23.trans d, fun j hj => by rw [e9 j hj, k2 j hj, s1 j (by omega)]⟩
            · dsimp only
              rw [fl, show nf + (oLn x.1 + fLn y.1) = nf + oLn x.1 + fLn y.1 by omega]
              exact b
            · dsimp only
              rw [al, List.length_append, List.length_append, g7, g27]
              show _ = G 7 + ((oneI x.1).length + 1 + (andI y.1).length)
              omega
            · dsimp only
              rw [al]
              refine A23.trans ?_
              rw [List.length_append, List.length_singleton, show G 7 + ((oneI x.1).length + 1) = G2 7 + 1 by omega]
              exact c
    · rw [if_neg q]
      refine ⟨fun e he => (by cases he), fun x hx => ?_⟩
      cases hx
      refine ⟨h, S, wd, B, G, ?_, X, rfl, rfl, apB.nil, FrR.refl, fun _ _ => rfl⟩
      show s_X14_readTest_4_b (s_X14_readTest_4 f) 104 h = _
      unfold s_X14_readTest_4_b
      rw [X0.kO, iw, Bool.eq_false_iff.mpr q]
      simp only [cI]
      rw [if_pos (show b01 false = 0 by decide)]
theorem readTest_at (hkd : kd < 5) (hpr : bsN (kd + 1) = pr) {k nf : Nat} {h : aH} {S : Nat → Int32} {wd : Int64} {B : Nat → Nat → Int32} {G : Nat → Nat} (X : RSx h S wd tv fv t V Z T n k B W G nf) (NM : NmR B W m nm) (s17 : S 17 = jI kd) :
    (∀ e, teP T n nm m pr 31 k nf = .inl e → ∃ h', s_X14_readTest 104 h = some (.inr (RX12, 118), h') ∧ FaR h h' S tv fv t V Z T n e) ∧
    (∀ x, teP T n nm m pr 31 k nf = .inr x → ∃ h' S' wd' B' G', s_X14_readTest 104 h = some (.inl none, h') ∧ RSx h' S' wd' tv fv t V Z T n x.2 B' W G' (nf + fLn x.1) ∧ G' 6 = G 6 ∧ G' 7 = G 7 + (testI x.1).length ∧ apB (testI x.1) (G 7) B B' ∧ FrR t h h' ∧ kp17 S S') := by
  have X0 := X.1
  obtain ⟨c1, c2⟩ := readOne_at hkd hpr X NM s17
  rw [teP_co]
  cases q2 : onP T n nm m pr k nf with
  | inl e =>
    refine ⟨fun z hz => ?_, fun x hx => by cases hx⟩
    cases hz
    obtain ⟨h', a, b⟩ := c1 e q2
    refine ⟨h', ?_, b⟩
    unfold s_X14_readTest
    rw [X0.kO, a]
    rfl
  | inr x =>
    obtain ⟨h2, S2, wd2, B2, G2, a2, X2, g26, g27, p2, A2, f2, k2⟩ := c2 x q2
    have ol := onP_len q2
    have NM2 : NmR B2 W m nm := NM.of (A2.1 1 (by decide) (by decide))
    obtain ⟨d1, d2⟩ := rt_go hkd hpr FU 30 x.2 (nf + oLn x.1) h2 S2 wd2 B2 _ (by decide) (by omega) X2 NM2 (by rw [k2 17 (by omega)]; exact s17)
    have go : ∀ {y : aO}, s_X14_readTest_4 FU 104 h2 = y → s_X14_readTest 104 h = y := by
      intro y hy
      unfold s_X14_readTest
      rw [X0.kO, a2]
      exact hy
    dsimp only
    cases q3 : teC T n nm m pr 30 x.2 (nf + oLn x.1) with
    | inl e =>
      refine ⟨fun z hz => ?_, fun x hx => by cases hx⟩
      cases hz
      obtain ⟨h', a, b⟩ := d1 e q3
      exact ⟨h', go a, FaR.trans f2 (fun j hj => k2 j (by omega)) b⟩
    | inr y =>
      refine ⟨fun z hz => (by cases hz), fun z hz => ?_⟩
      cases hz
      obtain ⟨h', S', wd', B', G', a, b, g6, g7, c, d, e9⟩ := d2 y q3
      have fl : fLn (x.1 :: y.1) = oLn x.1 + fLn y.1 := rfl
      have al : testI (x.1 :: y.1) = oneI x.1 ++ andI y.1 := rfl
      refine ⟨h', S', wd', B', G', go a, ?_, by rw [g6, g26], ?_, ?_, f2.trans d, k2.trans e9⟩
      · dsimp only
        rw [fl, show nf + (oLn x.1 + fLn y.1) = nf + oLn x.1 + fLn y.1 by omega]
        exact b
      · dsimp only
        rw [al, List.length_append, g7, g27]
        omega
      · dsimp only
        rw [al]
        refine A2.trans ?_
        rw [← g27]
        exact c
end
