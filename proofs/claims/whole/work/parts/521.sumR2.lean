/-! the reference reads a sum -/
def lpI (l : List pFa) : List (Int32 × Int32) := match l with
  | [] => []
  | b :: r => itm b :: postGo (some (if b.1 = 1 then 3 else 2)) r
/-- a row that is empty or begins with plus or minus -/
def hdN (l : List pFa) : Prop := ∀ b r, l = b :: r → b.1 ≠ 2
theorem postGo_hd {pe : Option Int32} {l : List pFa} (h : hdN l) : postGo pe l = penL pe ++ lpI l := by
  match l, h with
  | [], _ => show penL pe = penL pe ++ []; rw [List.append_nil]
  | b :: r, h =>
    show (if b.1 = 2 then _ else _) = _
    rw [if_neg (h b r rfl)]
    rfl
theorem postGo_map {pe : Option Int32} {l : List pFa} : ∀ (r : List (Int32 × Int32)), postGo pe (r.map (fun b => ((2 : Int32), b.1, b.2)) ++ l) = tmR r ++ postGo pe l
  | [] => rfl
  | b :: r => by
    have e : postGo pe ((b :: r).map (fun b => ((2 : Int32), b.1, b.2)) ++ l) = itA b :: (4, 0) :: postGo pe (r.map (fun b => ((2 : Int32), b.1, b.2)) ++ l) := rfl
    rw [e, postGo_map r]
    rfl
theorem lpI_tm {j : Int32} {x : List (Int32 × Int32)} {l : List pFa} (hx : 1 ≤ x.length) (h : hdN l) : lpI (tmF j x ++ l) = tmI x ++ ([((if j = 1 then 3 else 2 : Int32), (0 : Int32))] ++ lpI l) := by
  match x, hx with
  | a :: r, _ =>
    show itm (j, a.1, a.2) :: postGo (some (if j = 1 then 3 else 2)) (r.map (fun b => ((2 : Int32), b.1, b.2)) ++ l) = _
    rw [postGo_map, postGo_hd h]
    rfl
theorem postV_tm {j : Int32} {x : List (Int32 × Int32)} {l : List pFa} (hx : 1 ≤ x.length) (h : hdN l) : postV (tmF j x ++ l) = tmI x ++ (penL (if j = 1 then some 5 else none) ++ lpI l) := by
  match x, hx with
  | a :: r, _ =>
    show itm (j, a.1, a.2) :: postGo (if j = 1 then some 5 else none) (r.map (fun b => ((2 : Int32), b.1, b.2)) ++ l) = _
    rw [postGo_map, postGo_hd h]
    rfl
theorem smP_hd {T : Nat → Nat} {n : Nat} {nm : Nat → List Nat} {m : Nat → Nat} {per : Nat} {r : Nat} {j : Int32} {k nf : Nat} {x : List pFa × Nat} (h : smP T n nm m per r j k nf = .inr x) : ∃ a b, x.1 = (j, a) :: b := by
  rw [smP_tm] at h
  cases q : tmP T n nm m per r k nf with
  | inl e => rw [q] at h; cases h
  | inr y =>
    rw [q] at h
    dsimp only at h
    have ln := (tmP_len r k nf y q).1
    have e : ∃ a b, tmF j y.1 = (j, a) :: b := by
      match y.1, ln with
      | a :: r, _ => exact ⟨_, _, rfl⟩
    obtain ⟨a, b, e⟩ := e
    cases q2 : pmO (tokS T n y.2).1 with
    | none =>
      rw [q2] at h
      cases h
      exact ⟨a, b, e⟩
    | some j' =>
      rw [q2] at h
      dsimp only at h
      cases q3 : smP T n nm m per (r - y.1.length) j' (y.2 + 1) (nf + y.1.length) with
      | inl e => rw [q3] at h; cases h
      | inr z =>
        rw [q3] at h
        cases h
        exact ⟨a, b ++ z.1, by dsimp only; rw [e]; rfl⟩
/-- what stands behind a term -/
def coP (T : Nat → Nat) (n : Nat) (nm : Nat → List Nat) (m : Nat → Nat) (per r k nf : Nat) : (Nat × Nat) ⊕ (List pFa × Nat) := match pmO (tokS T n k).1 with
  | none => .inr ([], k)
  | some j => smP T n nm m per r j (k + 1) nf
theorem pmO_ne {c : Nat} {j : Int32} (h : pmO c = some j) : (c = 43 ∧ j = 0) ∨ (c = 45 ∧ c ≠ 43 ∧ j = 1) := by
  unfold pmO at h
  by_cases a : c = 43
  · rw [if_pos a] at h; cases h; exact Or.inl ⟨a, rfl⟩
  · rw [if_neg a] at h
    by_cases b : c = 45
    · rw [if_pos b] at h; cases h; exact Or.inr ⟨b, a, rfl⟩
    · rw [if_neg b] at h; cases h
theorem coP_hd {T : Nat → Nat} {n : Nat} {nm : Nat → List Nat} {m : Nat → Nat} {per r k nf : Nat} {x : List pFa × Nat} (h : coP T n nm m per r k nf = .inr x) : hdN x.1 := by
  unfold coP at h
  cases q : pmO (tokS T n k).1 with
  | none => rw [q] at h; cases h; intro b r e; cases e
  | some j =>
    rw [q] at h
    obtain ⟨a, b, e⟩ := smP_hd h
    intro b' r' e'
    rw [e] at e'
    cases e'
    show ¬ j = 2
    rcases pmO_ne q with ⟨-, rfl⟩ | ⟨-, -, rfl⟩ <;> decide
theorem smP_co {T : Nat → Nat} {n : Nat} {nm : Nat → List Nat} {m : Nat → Nat} {per : Nat} (r : Nat) (j : Int32) (k nf : Nat) : smP T n nm m per r j k nf = match tmP T n nm m per r k nf with
    | .inl e => .inl e
    | .inr x => match coP T n nm m per (r - x.1.length) x.2 (nf + x.1.length) with
      | .inl e => .inl e
      | .inr y => .inr (tmF j x.1 ++ y.1, y.2) := by
  rw [smP_tm]
  cases tmP T n nm m per r k nf with
  | inl e => rfl
  | inr x =>
    dsimp only
    unfold coP
    cases pmO (tokS T n x.2).1 with
    | none => dsimp only; rw [List.append_nil]
    | some j' => rfl
theorem tmF_len {j : Int32} : ∀ (x : List (Int32 × Int32)), (tmF j x).length = x.length
  | [] => rfl
  | a :: r => by
    show (r.map _).length + 1 = r.length + 1
    rw [List.length_map]
section
variable {tv fv : Value} {t : Nat} {V : Nat → Nat → Int32} {Z : Nat → Nat → Int64} {T : Nat → Nat} {n : Nat} {W : Nat → Int64} {m : Nat → Nat} {nm : Nat → List Nat} {kd pr : Nat}
theorem rs32_go (hkd : kd < 5) (hpr : bsN (kd + 1) = pr) : ∀ (f r k nf : Nat) (h : aH) (S : Nat → Int32) (wd : Int64) (B : Nat → Nat → Int32) (G : Nat → Nat), r < f → r ≤ 61 → 61 ≤ r + nf → RSx h S wd tv fv t V Z T n k B W G nf → NmR B W m nm → S 17 = jI kd →
    (∀ e, coP T n nm m pr r k nf = .inl e → ∃ h', s_X14_readSum_32 f 104 h = some (.inr (RX12, 118), h') ∧ FaR h h' S tv fv t V Z T n e) ∧
    (∀ x, coP T n nm m pr r k nf = .inr x → ∃ h' S' wd' B' G', s_X14_readSum_32 f 104 h = some (.inl none, h') ∧ RSx h' S' wd' tv fv t V Z T n x.2 B' W G' (nf + x.1.length) ∧ G' 6 = G 6 ∧ G' 7 = G 7 + 2 * x.1.length ∧ apB (lpI x.1) (G 7) B B' ∧ FrR t h h' ∧ kp17 S S')
  | 0, _, _, _, _, _, _, _, _, hf, _, _, _, _, _ => by omega
  | f + 1, r, k, nf, h, S, wd, B, G, hf, hr9, hr, X, NM, s17 => by
    have X0 := X.1
    have i43 : s_X14_is 104 43 h = _ := is_R X0 (c := 43) (by decide) (by decide)
    have i45 : s_X14_is 104 45 h = _ := is_R X0 (c := 45) (by decide) (by decide)
    unfold coP
    cases q : pmO (tokS T n k).1 with
    | none =>
      have n43 : (tokS T n k).1 ≠ 43 := fun z => by rw [z] at q; cases q
      have n45 : (tokS T n k).1 ≠ 45 := fun z => by rw [z] at q; cases q
      refine ⟨fun e he => (by cases he), fun x hx => ?_⟩
      cases hx
      refine ⟨h, S, wd, B, G, ?_, X, rfl, rfl, apB.nil, FrR.refl, fun _ _ => rfl⟩
      show s_X14_readSum_32_b (s_X14_readSum_32 f) 104 h = _
      unfold s_X14_readSum_32_b
      rw [X0.kO, i43, show decide ((tokS T n k).1 = 43) = false from decide_eq_false n43]
      simp only [cI]
      rw [if_pos (show b01 false = 0 by decide), X0.kO, i45, show decide ((tokS T n k).1 = 45) = false from decide_eq_false n45]
      simp only []
      rw [if_pos (show b01 false = 0 by decide)]
    | some j =>
      have qq := pmO_ne q
      obtain ⟨h1, S1, wd1, e1, X1, l1, o1, s1⟩ := X0.next (by rcases qq with ⟨z, -⟩ | ⟨z, -⟩ <;> omega)
      have qn := okt2_ne X0.2.2.2.2.2.2.1
      have X1' : RSx h1 S1 wd1 tv fv t V Z T n (k + 1) B W G nf := ⟨X1, X.2.1.of (fun i i1 i2 => o1 i (by omega)), by rw [s1 16 (by omega)]; exact X.2.2.1, X.2.2.2⟩
      have f1 : FrR t h h1 := ⟨l1, fun i i1 _ _ => o1 i i1⟩
      have kpS : ∀ j, (j < 11 ∨ 17 < j) → S1 j = S j := fun j hj => s1 j (by omega)
      obtain ⟨c1, c2⟩ := readTerm_at hkd hpr hr9 hr X1' NM (by rw [s1 17 (by omega)]; exact s17)
      have h64 : ∀ {y : aO}, xN (s_X14_readTerm 104 h1) (fun h70 => (gO h70 (.ref 104) 14 6).bind fun x74 => kO h70 x74 13 (cN (s_X13_put x74 (if j = 1 then 3 else 2) 0 h70) fun h79 => s_X14_readSum_32 f 104 h79)) (fun E i h => some (.inr (E, i), h)) = y → s_X14_readSum_64 (s_X14_readSum_32 f) 104 (if j = 1 then 3 else 2) h = y := by
        intro y hy
        unfold s_X14_readSum_64
        rw [X0.kO, e1]
        simp only [cN]
        rw [X1.kO]
        exact hy
      have head : ∀ {y : aO}, s_X14_readSum_64 (s_X14_readSum_32 f) 104 (if j = 1 then 3 else 2) h = y → s_X14_readSum_32 (f + 1) 104 h = y := by
        intro y hy
        show s_X14_readSum_32_b (s_X14_readSum_32 f) 104 h = _
        unfold s_X14_readSum_32_b
        rw [X0.kO, i43]
        simp only [cI]
        rcases qq with ⟨z, rfl⟩ | ⟨z, z2, rfl⟩
        · rw [show decide ((tokS T n k).1 = 43) = true from decide_eq_true z, if_neg (show ¬ b01 true = 0 by decide)]
          unfold s_X14_readSum_50
          rw [X0.kO, i43, show decide ((tokS T n k).1 = 43) = true from decide_eq_true z]
          simp only [cI]
          rw [if_neg (show ¬ b01 true = 0 by decide)]
          exact hy
        · rw [show decide ((tokS T n k).1 = 43) = false from decide_eq_false z2, if_pos (show b01 false = 0 by decide), X0.kO, i45, show decide ((tokS T n k).1 = 45) = true from decide_eq_true z]
          simp only []
          rw [if_neg (show ¬ b01 true = 0 by decide)]
          unfold s_X14_readSum_50
          rw [X0.kO, i43, show decide ((tokS T n k).1 = 43) = false from decide_eq_false z2]
          simp only [cI]
          rw [if_pos (show b01 false = 0 by decide)]
          exact hy
      dsimp only
      rw [smP_co]
      cases q2 : tmP T n nm m pr r (k + 1) nf with
      | inl e =>
        refine ⟨fun z hz => ?_, fun x hx => by cases hx⟩
        cases hz
        obtain ⟨h', a, b⟩ := c1 e q2
        exact ⟨h', head (h64 (by rw [a]; rfl)), FaR.trans f1 kpS b⟩
      | inr x =>
        obtain ⟨h2, S2, wd2, B2, G2, a2, X2, g26, g27, A2, f2, k2⟩ := c2 x q2
        obtain ⟨xl1, xl2, -⟩ := tmP_len r (k + 1) nf x q2
        have n60 := X2.2.2.2.1
        have g2 : G2 7 < 400 := by have := X.2.2.2.2; omega
        obtain ⟨h3, B3, e3, T3, A3, l3, o3⟩ := put_at X2.2.1 g2 (if j = 1 then 3 else 2) 0
        have tl : (tmI x.1).length + 1 = 2 * x.1.length := by
          match x.1, xl1 with
          | a :: r', _ =>
            show (tmR r').length + 1 + 1 = 2 * (r'.length + 1)
            rw [tmR_len]; omega
        have X3 : RSx h3 S2 wd2 tv fv t V Z T n x.2 B3 W (upd2 G2 7 (G2 7 + 1)) (nf + x.1.length) := ⟨X2.1.th o3, T3, X2.2.2.1, n60, by rw [upd2_eq]; have := X.2.2.2.2; omega⟩
        have A23 : apB (tmI x.1 ++ [((if j = 1 then 3 else 2 : Int32), (0 : Int32))]) (G 7) B B3 := A2.trans (by rw [show G 7 + (tmI x.1).length = G2 7 by omega]; exact A3)
        have f23 : FrR t h h3 := (f1.trans f2).trans ⟨l3, fun i _ _ i3 => o3 i i3⟩
        have kp3 : ∀ j, (j < 11 ∨ 17 < j) → S2 j = S j := fun j hj => (k2 j (by omega)).trans (kpS j hj)
        have NM3 : NmR B3 W m nm := NM.of (A23.1 1 (by decide) (by decide))
        have s17' : S2 17 = jI kd := by rw [k2 17 (by omega), s1 17 (by omega)]; exact s17
        obtain ⟨d1, d2⟩ := rs32_go hkd hpr f (r - x.1.length) x.2 (nf + x.1.length) h3 S2 wd2 B3 _ (by omega) (by omega) (by omega) X3 NM3 s17'
        have go : ∀ {y : aO}, s_X14_readSum_32 f 104 h3 = y → s_X14_readSum_32 (f + 1) 104 h = y := by
          intro y hy
          refine head (h64 ?_)
          have g6 : gO h2 (.ref 104) 14 6 = some t := gO_of (ltE (by decide)) X2.1.1.1 rfl
          rw [a2]
          simp only [xN]
          rw [g6, Option.bind_some, X2.2.1.kO, e3]
          exact hy
        dsimp only
        cases q3 : coP T n nm m pr (r - x.1.length) x.2 (nf + x.1.length) with
        | inl e =>
          refine ⟨fun z hz => ?_, fun x hx => by cases hx⟩
          cases hz
          obtain ⟨h', a, b⟩ := d1 e q3
          exact ⟨h', go a, FaR.trans f23 kp3 b⟩
        | inr y =>
          refine ⟨fun z hz => (by cases hz), fun z hz => ?_⟩
          cases hz
          obtain ⟨h', S', wd', B', G', a, b, g6, g7, c, d, e9⟩ := d2 y q3
          rw [upd2_ne (by decide)] at g6
          rw [upd2_eq] at g7 c
          have lt : (tmF j x.1 ++ y.1).length = x.1.length + y.1.length := by rw [List.length_append, tmF_len]
          refine ⟨h', S', wd', B', G', go a, ?_, by rw [g6, g26], by dsimp only; rw [g7, lt]; omega, ?_, f23.trans d, fun j hj => by rw [e9 j hj, k2 j hj, s1 j (by omega)]⟩
          · dsimp only
            rw [lt, show nf + (x.1.length + y.1.length) = nf + x.1.length + y.1.length by omega]
            exact b
          · dsimp only
            rw [lpI_tm xl1 (coP_hd q3), ← List.append_assoc]
            refine A23.trans ?_
            rw [List.length_append, List.length_singleton, show G 7 + ((tmI x.1).length + 1) = G2 7 + 1 by omega]
            exact c
end
