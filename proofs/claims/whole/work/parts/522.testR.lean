/-! the reference reads a sum, a one, a test -/
section
variable {tv fv : Value} {t : Nat} {V : Nat → Nat → Int32} {Z : Nat → Nat → Int64} {T : Nat → Nat} {n : Nat} {W : Nat → Int64} {m : Nat → Nat} {nm : Nat → List Nat} {kd pr : Nat}
theorem rs15_at (hkd : kd < 5) (hpr : bsN (kd + 1) = pr) {k nf : Nat} {h : aH} {S : Nat → Int32} {wd : Int64} {B : Nat → Nat → Int32} {G : Nat → Nat} (X : RSx h S wd tv fv t V Z T n k B W G nf) (NM : NmR B W m nm) (s17 : S 17 = jI kd) (q : Bool) :
    (∀ e, smP T n nm m pr 61 (b01 q) k nf = .inl e → ∃ h', s_X14_readSum_15 104 (b01 q) h = some (.inr (RX12, 118), h') ∧ FaR h h' S tv fv t V Z T n e) ∧
    (∀ x, smP T n nm m pr 61 (b01 q) k nf = .inr x → ∃ h' S' wd' B' G', s_X14_readSum_15 104 (b01 q) h = some (.inl none, h') ∧ RSx h' S' wd' tv fv t V Z T n x.2 B' W G' (nf + x.1.length) ∧ G' 6 = G 6 ∧ G' 7 = G 7 + (postV x.1).length ∧ (postV x.1).length ≤ 2 * x.1.length ∧ apB (postV x.1) (G 7) B B' ∧ FrR t h h' ∧ kp17 S S') := by
  have X0 := X.1
  obtain ⟨c1, c2⟩ := readTerm_at hkd hpr (r := 61) (by decide) (by omega) X NM s17
  rw [smP_co]
  cases q2 : tmP T n nm m pr 61 k nf with
  | inl e =>
    refine ⟨fun z hz => ?_, fun x hx => by cases hx⟩
    cases hz
    obtain ⟨h', a, b⟩ := c1 e q2
    refine ⟨h', ?_, b⟩
    unfold s_X14_readSum_15
    rw [X0.kO, a]
    rfl
  | inr x =>
    obtain ⟨h2, S2, wd2, B2, G2, a2, X2, g26, g27, A2, f2, k2⟩ := c2 x q2
    obtain ⟨xl1, xl2, -⟩ := tmP_len 61 k nf x q2
    have n60 := X2.2.2.2.1
    have tl : (tmI x.1).length + 1 = 2 * x.1.length := by
      match x.1, xl1 with
      | a :: r', _ =>
        show (tmR r').length + 1 + 1 = 2 * (r'.length + 1)
        rw [tmR_len]; omega
    have kp2 : ∀ j, (j < 11 ∨ 17 < j) → S2 j = S j := fun j hj => k2 j (by omega)
    -- the sign ahead, put or not
    obtain ⟨h3, B3, G3, e3, X3, A3, g36, g37, f3⟩ : ∃ h3 B3 G3, (∀ {y : aO}, s_X14_readSum_32 FU 104 h3 = y → s_X14_readSum_15 104 (b01 q) h = y) ∧ RSx h3 S2 wd2 tv fv t V Z T n x.2 B3 W G3 (nf + x.1.length) ∧ apB (tmI x.1 ++ penL (if b01 q = 1 then some 5 else none)) (G 7) B B3 ∧ G3 6 = G 6 ∧ G3 7 = G 7 + (tmI x.1 ++ penL (if b01 q = 1 then some 5 else none)).length ∧ FrR t h h3 := by
      cases q with
      | false =>
        refine ⟨h2, B2, G2, fun {y} hy => ?_, X2, ?_, g26, ?_, f2⟩
        · unfold s_X14_readSum_15
          rw [X0.kO, a2]
          simp only [xN]
          rw [if_pos (show b01 false = 0 by decide)]
          exact hy
        · rw [if_neg (show ¬ b01 false = 1 by decide)]
          show apB (tmI x.1 ++ []) (G 7) B B2
          rw [List.append_nil]
          exact A2
        · rw [if_neg (show ¬ b01 false = 1 by decide)]
          show G2 7 = G 7 + (tmI x.1 ++ []).length
          rw [List.append_nil]
          omega
      | true =>
        have g2 : G2 7 < 400 := by have := X.2.2.2.2; omega
        obtain ⟨h3, B3, e3, T3, A3, l3, o3⟩ := put_at X2.2.1 g2 5 0
        refine ⟨h3, B3, _, fun {y} hy => ?_, ⟨X2.1.th o3, T3, X2.2.2.1, n60, by rw [upd2_eq]; have := X.2.2.2.2; omega⟩, ?_, by rw [upd2_ne (by decide)]; exact g26, ?_, f2.trans ⟨l3, fun i _ _ i3 => o3 i i3⟩⟩
        · have g6 : gO h2 (.ref 104) 14 6 = some t := gO_of (ltE (by decide)) X2.1.1.1 rfl
          unfold s_X14_readSum_15
          rw [X0.kO, a2]
          simp only [xN]
          rw [if_neg (show ¬ b01 true = 0 by decide), g6, Option.bind_some, X2.2.1.kO, e3]
          exact hy
        · rw [if_pos (show b01 true = 1 by decide)]
          refine A2.trans ?_
          rw [show G 7 + (tmI x.1).length = G2 7 by omega]
          exact A3
        · rw [if_pos (show b01 true = 1 by decide), upd2_eq, List.length_append]
          show G2 7 + 1 = G 7 + ((tmI x.1).length + 1)
          omega
    have NM3 : NmR B3 W m nm := NM.of (A3.1 1 (by decide) (by decide))
    obtain ⟨d1, d2⟩ := rs32_go hkd hpr FU (61 - x.1.length) x.2 (nf + x.1.length) h3 S2 wd2 B3 G3 (by show 61 - x.1.length < 1000000; omega) (by omega) (by omega) X3 NM3 (by rw [k2 17 (by omega)]; exact s17)
    have pl : (tmI x.1 ++ penL (if b01 q = 1 then some 5 else none)).length ≤ 2 * x.1.length := by
      rw [List.length_append]
      have : (penL (if b01 q = 1 then some 5 else none)).length ≤ 1 := by cases q <;> decide
      omega
    dsimp only
    cases q3 : coP T n nm m pr (61 - x.1.length) x.2 (nf + x.1.length) with
    | inl e =>
      refine ⟨fun z hz => ?_, fun x hx => by cases hx⟩
      cases hz
      obtain ⟨h', a, b⟩ := d1 e q3
      exact ⟨h', e3 a, FaR.trans f3 kp2 b⟩
    | inr y =>
      refine ⟨fun z hz => (by cases hz), fun z hz => ?_⟩
      cases hz
      obtain ⟨h', S', wd', B', G', a, b, g6, g7, c, d, e9⟩ := d2 y q3
      have lt : (tmF (b01 q) x.1 ++ y.1).length = x.1.length + y.1.length := by rw [List.length_append, tmF_len]
      have pv := postV_tm (j := b01 q) xl1 (coP_hd q3)
      have pv2 : postV (tmF (b01 q) x.1 ++ y.1) = (tmI x.1 ++ penL (if b01 q = 1 then some 5 else none)) ++ lpI y.1 := by rw [pv, List.append_assoc]
      have AA := A3.trans (L' := lpI y.1) (by rw [← g37]; exact c)
      have ll : (lpI y.1).length = 2 * y.1.length := by
        have g1 : ∀ (r : List pFa) (k : Int32), (postGo (some k) r).length = 2 * r.length + 1 := by
          intro r
          induction r with
          | nil => intro k; rfl
          | cons a r ih =>
            intro k
            show (if a.1 = 2 then itm a :: (4, 0) :: postGo (some k) r else penL (some k) ++ itm a :: postGo (some (if a.1 = 1 then 3 else 2)) r).length = 2 * (r.length + 1) + 1
            by_cases u : a.1 = 2
            · rw [if_pos u]
              show (postGo (some k) r).length + 1 + 1 = _
              rw [ih]; omega
            · rw [if_neg u, List.length_append, List.length_cons, ih]
              show 1 + (2 * r.length + 1 + 1) = _
              omega
        cases y.1 with
        | nil => rfl
        | cons b r =>
          show (postGo _ r).length + 1 = 2 * (r.length + 1)
          rw [g1]; omega
      refine ⟨h', S', wd', B', G', e3 a, ?_, by rw [g6, g36], ?_, ?_, ?_, f3.trans d, fun j hj => by rw [e9 j hj, k2 j hj]⟩
      · dsimp only
        rw [lt, show nf + (x.1.length + y.1.length) = nf + x.1.length + y.1.length by omega]
        exact b
      · dsimp only
        rw [pv2, List.length_append, ll, g7, g37]
        omega
      · dsimp only
        rw [pv2, List.length_append, ll, lt]
        omega
      · dsimp only
        rw [pv2]
        exact AA
theorem readSum_at (hkd : kd < 5) (hpr : bsN (kd + 1) = pr) {k nf : Nat} {h : aH} {S : Nat → Int32} {wd : Int64} {B : Nat → Nat → Int32} {G : Nat → Nat} (X : RSx h S wd tv fv t V Z T n k B W G nf) (NM : NmR B W m nm) (s17 : S 17 = jI kd) :
    (∀ e, suP T n nm m pr k nf = .inl e → ∃ h', s_X14_readSum 104 h = some (.inr (RX12, 118), h') ∧ FaR h h' S tv fv t V Z T n e) ∧
    (∀ x, suP T n nm m pr k nf = .inr x → ∃ h' S' wd' B' G', s_X14_readSum 104 h = some (.inl none, h') ∧ RSx h' S' wd' tv fv t V Z T n x.2 B' W G' (nf + x.1.length) ∧ G' 6 = G 6 ∧ G' 7 = G 7 + (postV x.1).length ∧ (postV x.1).length ≤ 2 * x.1.length ∧ apB (postV x.1) (G 7) B B' ∧ FrR t h h' ∧ kp17 S S') := by
  have X0 := X.1
  have i45 : s_X14_is 104 45 h = _ := is_R X0 (c := 45) (by decide) (by decide)
  unfold suP
  by_cases q : (tokS T n k).1 = 45
  · rw [if_pos q]
    obtain ⟨h1, S1, wd1, e1, X1, l1, o1, s1⟩ := X0.next (by omega)
    have qn := okt2_ne X0.2.2.2.2.2.2.1
    have X1' : RSx h1 S1 wd1 tv fv t V Z T n (k + 1) B W G nf := ⟨X1, X.2.1.of (fun i i1 i2 => o1 i (by omega)), by rw [s1 16 (by omega)]; exact X.2.2.1, X.2.2.2⟩
    have f1 : FrR t h h1 := ⟨l1, fun i i1 _ _ => o1 i i1⟩
    obtain ⟨c1, c2⟩ := rs15_at hkd hpr X1' NM (by rw [s1 17 (by omega)]; exact s17) true
    have head : ∀ {y : aO}, s_X14_readSum_15 104 (b01 true) h1 = y → s_X14_readSum 104 h = y := by
      intro y hy
      unfold s_X14_readSum
      rw [X0.kO, i45, show decide ((tokS T n k).1 = 45) = true from decide_eq_true q]
      simp only [cI]
      rw [if_neg (show ¬ b01 true = 0 by decide), X0.kO, e1]
      exact hy
    refine ⟨fun e he => ?_, fun x hx => ?_⟩
    · obtain ⟨h', a, b⟩ := c1 e he
      exact ⟨h', head a, FaR.trans f1 (fun j hj => s1 j (by omega)) b⟩
    · obtain ⟨h', S', wd', B', G', a, b, c, d, g, i, f, kk⟩ := c2 x hx
      exact ⟨h', S', wd', B', G', head a, b, c, d, g, i, f1.trans f, fun j hj => by rw [kk j hj, s1 j (by omega)]⟩
  · rw [if_neg q]
    obtain ⟨c1, c2⟩ := rs15_at hkd hpr X NM s17 false
    have head : ∀ {y : aO}, s_X14_readSum_15 104 (b01 false) h = y → s_X14_readSum 104 h = y := by
      intro y hy
      unfold s_X14_readSum
      rw [X0.kO, i45, show decide ((tokS T n k).1 = 45) = false from decide_eq_false q]
      simp only [cI]
      rw [if_pos (show b01 false = 0 by decide)]
      exact hy
    refine ⟨fun e he => ?_, fun x hx => ?_⟩
    · obtain ⟨h', a, b⟩ := c1 e he
      exact ⟨h', head a, b⟩
    · obtain ⟨h', S', wd', B', G', a, b⟩ := c2 x hx
      exact ⟨h', S', wd', B', G', head a, b⟩
end
