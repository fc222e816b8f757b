/-! the class reads a span, a sight -/
section
variable {h : aH} {T : Nat → Nat} {n e k : Nat} {wh : Int32} {A : Nat → Nat → Int32} {N : Nat → Int64} {F : Nat → Nat} {σ : pTh}
theorem nwP_none {kd : Nat} (h : nwP T n σ kd k = none) : (tokS T n k).1 = 1 ∧ thM σ kd < mxK kd := by
  unfold nwP at h
  by_cases q : (tokS T n k).1 = 1
  · rw [if_pos q] at h
    split at h
    · split at h
      · rename_i u; exact ⟨q, u⟩
      · cases h
    · cases h
  · rw [if_neg q] at h; cases h
theorem slot9 {m : Nat → Nat} {kd : Nat} (hkd : kd < 4) (h : m kd < mxK kd) : bsN kd + m kd < 9 := by
  match kd, hkd, h with
  | 0, _, t => show 0 + m 0 < 9; have t : m 0 < 3 := t; omega
  | 1, _, t => show 3 + m 1 < 9; have t : m 1 < 2 := t; omega
  | 2, _, t => show 5 + m 2 < 9; have t : m 2 < 2 := t; omega
  | 3, _, t => show 7 + m 3 < 9; have t : m 3 < 2 := t; omega
theorem decl9 {m : Nat → Nat} (hm : ∀ k, k < 4 → m k ≤ mxK k) {s : Nat} (h : decl m s) : s < 9 := by
  have h0 : m 0 ≤ 3 := hm 0 (by decide)
  have h1 : m 1 ≤ 2 := hm 1 (by decide)
  have h2 : m 2 ≤ 2 := hm 2 (by decide)
  have h3 : m 3 ≤ 2 := hm 3 (by decide)
  rcases h with z | z | z | z <;> omega
theorem spanLine_at (X : CLw h T n e k wh A N F) (D : cD A N F σ) {kd : Nat} (hkd : kd < 4) :
    (∀ x, spP T n σ kd k = .inl x → ∃ h', s_X6_spanLine 51 (jI kd) h = some (.inl (some (.int 0)), h') ∧ FaL h h' T n x) ∧
    (∀ x, spP T n σ kd k = .inr x → ∃ h' wh' A' N' F', s_X6_spanLine 51 (jI kd) h = some (.inl (some (.int 1)), h') ∧ CLw h' T n e x.2 wh' A' N' F' ∧ cD A' N' F' x.1 ∧ FrL h h') := by
  obtain ⟨n1, n2⟩ := newName_at X D (kd := kd) (by omega)
  have hm : ∀ k, k < 5 → thM σ k ≤ mxK k := fun k hk => (D.1 k hk).2
  unfold spP
  cases q1 : nwP T n σ kd k with
  | some f =>
    refine ⟨fun x hx => ?_, fun x hx => by cases hx⟩
    cases hx
    obtain ⟨h', a, b⟩ := n1 f q1
    refine ⟨h', ?_, b⟩
    unfold s_X6_spanLine
    rw [X.kO, a]
    rfl
  | none =>
    have a0 := n2 q1
    obtain ⟨tw, hl⟩ := nwP_none q1
    obtain ⟨w1, w2, -⟩ := tok_word tw
    obtain ⟨h1, e1, X1, f1⟩ := addName_at X D (kd := kd) (by omega) hl (wL 27 (tkW T (tokS T n k)))
    obtain ⟨h2, x2, g2, p2, X2, f2, -⟩ := X1.adv (by omega)
    have S1 : okS (upd2 A 1 (upd (A 1) kd (jI (thM σ kd + 1))) 14) := by rw [upd2_ne (by decide)]; exact D.2.2.2.2.1
    obtain ⟨i1, i2⟩ := integer_at X2 S1
    have s9 := slot9 (m := thM σ) hkd hl
    have f12 := f1.trans f2
    have head : ∀ {y : aO}, (cI (s_X6_integer 51 h2) fun x34 h34 => if x34 = 0 then (rtZ 0 h34) else ((gI h34 (.ref 51) 6 3).bind fun x43 => kO h34 51 6 (cI (s_X6_isWord 51 5 h34) fun x49 h49 => if x49 = 0 then (kO h49 51 6 (cI (s_X6_fail 51 1 h49) fun x57 h57 => rtZ x57 h57)) else ((gI h49 (.ref 51) 6 2).bind fun x62 => if x43 < (-20) then (s_X6_spanLine_79 51 h49) else (if x43 ≤ 20 then ((gI h49 (.ref 51) 6 2).bind fun x87 => (pF h49 (.ref 51) 6 2 (.int (x87 + 1))).bind fun h92 => kO h92 51 6 (cI (s_X6_integer 51 h92) fun x96 h96 => if x96 = 0 then (rtZ 0 h96) else ((gI h96 (.ref 51) 6 3).bind fun x105 => if 20 < x105 then (s_X6_spanLine_121 51 x62 h96) else ((gI h96 (.ref 51) 6 3).bind fun x114 => if x43 ≤ x114 then ((gO h96 (.ref 51) 6 5).bind fun x134 => (gO h96 (.ref x134) 2 2).bind fun x137 => (stI h96 (.ref x137) (jI (bsN kd + thM σ kd)) x43).bind fun h142 => (gO h142 (.ref 51) 6 5).bind fun x144 => (gO h142 (.ref x144) 2 3).bind fun x147 => (gI h142 (.ref 51) 6 3).bind fun x152 => (stI h142 (.ref x147) (jI (bsN kd + thM σ kd)) x152).bind fun h155 => rtZ 1 h155) else (s_X6_spanLine_121 51 x62 h96))))) else (s_X6_spanLine_79 51 h49)))))) = y → s_X6_spanLine 51 (jI kd) h = y := by
      intro y hy
      unfold s_X6_spanLine
      rw [X.kO, a0]
      simp only [cI]
      rw [if_neg (show ¬ (1 : Int32) = 0 by decide), X.g5.1, Option.bind_some, X.kO, X.mean]
      simp only [cJ]
      rw [X.2.kO, w2, e1]
      simp only []
      rw [g2, Option.bind_some, p2, Option.bind_some, X2.kO]
      exact hy
    dsimp only
    cases q2 : itP T n (k + 1) with
    | inl x =>
      refine ⟨fun z hz => ?_, fun x hx => by cases hx⟩
      cases hz
      obtain ⟨h', a, b⟩ := i1 x q2
      exact ⟨h', head (by rw [a]; rfl), FaL.trans f12 b⟩
    | inr a =>
      obtain ⟨h3, e3, X3, f3⟩ := i2 a q2
      have f123 := f12.trans f3
      have iw : s_X6_isWord 51 5 h3 = _ := X3.isW (i := 5) (by decide)
      dsimp only
      by_cases qw : isWd T n 5 a.2 = true
      · rw [if_pos qw]
        have tn : (tokS T n a.2).1 ≠ 0 := by have := (of_decide_eq_true qw).1; omega
        have head2 : ∀ {y : aO}, (if a.1 < (-20) then (s_X6_spanLine_79 51 h3) else (if a.1 ≤ 20 then ((gI h3 (.ref 51) 6 2).bind fun x87 => (pF h3 (.ref 51) 6 2 (.int (x87 + 1))).bind fun h92 => kO h92 51 6 (cI (s_X6_integer 51 h92) fun x96 h96 => if x96 = 0 then (rtZ 0 h96) else ((gI h96 (.ref 51) 6 3).bind fun x105 => if 20 < x105 then (s_X6_spanLine_121 51 (jI a.2) h96) else ((gI h96 (.ref 51) 6 3).bind fun x114 => if a.1 ≤ x114 then ((gO h96 (.ref 51) 6 5).bind fun x134 => (gO h96 (.ref x134) 2 2).bind fun x137 => (stI h96 (.ref x137) (jI (bsN kd + thM σ kd)) a.1).bind fun h142 => (gO h142 (.ref 51) 6 5).bind fun x144 => (gO h142 (.ref x144) 2 3).bind fun x147 => (gI h142 (.ref 51) 6 3).bind fun x152 => (stI h142 (.ref x147) (jI (bsN kd + thM σ kd)) x152).bind fun h155 => rtZ 1 h155) else (s_X6_spanLine_121 51 (jI a.2) h96))))) else (s_X6_spanLine_79 51 h3))) = y → s_X6_spanLine 51 (jI kd) h = y := by
          intro y hy
          refine head ?_
          rw [e3]
          simp only [cI]
          rw [if_neg (show ¬ (1 : Int32) = 0 by decide), X3.g5.2.2.1, Option.bind_some, X3.kO, iw, qw]
          simp only []
          rw [if_neg (show ¬ b01 true = 0 by decide), X3.g5.2.2.2, Option.bind_some]
          rw [X3.g5.2.2.2] at hy
          exact hy
        have f79 : ∃ h', s_X6_spanLine_79 51 h3 = some (.inl (some (.int 0)), h') ∧ FaL h h' T n (4, a.2) := by
          obtain ⟨h', u, v⟩ := X3.failL S1 4
          refine ⟨h', ?_, FaL.trans f123 v⟩
          unfold s_X6_spanLine_79
          have u' : s_X6_fail 51 4 h3 = _ := u
          rw [X3.kO, u']
          rfl
        by_cases qa : a.1 < -20 ∨ 20 < a.1
        · rw [if_pos qa]
          refine ⟨fun z hz => ?_, fun x hx => by cases hx⟩
          cases hz
          obtain ⟨h', u, v⟩ := f79
          refine ⟨h', head2 ?_, v⟩
          rcases qa with qa | qa
          · rw [if_pos qa]; exact u
          · rw [if_neg (fun z => by
              have z1 := Int32.lt_iff_toInt_lt.mp z
              have z2 := Int32.lt_iff_toInt_lt.mp qa
              have c1 : (-20 : Int32).toInt = -20 := by decide
              have c2 : (20 : Int32).toInt = 20 := by decide
              omega), if_neg (Int32.not_le.mpr qa)]
            exact u
        · rw [if_neg qa]
          have qa1 : ¬ a.1 < -20 := fun z => qa (Or.inl z)
          have qa2 : a.1 ≤ 20 := Int32.not_lt.mp (fun z => qa (Or.inr z))
          obtain ⟨h4, x4, g4, p4, X4, f4, -⟩ := X3.adv tn
          have f4' := f123.trans f4
          obtain ⟨j1, j2⟩ := integer_at X4 S1
          have head3 : ∀ {y : aO}, (cI (s_X6_integer 51 h4) fun x96 h96 => if x96 = 0 then (rtZ 0 h96) else ((gI h96 (.ref 51) 6 3).bind fun x105 => if 20 < x105 then (s_X6_spanLine_121 51 (jI a.2) h96) else ((gI h96 (.ref 51) 6 3).bind fun x114 => if a.1 ≤ x114 then ((gO h96 (.ref 51) 6 5).bind fun x134 => (gO h96 (.ref x134) 2 2).bind fun x137 => (stI h96 (.ref x137) (jI (bsN kd + thM σ kd)) a.1).bind fun h142 => (gO h142 (.ref 51) 6 5).bind fun x144 => (gO h142 (.ref x144) 2 3).bind fun x147 => (gI h142 (.ref 51) 6 3).bind fun x152 => (stI h142 (.ref x147) (jI (bsN kd + thM σ kd)) x152).bind fun h155 => rtZ 1 h155) else (s_X6_spanLine_121 51 (jI a.2) h96)))) = y → s_X6_spanLine 51 (jI kd) h = y := by
            intro y hy
            refine head2 ?_
            rw [if_neg qa1, if_pos qa2, g4, Option.bind_some, p4, Option.bind_some, X4.kO]
            exact hy
          cases q3 : itP T n (a.2 + 1) with
          | inl x =>
            refine ⟨fun z hz => ?_, fun x hx => by cases hx⟩
            cases hz
            obtain ⟨h', u, v⟩ := j1 x q3
            exact ⟨h', head3 (by rw [u]; rfl), FaL.trans f4' v⟩
          | inr b =>
            obtain ⟨h5, e5, X5, f5⟩ := j2 b q3
            have f5' := f4'.trans f5
            have f121 : ∃ h', s_X6_spanLine_121 51 (jI a.2) h5 = some (.inl (some (.int 0)), h') ∧ FaL h h' T n (4, a.2) := by
              obtain ⟨⟨fa, pl, P⟩, H⟩ := X5
              have u1 := P.1.set (i := 2) (x := jI a.2) (by decide)
              obtain ⟨h6, hh6⟩ : ∃ h6, h6 = h5.set 51 (.inr (6, [.int (if 2 = 0 then jI a.2 else fa), .int (if 2 = 1 then jI a.2 else pl), .int (if 2 = 2 then jI a.2 else jI b.2), .int (if 2 = 3 then jI a.2 else b.1), .int (if 2 = 4 then jI a.2 else jI 9), .ref 23, .ref 35, .ref 52])) := ⟨_, rfl⟩
              rw [← hh6] at u1
              have o6 : ∀ i, i ≠ 51 → h6[i]? = h5[i]? := fun i hi => by rw [hh6, set_ne (fun z => hi z.symm)]
              have ke : a.2 ≤ e := by
                obtain ⟨⟨_, _, P3⟩, -⟩ := X3
                exact P3.2.2.1
              have X6 : CLw h6 T n e a.2 b.1 (upd2 A 1 (upd (A 1) kd (jI (thM σ kd + 1)))) (vp_updL N (bsN kd + thM σ kd) (wL 27 (tkW T (tokS T n k)))) F := ⟨⟨fa, pl, by rw [hh6]; exact set_eq P.1, P.2.1.of (fun i i1 i2 => o6 i (by omega)), ke, P.2.2.2⟩, H.of (fun i i1 i2 => o6 i (by omega))⟩
              obtain ⟨h', u, v⟩ := X6.failL S1 4
              refine ⟨h', ?_, FaL.trans (f5'.trans ⟨by rw [hh6, List.length_set], fun i i1 _ => o6 i i1⟩) v⟩
              unfold s_X6_spanLine_121
              have u' : s_X6_fail 51 4 h6 = _ := u
              rw [u1, Option.bind_some, X6.kO, u']
              rfl
            have head4 : ∀ {y : aO}, (if 20 < b.1 then (s_X6_spanLine_121 51 (jI a.2) h5) else ((gI h5 (.ref 51) 6 3).bind fun x114 => if a.1 ≤ x114 then ((gO h5 (.ref 51) 6 5).bind fun x134 => (gO h5 (.ref x134) 2 2).bind fun x137 => (stI h5 (.ref x137) (jI (bsN kd + thM σ kd)) a.1).bind fun h142 => (gO h142 (.ref 51) 6 5).bind fun x144 => (gO h142 (.ref x144) 2 3).bind fun x147 => (gI h142 (.ref 51) 6 3).bind fun x152 => (stI h142 (.ref x147) (jI (bsN kd + thM σ kd)) x152).bind fun h155 => rtZ 1 h155) else (s_X6_spanLine_121 51 (jI a.2) h5))) = y → s_X6_spanLine 51 (jI kd) h = y := by
              intro y hy
              refine head3 ?_
              rw [e5]
              simp only [cI]
              rw [if_neg (show ¬ (1 : Int32) = 0 by decide), X5.g5.2.2.1, Option.bind_some]
              rw [X5.g5.2.2.1] at hy
              exact hy
            dsimp only
            by_cases qb : 20 < b.1 ∨ b.1 < a.1
            · rw [if_pos qb]
              refine ⟨fun z hz => ?_, fun x hx => by cases hx⟩
              cases hz
              obtain ⟨h', u, v⟩ := f121
              refine ⟨h', head4 ?_, v⟩
              by_cases u1 : 20 < b.1
              · rw [if_pos u1]; exact u
              · rw [if_neg u1, X5.g5.2.2.1, Option.bind_some, if_neg (Int32.not_le.mpr (qb.elim (fun z => absurd z u1) id))]; exact u
            · rw [if_neg qb]
              refine ⟨fun z hz => (by cases hz), fun x hx => ?_⟩
              cases hx
              have qb1 : ¬ 20 < b.1 := fun z => qb (Or.inl z)
              have qb2 : a.1 ≤ b.1 := Int32.not_lt.mp (fun z => qb (Or.inr z))
              obtain ⟨h6, e6, H6, l6, o6⟩ := X5.2.row (k := 3) (j := bsN kd + thM σ kd) (by decide) (by decide) s9 a.1
              have X6 := X5.to H6 (fun i hi => o6 i (by omega))
              obtain ⟨h7, e7, H7, l7, o7⟩ := H6.row (k := 4) (j := bsN kd + thM σ kd) (by decide) (by decide) s9 b.1
              have X7 := X6.to H7 (fun i hi => o7 i (by omega))
              have f67 : FrL h5 h7 := ⟨by rw [l7, l6], fun i _ hi => by rw [o7 i (by omega), o6 i (by omega)]⟩
              refine ⟨h7, _, _, _, _, head4 ?_, X7, ?_, f5'.trans f67⟩
              · have gl : gO h5 (.ref 23) 2 2 = some 26 := X5.2.lo
                have gh : gO h6 (.ref 23) 2 3 = some 27 := H6.hi
                have e6' : stI h5 (.ref 26) (jI (bsN kd + thM σ kd)) a.1 = some h6 := e6
                have e7' : stI h6 (.ref 27) (jI (bsN kd + thM σ kd)) b.1 = some h7 := e7
                rw [if_neg qb1, X5.g5.2.2.1, Option.bind_some, if_pos qb2, X5.g5.1, Option.bind_some, gl, Option.bind_some, e6', Option.bind_some, X6.g5.1, Option.bind_some, gh, Option.bind_some, X6.g5.2.2.1, Option.bind_some, e7', Option.bind_some]
                rfl
              · have c1 : (-20 : Int32).toInt = -20 := by decide
                have c2 : (20 : Int32).toInt = 20 := by decide
                have z1 : -20 ≤ a.1.toInt := by
                  have : ¬ a.1.toInt < (-20 : Int32).toInt := fun z => qa1 (Int32.lt_iff_toInt_lt.mpr z)
                  omega
                have z2 : a.1.toInt ≤ b.1.toInt := Int32.le_iff_toInt_le.mp qb2
                have z3 : b.1.toInt ≤ 20 := by
                  have : ¬ (20 : Int32).toInt < b.1.toInt := fun z => qb1 (Int32.lt_iff_toInt_lt.mpr z)
                  omega
                refine cD.name D (kd := kd) (by omega) hl w1 ?_ (fun i hi => ?_) rfl (fun s hs => ?_) ?_
                · rw [upd2_ne (by decide), upd2_ne (by decide), upd2_eq]
                · rw [upd2_ne (by omega), upd2_ne (by omega), upd2_ne (by omega)]
                · rw [upd2_ne (show (3 : Nat) ≠ 4 by decide), upd2_eq, upd2_eq, upd2_ne (show (3 : Nat) ≠ 1 by decide), upd2_ne (show (4 : Nat) ≠ 3 by decide), upd2_ne (show (4 : Nat) ≠ 1 by decide)]
                  by_cases u : s = bsN kd + thM σ kd
                  · rw [u, upd_eq, upd_eq, upd_eq, upd_eq]
                    exact ⟨rfl, rfl, z1, z2, z3⟩
                  · rw [upd_ne u, upd_ne u, upd_ne u, upd_ne u]
                    refine D.2.2.1 s ?_
                    have d9 : s < 9 := decl9 (fun k hk => by
                      by_cases v : k = kd
                      · rw [v, upd2_eq]; exact hl
                      · rw [upd2_ne v]; exact hm k (by omega)) hs
                    rcases (dcl_new hm (by omega) hl s).1.mp (decl_5 hs) with v | v
                    · exact absurd v u
                    · exact dcl5_4 v d9
                · rw [upd2_ne (by omega)]
                  exact D.2.2.2.1.2.2.2.2.2
      · rw [if_neg qw]
        refine ⟨fun z hz => ?_, fun x hx => by cases hx⟩
        cases hz
        obtain ⟨h', u, v⟩ := X3.failL S1 1
        refine ⟨h', head ?_, FaL.trans f123 v⟩
        have u' : s_X6_fail 51 1 h3 = _ := u
        rw [e3]
        simp only [cI]
        rw [if_neg (show ¬ (1 : Int32) = 0 by decide), X3.g5.2.2.1, Option.bind_some, X3.kO, iw, Bool.eq_false_iff.mpr qw]
        simp only []
        rw [if_pos (show b01 false = 0 by decide), X3.kO, u']
        rfl
end
