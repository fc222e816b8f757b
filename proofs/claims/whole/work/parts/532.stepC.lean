/-! the class reads a step -/
section
variable {h : aH} {T : Nat → Nat} {n e k : Nat} {wh : Int32} {A : Nat → Nat → Int32} {N : Nat → Int64} {F : Nat → Nat} {σ : pTh}
/-- a step more, once its factors and ones stand -/
theorem cD.step (D : cD A N F σ) {A' : Nat → Nat → Int32} {s a b c d : Nat} {l : List pFa} {os : List pOne} (h8 : F 4 < 8) (hs : s < thM σ 0) (h5 : A' 5 = upd (A 5) (F 4) (jI s)) (h6 : A' 6 = upd (A 6) (F 4) (jI a)) (h7 : A' 7 = upd (A 7) (F 4) (jI (a + b))) (h8' : A' 8 = upd (A 8) (F 4) (jI c)) (h9 : A' 9 = upd (A 9) (F 4) (jI (c + d))) (hr : ∀ k, (k < 5 ∨ 9 < k) → A' k = A k)
    (hab : a + b ≤ thF σ) (hcd : c + d ≤ F 24) (hl : seg3 (A 13) (A 14) (A 15) a b = l) (ho : segO (A 13) (A 14) (A 15) (A 16) (A 17) (A 18) (A 19) c d = os) (k1 : okFc (thM σ) 9 l) (k2 : ∀ o ∈ os, okFc (thM σ) 9 o.1 ∧ okFc (thM σ) 9 o.2.1) :
    cD A' N (upd2 F 4 (F 4 + 1)) (thM σ, thN σ, thL σ, thH σ, thS σ ++ [(s, l, os)], thG σ, thF σ) := by
  obtain ⟨d1, d2, d3, d4, d5, d6, d7, d8⟩ := D
  have d60 : thF σ ≤ 60 := d4.2.2.2.1
  have d24 : 2 * F 24 ≤ thF σ := d4.2.2.2.2.1
  have r3 : A' 13 = A 13 ∧ A' 14 = A 14 ∧ A' 15 = A 15 := ⟨hr 13 (by omega), hr 14 (by omega), hr 15 (by omega)⟩
  have r4 : A' 16 = A 16 ∧ A' 17 = A 17 ∧ A' 18 = A 18 ∧ A' 19 = A 19 := ⟨hr 16 (by omega), hr 17 (by omega), hr 18 (by omega), hr 19 (by omega)⟩
  have f24 : upd2 F 4 (F 4 + 1) 24 = F 24 := upd2_ne (by decide)
  refine ⟨fun k hk => by rw [hr 1 (by omega)]; exact d1 k hk, d2, fun s z => by rw [hr 3 (by omega), hr 4 (by omega)]; exact d3 s z, ⟨?_, ?_, by rw [upd2_ne (by decide)]; exact d4.2.2.1, d60, by rw [f24]; exact d24, d4.2.2.2.2.2⟩, by rw [r3.2.1]; exact d5, fun i hi => ?_, fun i x hx => ?_, fun i l' hl' => ?_⟩
  · rw [upd2_eq]
    show F 4 + 1 = (thS σ ++ [(s, l, os)]).length
    rw [List.length_append, ← d4.1]
    rfl
  · rw [upd2_eq]; omega
  · rw [f24] at hi
    rw [r4.1, r4.2.1, r4.2.2.1]; exact d6 i hi
  · have hx : (thS σ ++ [(s, l, os)])[i]? = some x := hx
    have sl := d4.1
    by_cases u : i < (thS σ).length
    · rw [List.getElem?_append_left u] at hx
      obtain ⟨e1, e2, e3, e4, e5, e6, e7, e8⟩ := d7 i x hx
      have n : i ≠ F 4 := by omega
      have n5 : A' 5 i = A 5 i := by rw [h5, upd_ne n]
      have n6 : A' 6 i = A 6 i := by rw [h6, upd_ne n]
      have n7 : A' 7 i = A 7 i := by rw [h7, upd_ne n]
      have n8 : A' 8 i = A 8 i := by rw [h8', upd_ne n]
      have n9 : A' 9 i = A 9 i := by rw [h9, upd_ne n]
      refine ⟨n5.trans e1, e2, okP2_cg n6 n7 (Nat.le_refl _) e3, ?_, okP2_cg n8 n9 (by rw [f24]; exact Nat.le_refl _) e5, ?_, e7, e8⟩
      · unfold sgm at e4 ⊢
        rw [n6, n7, r3.1, r3.2.1, r3.2.2]
        exact e4
      · unfold sgo at e6 ⊢
        rw [n8, n9, r3.1, r3.2.1, r3.2.2, r4.1, r4.2.1, r4.2.2.1, r4.2.2.2]
        exact e6
    · rw [List.getElem?_append_right (by omega)] at hx
      have ie : i = F 4 := by
        have := (List.getElem?_eq_some_iff.mp hx).1
        simp at this
        omega
      rw [ie, sl, Nat.sub_self] at hx
      cases hx
      subst ie
      refine ⟨by rw [h5, upd_eq], hs, ⟨a, b, by rw [h6, upd_eq], by rw [h7, upd_eq], hab⟩, ?_, ⟨c, d, by rw [h8', upd_eq], by rw [h9, upd_eq], by rw [f24]; exact hcd⟩, ?_, k1, k2⟩
      · unfold sgm
        rw [h6, h7, upd_eq, upd_eq, jI_cl (by omega), jI_cl (by omega), r3.1, r3.2.1, r3.2.2, show a + b - a = b by omega]
        exact hl
      · unfold sgo
        rw [h8', h9, upd_eq, upd_eq, jI_cl (by omega), jI_cl (by omega), r3.1, r3.2.1, r3.2.2, r4.1, r4.2.1, r4.2.2.1, r4.2.2.2, show c + d - c = d by omega]
        exact ho
  · obtain ⟨e1, e2, e3⟩ := d8 i l' hl'
    exact ⟨okP2_cg (by rw [hr 10 (by omega)]) (by rw [hr 11 (by omega)]) (Nat.le_refl _) e1, by rw [sgm_cg (hr 10 (by omega)) (hr 11 (by omega)) r3]; exact e2, e3⟩
theorem addStep_at (X : CLw h T n e k wh A N F) (h8 : F 4 < 8) (s a b c : Int32) : ∃ h' A', s_X2_addStep 23 s a b c h = some (.inl none, h') ∧ CLw h' T n e k wh A' N (upd2 F 4 (F 4 + 1)) ∧ A' 5 = upd (A 5) (F 4) s ∧ A' 6 = upd (A 6) (F 4) a ∧ A' 7 = upd (A 7) (F 4) b ∧ A' 8 = upd (A 8) (F 4) c ∧ A' 9 = upd (A 9) (F 4) (jI (F 24)) ∧ (∀ k, (k < 5 ∨ 9 < k) → A' k = A k) ∧ FrL h h' := by
  have gs : ∀ {h : aH} {A : Nat → Nat → Int32}, isM h 23 A N F → gI h (.ref 23) 2 4 = some (jI (F 4)) ∧ gO h (.ref 23) 2 5 = some 28 ∧ gO h (.ref 23) 2 6 = some 29 ∧ gO h (.ref 23) 2 7 = some 30 ∧ gO h (.ref 23) 2 8 = some 31 ∧ gO h (.ref 23) 2 9 = some 32 ∧ gO h (.ref 23) 2 16 = some 35 ∧ gI h (.ref 35) 0 4 = some (jI (F 24)) := fun H => ⟨gI_of (ltE (by decide)) H.2.1 rfl, gO_of (ltE (by decide)) H.2.1 rfl, gO_of (ltE (by decide)) H.2.1 rfl, gO_of (ltE (by decide)) H.2.1 rfl, gO_of (ltE (by decide)) H.2.1 rfl, gO_of (ltE (by decide)) H.2.1 rfl, gO_of (ltE (by decide)) H.2.1 rfl, gI_of (ltE (by decide)) H.2.2.2.2.2.2.1 rfl⟩
  obtain ⟨h1, e1, H1, l1, o1⟩ := X.2.row (k := 5) (j := F 4) (by decide) (by decide) h8 s
  obtain ⟨h2, e2, H2, l2, o2⟩ := H1.row (k := 6) (j := F 4) (by decide) (by decide) h8 a
  obtain ⟨h3, e3, H3, l3, o3⟩ := H2.row (k := 7) (j := F 4) (by decide) (by decide) h8 b
  obtain ⟨h4, e4, H4, l4, o4⟩ := H3.row (k := 8) (j := F 4) (by decide) (by decide) h8 c
  obtain ⟨h5, e5, H5, l5, o5⟩ := H4.row (k := 9) (j := F 4) (by decide) (by decide) h8 (jI (F 24))
  obtain ⟨h6, e6, H6, l6, o6⟩ := H5.num (k := 4) (Or.inl rfl) (F 4 + 1)
  have oo : ∀ i, (i < 23 ∨ 42 < i) → h6[i]? = h[i]? := fun i hi => by rw [o6 i (by omega), o5 i (by omega), o4 i (by omega), o3 i (by omega), o2 i (by omega), o1 i (by omega)]
  refine ⟨h6, _, ?_, X.to H6 oo, ?_, ?_, ?_, ?_, ?_, fun k hk => ?_, ⟨by rw [l6, l5, l4, l3, l2, l1], fun i _ hi => oo i hi⟩⟩
  · have e1' : stI h (.ref 28) (jI (F 4)) s = some h1 := e1
    have e2' : stI h1 (.ref 29) (jI (F 4)) a = some h2 := e2
    have e3' : stI h2 (.ref 30) (jI (F 4)) b = some h3 := e3
    have e4' : stI h3 (.ref 31) (jI (F 4)) c = some h4 := e4
    have e5' : stI h4 (.ref 32) (jI (F 4)) (jI (F 24)) = some h5 := e5
    unfold s_X2_addStep
    rw [(gs X.2).2.1, Option.bind_some, (gs X.2).1, Option.bind_some, e1', Option.bind_some, (gs H1).2.2.1, Option.bind_some, (gs H1).1, Option.bind_some, e2', Option.bind_some, (gs H2).2.2.2.1, Option.bind_some, (gs H2).1, Option.bind_some, e3', Option.bind_some, (gs H3).2.2.2.2.1, Option.bind_some, (gs H3).1, Option.bind_some, e4', Option.bind_some, (gs H4).2.2.2.2.2.1, Option.bind_some, (gs H4).1, Option.bind_some, (gs H4).2.2.2.2.2.2.1, Option.bind_some, (gs H4).2.2.2.2.2.2.2, Option.bind_some, e5', Option.bind_some, (gs H5).1, Option.bind_some, jI_inc, e6, Option.bind_some]
  · rw [upd2_ne (by decide), upd2_ne (by decide), upd2_ne (by decide), upd2_ne (by decide), upd2_eq]
  · rw [upd2_ne (by decide), upd2_ne (by decide), upd2_ne (by decide), upd2_eq, upd2_ne (by decide)]
  · rw [upd2_ne (by decide), upd2_ne (by decide), upd2_eq, upd2_ne (by decide), upd2_ne (by decide)]
  · rw [upd2_ne (by decide), upd2_eq, upd2_ne (by decide), upd2_ne (by decide), upd2_ne (by decide)]
  · rw [upd2_eq, upd2_ne (by decide), upd2_ne (by decide), upd2_ne (by decide), upd2_ne (by decide)]
  · rw [upd2_ne (by omega), upd2_ne (by omega), upd2_ne (by omega), upd2_ne (by omega), upd2_ne (by omega)]
theorem stepLine_at (X : CLw h T n e k wh A N F) (D : cD A N F σ) {s : Nat} (hs : s < thM σ 0) (tw : (tokS T n k).1 ≠ 0) :
    (∀ x, stP T n σ s k = .inl x → ∃ h', s_X6_stepLine 51 (jI s) h = some (.inl (some (.int 0)), h') ∧ FaL h h' T n x) ∧
    (∀ x, stP T n σ s k = .inr x → ∃ h' wh' A' N' F', s_X6_stepLine 51 (jI s) h = some (.inl (some (.int 1)), h') ∧ CLw h' T n e x.2 wh' A' N' F' ∧ cD A' N' F' x.1 ∧ FrL h h') := by
  have fN : F 20 = thF σ := D.2.2.2.1.2.2.1
  have f60 : thF σ ≤ 60 := D.2.2.2.1.2.2.2.1
  have f24 : 2 * F 24 ≤ thF σ := D.2.2.2.1.2.2.2.2.1
  have f4 : F 4 = (thS σ).length := D.2.2.2.1.1
  have hS := D.2.2.2.2.1
  have g4 : gI h (.ref 23) 2 4 = some (jI (F 4)) := gI_of (ltE (by decide)) X.2.2.1 rfl
  unfold stP
  by_cases q0 : (thS σ).length < 8
  · rw [if_pos q0]
    obtain ⟨h1, x1, g1, p1, X1, f1, o1⟩ := X.adv tw
    have NM1 := D.nm X1.2
    obtain ⟨c1, c2⟩ := pass_at X1 hS (c := 61) (by decide) (by decide)
    have head : ∀ {y : aO}, (cI (s_X6_pass 51 61 h1) fun x39 h39 => if x39 = 0 then (rtZ 0 h39) else (kO h39 51 6 (cI (s_X6_sum 51 h39) fun x46 h46 => if x46 = 0 then (rtZ 0 h46) else ((gO h46 (.ref 51) 6 6).bind fun x55 => (gI h46 (.ref x55) 0 0).bind fun x58 => (gO h46 (.ref 51) 6 6).bind fun x63 => (gI h46 (.ref x63) 0 4).bind fun x66 => kO h46 51 6 (cI (s_X6_isWord 51 6 h46) fun x74 h74 => if x74 = 0 then (s_X6_stepLine_99 51 (jI s) (jI (F 20)) x58 x66 h74) else ((gI h74 (.ref 51) 6 2).bind fun x82 => (pF h74 (.ref 51) 6 2 (.int (x82 + 1))).bind fun h87 => kO h87 51 6 (cI (s_X6_test 51 h87) fun x91 h91 => if x91 = 0 then (rtZ 0 h91) else (s_X6_stepLine_99 51 (jI s) (jI (F 20)) x58 x66 h91))))))) ) = y → s_X6_stepLine 51 (jI s) h = y := by
      intro y hy
      unfold s_X6_stepLine
      rw [X.g5.1, Option.bind_some, g4, Option.bind_some, if_pos (show jI (F 4) < 8 from (jI_lt (k := 8) (by omega) (by omega)).mpr (by omega)), g1, Option.bind_some, p1, Option.bind_some, X1.g5.2.1, Option.bind_some, X1.nf.1, Option.bind_some, X1.kO]
      exact hy
    by_cases q1 : (tokS T n (k + 1)).1 = 61
    · rw [if_pos q1]
      obtain ⟨h2, e2, X2, f2⟩ := c2 q1
      have e2' : s_X6_pass 51 61 h1 = _ := e2
      have f12 := f1.trans f2
      have NM2 := D.nm X2.2
      obtain ⟨s1, s2⟩ := sumL_at X2 NM2 hS (by omega)
      rw [fN] at s1 s2
      have e22 : suP T n (thN σ) (thM σ) 9 (k + 2) (thF σ) = suP T n (thN σ) (thM σ) 9 (k + 1 + 1) (thF σ) := rfl
      rw [e22]
      have head2 : ∀ {y : aO}, (cI (s_X6_sum 51 h2) fun x46 h46 => if x46 = 0 then (rtZ 0 h46) else ((gO h46 (.ref 51) 6 6).bind fun x55 => (gI h46 (.ref x55) 0 0).bind fun x58 => (gO h46 (.ref 51) 6 6).bind fun x63 => (gI h46 (.ref x63) 0 4).bind fun x66 => kO h46 51 6 (cI (s_X6_isWord 51 6 h46) fun x74 h74 => if x74 = 0 then (s_X6_stepLine_99 51 (jI s) (jI (F 20)) x58 x66 h74) else ((gI h74 (.ref 51) 6 2).bind fun x82 => (pF h74 (.ref 51) 6 2 (.int (x82 + 1))).bind fun h87 => kO h87 51 6 (cI (s_X6_test 51 h87) fun x91 h91 => if x91 = 0 then (rtZ 0 h91) else (s_X6_stepLine_99 51 (jI s) (jI (F 20)) x58 x66 h91)))))) = y → s_X6_stepLine 51 (jI s) h = y := by
        intro y hy
        refine head ?_
        rw [e2']
        simp only [cI]
        rw [if_neg (show ¬ (1 : Int32) = 0 by decide), X2.kO]
        exact hy
      cases q2 : suP T n (thN σ) (thM σ) 9 (k + 1 + 1) (thF σ) with
      | inl x =>
        refine ⟨fun z hz => ?_, fun x hx => by cases hx⟩
        cases hz
        obtain ⟨h', a, b⟩ := s1 x q2
        exact ⟨h', head2 (by rw [a]; rfl), FaL.trans f12 b⟩
      | inr x =>
        obtain ⟨w60, h3, jn, sl, ww, a3, X3, R3, S3, f3⟩ := s2 x q2
        have f123 := f12.trans f3
        have D3 := cD.rows D (jn := jn) (sl := sl) (ww := ww) (st := A 16) (mi := A 17) (en := A 18) (re := A 19) (nf := thF σ + x.1.length) (no := F 24) (by omega) w60 (Nat.le_refl _) (by omega) S3 (fun j hj => R3.1 j hj) (fun _ _ => ⟨rfl, rfl, rfl, rfl⟩) (fun j h1 h2 => by omega)
        have iw : s_X6_isWord 51 6 h3 = _ := X3.isW (i := 6) (by decide)
        have nf3 := X3.nf
        rw [upd2_ne (by decide), upd2_eq, upd2_eq] at nf3
        have head3 : ∀ {y : aO}, (if b01 (isWd T n 6 x.2) = 0 then (s_X6_stepLine_99 51 (jI s) (jI (F 20)) (jI (thF σ + x.1.length)) (jI (F 24)) h3) else ((gI h3 (.ref 51) 6 2).bind fun x82 => (pF h3 (.ref 51) 6 2 (.int (x82 + 1))).bind fun h87 => kO h87 51 6 (cI (s_X6_test 51 h87) fun x91 h91 => if x91 = 0 then (rtZ 0 h91) else (s_X6_stepLine_99 51 (jI s) (jI (F 20)) (jI (thF σ + x.1.length)) (jI (F 24)) h91)))) = y → s_X6_stepLine 51 (jI s) h = y := by
          intro y hy
          refine head2 ?_
          rw [a3]
          simp only [cI]
          rw [if_neg (show ¬ (1 : Int32) = 0 by decide), X3.g5.2.1, Option.bind_some, nf3.1, Option.bind_some, Option.bind_some, nf3.2, Option.bind_some, X3.kO, iw]
          exact hy
        have fin : ∀ {h9 : aH} {k9 : Nat} {A9 : Nat → Nat → Int32} {F9 : Nat → Nat} {σ9 : pTh} {os : List pOne}, CLw h9 T n e k9 wh A9 N F9 → cD A9 N F9 σ9 → thM σ9 = thM σ → F9 4 = F 4 → seg3 (A9 13) (A9 14) (A9 15) (thF σ) x.1.length = x.1 → thF σ + x.1.length ≤ thF σ9 → F 24 ≤ F9 24 → segO (A9 13) (A9 14) (A9 15) (A9 16) (A9 17) (A9 18) (A9 19) (F 24) (F9 24 - F 24) = os → (∀ o ∈ os, okFc (thM σ) 9 o.1 ∧ okFc (thM σ) 9 o.2.1) → ∃ h' A' F', s_X6_stepLine_99 51 (jI s) (jI (F 20)) (jI (thF σ + x.1.length)) (jI (F 24)) h9 = some (.inl (some (.int 1)), h') ∧ CLw h' T n e k9 wh A' N F' ∧ cD A' N F' (thM σ9, thN σ9, thL σ9, thH σ9, thS σ9 ++ [(s, x.1, os)], thG σ9, thF σ9) ∧ FrL h9 h' := by
          intro h9 k9 A9 F9 σ9 os X9 D9 m9 g9 r9 n9 o9 so ok9
          obtain ⟨h', A', e9, X', a5, a6, a7, a8, a9, ar, fr⟩ := addStep_at X9 (by omega) (jI s) (jI (F 20)) (jI (thF σ + x.1.length)) (jI (F 24))
          refine ⟨h', A', _, ?_, X', ?_, fr⟩
          · unfold s_X6_stepLine_99
            rw [X9.g5.1, Option.bind_some, X9.2.kO, e9]
            rfl
          · refine cD.step D9 (s := s) (a := thF σ) (b := x.1.length) (c := F 24) (d := F9 24 - F 24) (by omega) (by rw [m9]; exact hs) a5 (by rw [← fN]; exact a6) a7 a8 (by rw [show F 24 + (F9 24 - F 24) = F9 24 by omega]; exact a9) ar n9 (by omega) r9 so (by rw [m9]; exact suP_ok q2) (by rw [m9]; exact ok9)
        dsimp only
        by_cases q3 : isWd T n 6 x.2 = true
        · rw [if_pos q3]
          have tn : (tokS T n x.2).1 ≠ 0 := by have := (of_decide_eq_true q3).1; omega
          obtain ⟨h4, x4, g4', p4, X4, f4', o4⟩ := X3.adv tn
          have NM4 := D3.nm X4.2
          have F20 : upd2 (upd2 F 20 (thF σ + x.1.length)) 24 (F 24) 20 = thF σ + x.1.length := by rw [upd2_ne (by decide), upd2_eq]
          have F24 : upd2 (upd2 F 20 (thF σ + x.1.length)) 24 (F 24) 24 = F 24 := upd2_eq
          obtain ⟨t1, t2⟩ := testL_at X4 NM4 S3 (by rw [F20]; exact w60) (by rw [F20, F24]; omega)
          rw [F20] at t1 t2
          rw [F24] at t2
          have head4 : ∀ {y : aO}, (cI (s_X6_test 51 h4) fun x91 h91 => if x91 = 0 then (rtZ 0 h91) else (s_X6_stepLine_99 51 (jI s) (jI (F 20)) (jI (thF σ + x.1.length)) (jI (F 24)) h91)) = y → s_X6_stepLine 51 (jI s) h = y := by
            intro y hy
            refine head3 ?_
            rw [q3, if_neg (show ¬ b01 true = 0 by decide), g4', Option.bind_some, p4, Option.bind_some, X4.kO]
            exact hy
          have ee : teP T n (thN (thM σ, thN σ, thL σ, thH σ, thS σ, thG σ, thF σ + x.1.length)) (thM (thM σ, thN σ, thL σ, thH σ, thS σ, thG σ, thF σ + x.1.length)) 9 31 (x.2 + 1) (thF σ + x.1.length) = teP T n (thN σ) (thM σ) 9 31 (x.2 + 1) (thF σ + x.1.length) := rfl
          rw [ee] at t1 t2
          cases q4 : teP T n (thN σ) (thM σ) 9 31 (x.2 + 1) (thF σ + x.1.length) with
          | inl z =>
            refine ⟨fun y hy => ?_, fun x hx => by cases hx⟩
            cases hy
            obtain ⟨h', a, b⟩ := t1 z q4
            exact ⟨h', head4 (by rw [a]; rfl), FaL.trans (f123.trans f4') b⟩
          | inr z =>
            refine ⟨fun y hy => (by cases hy), fun y hy => ?_⟩
            cases hy
            obtain ⟨v1, v2, h5, jn5, sl5, ww5, st5, mi5, en5, re5, a5, X5, R5, O5, S5, f5⟩ := t2 z q4
            have D5 := cD.rows D3 (jn := jn5) (sl := sl5) (ww := ww5) (st := st5) (mi := mi5) (en := en5) (re := re5) (nf := thF σ + x.1.length + fLn z.1) (no := F 24 + z.1.length) (by show thF σ + x.1.length ≤ _; omega) v1 (by rw [F24]; omega) v2 S5 (fun j hj => R5 j hj) (fun j hj => by rw [F24] at hj; exact O5.1 j hj) (fun j h1 h2 => by
              rw [F24] at h1
              obtain ⟨a, b, c, r1, r2, r3, r4, r5⟩ := O5.2.2 j h1 h2
              exact ⟨a, b, c, r1, r2, r3, r5⟩)
            have F4' : upd2 (upd2 (upd2 (upd2 F 20 (thF σ + x.1.length)) 24 (F 24)) 20 (thF σ + x.1.length + fLn z.1)) 24 (F 24 + z.1.length) 4 = F 4 := by rw [upd2_ne (by decide), upd2_ne (by decide), upd2_ne (by decide), upd2_ne (by decide)]
            have F24' : upd2 (upd2 (upd2 (upd2 F 20 (thF σ + x.1.length)) 24 (F 24)) 20 (thF σ + x.1.length + fLn z.1)) 24 (F 24 + z.1.length) 24 = F 24 + z.1.length := upd2_eq
            obtain ⟨h6, A6, F6, e6, X6, D6, f6⟩ := fin (os := z.1) X5 D5 rfl F4' (by
              show seg3 jn5 sl5 ww5 (thF σ) x.1.length = x.1
              rw [seg3_keep (jn := jn) (sl := sl) (ww := ww) _ _ (fun j h1 h2 => R5 j (by omega))]
              exact R3.2) (by show thF σ + x.1.length ≤ thF σ + x.1.length + fLn z.1; omega) (by rw [F24']; omega) (by
              rw [F24', show F 24 + z.1.length - F 24 = z.1.length by omega]
              exact O5.2.1) (teP_ok 31 _ _ z q4).2
            refine ⟨h6, _, A6, N, F6, head4 ?_, X6, D6, ((f123.trans f4').trans f5).trans f6⟩
            rw [a5]
            simp only [cI]
            rw [if_neg (show ¬ (1 : Int32) = 0 by decide)]
            exact e6
        · rw [if_neg q3]
          refine ⟨fun y hy => (by cases hy), fun y hy => ?_⟩
          cases hy
          have F4' : upd2 (upd2 F 20 (thF σ + x.1.length)) 24 (F 24) 4 = F 4 := by rw [upd2_ne (by decide), upd2_ne (by decide)]
          have F24' : upd2 (upd2 F 20 (thF σ + x.1.length)) 24 (F 24) 24 = F 24 := upd2_eq
          obtain ⟨h6, A6, F6, e6, X6, D6, f6⟩ := fin (os := []) X3 D3 rfl F4' (by
            show seg3 jn sl ww (thF σ) x.1.length = x.1
            exact R3.2) (Nat.le_refl _) (by rw [F24']; omega) (by rw [F24', Nat.sub_self]; rfl) (fun o ho => absurd ho List.not_mem_nil)
          refine ⟨h6, _, A6, N, F6, head3 ?_, X6, D6, f123.trans f6⟩
          rw [Bool.eq_false_iff.mpr q3, if_pos (show b01 false = 0 by decide)]
          exact e6
    · rw [if_neg q1]
      refine ⟨fun z hz => ?_, fun x hx => by cases hx⟩
      cases hz
      obtain ⟨h', a, b⟩ := c1 q1
      have a' : s_X6_pass 51 61 h1 = _ := a
      exact ⟨h', head (by rw [a']; rfl), FaL.trans f1 b⟩
  · rw [if_neg q0]
    refine ⟨fun z hz => ?_, fun x hx => by cases hx⟩
    cases hz
    obtain ⟨h', a, b⟩ := X.failL hS 5
    refine ⟨h', ?_, b⟩
    have a' : s_X6_fail 51 5 h = _ := a
    have f48 : F 4 ≤ 8 := D.2.2.2.1.2.1
    unfold s_X6_stepLine
    rw [X.g5.1, Option.bind_some, g4, Option.bind_some, if_neg (show ¬ jI (F 4) < 8 from fun z => by have := (jI_lt (k := 8) (by omega) (by omega)).mp z; omega), X.kO, a']
    rfl
end
