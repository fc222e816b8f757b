/-! the class reads a sight -/
section
variable {h : aH} {T : Nat → Nat} {n e k : Nat} {wh : Int32} {A : Nat → Nat → Int32} {N : Nat → Int64} {F : Nat → Nat} {σ : pTh}
/-- a sum over the draft -/
theorem sumL_at {m : Nat → Nat} {nm : Nat → List Nat} (X : CLw h T n e k wh A N F) (NM : NmW h 23 m nm) (hS : okS (A 14)) (hn : F 20 ≤ 60) :
    (∀ x, suP T n nm m 9 k (F 20) = .inl x → ∃ h', s_X6_sum 51 h = some (.inl (some (.int 0)), h') ∧ FaL h h' T n x) ∧
    (∀ x, suP T n nm m 9 k (F 20) = .inr x → F 20 + x.1.length ≤ 60 ∧ ∃ h' jn sl ww, s_X6_sum 51 h = some (.inl (some (.int 1)), h') ∧ CLw h' T n e x.2 wh (aFm A jn sl ww (A 16) (A 17) (A 18) (A 19)) N (upd2 (upd2 F 20 (F 20 + x.1.length)) 24 (F 24)) ∧ inRow x.1 (F 20) (A 13) (A 14) (A 15) jn sl ww ∧ okS sl ∧ FrL h h') := by
  obtain ⟨⟨fa, pl, P⟩, H⟩ := X
  obtain ⟨c1, c2⟩ := sum_at (Or.inl ⟨rfl, rfl⟩) (by decide) hn P NM H.2.2.2.2.2 hS
  refine ⟨fun x hx => ?_, fun x hx => ?_⟩
  · obtain ⟨h', a, b⟩ := c1 x hx
    exact ⟨h', a, b.toL H⟩
  · obtain ⟨w, h', jn, sl, ww, a, b, c, ⟨d, dS⟩, f⟩ := c2 x hx
    exact ⟨w, h', jn, sl, ww, a, ⟨⟨fa, pl, b⟩, H.formulas (fun i i1 i2 => f.2 i (by omega) (by omega)) c⟩, d, dS, f.toL⟩
theorem testL_at {m : Nat → Nat} {nm : Nat → List Nat} (X : CLw h T n e k wh A N F) (NM : NmW h 23 m nm) (hS : okS (A 14)) (hn : F 20 ≤ 60) (h2 : 2 * F 24 ≤ F 20) :
    (∀ x, teP T n nm m 9 31 k (F 20) = .inl x → ∃ h', s_X6_test 51 h = some (.inl (some (.int 0)), h') ∧ FaL h h' T n x) ∧
    (∀ x, teP T n nm m 9 31 k (F 20) = .inr x → F 20 + fLn x.1 ≤ 60 ∧ 2 * (F 24 + x.1.length) ≤ F 20 + fLn x.1 ∧ ∃ h' jn sl ww st mi en re, s_X6_test 51 h = some (.inl (some (.int 1)), h') ∧ CLw h' T n e x.2 wh (aFm A jn sl ww st mi en re) N (upd2 (upd2 F 20 (F 20 + fLn x.1)) 24 (F 24 + x.1.length)) ∧ (∀ j, j < F 20 → jn j = A 13 j ∧ sl j = A 14 j ∧ ww j = A 15 j) ∧ inOne x.1 (F 24) (F 20) jn sl ww (A 16) (A 17) (A 18) (A 19) st mi en re ∧ okS sl ∧ FrL h h') := by
  obtain ⟨⟨fa, pl, P⟩, H⟩ := X
  obtain ⟨c1, c2⟩ := test2_go (Or.inl ⟨rfl, rfl⟩) (by decide) 31 0 FU k (F 20) (F 24) h _ _ _ _ _ _ _ (by omega) (by decide) hn h2 P NM H.2.2.2.2.2 hS
  refine ⟨fun x hx => ?_, fun x hx => ?_⟩
  · obtain ⟨h', a, b⟩ := c1 x hx
    exact ⟨h', a, b.toL H⟩
  · obtain ⟨w, w2, h', jn, sl, ww, st, mi, en, re, a, b, c, d, ⟨g, gS⟩, f⟩ := c2 x hx
    exact ⟨w, w2, h', jn, sl, ww, st, mi, en, re, a, ⟨⟨fa, pl, b⟩, H.formulas (fun i i1 i2 => f.2 i (by omega) (by omega)) c⟩, d, g, gS, f.toL⟩
theorem CLw.nf (X : CLw h T n e k wh A N F) : gI h (.ref 35) 0 0 = some (jI (F 20)) ∧ gI h (.ref 35) 0 4 = some (jI (F 24)) := ⟨gI_of (ltE (by decide)) X.2.2.2.2.2.2.2.1 rfl, gI_of (ltE (by decide)) X.2.2.2.2.2.2.2.1 rfl⟩
theorem sightLine_at (X : CLw h T n e k wh A N F) (D : cD A N F σ) :
    (∀ x, siP T n σ k = .inl x → ∃ h', s_X6_sightLine 51 h = some (.inl (some (.int 0)), h') ∧ FaL h h' T n x) ∧
    (∀ x, siP T n σ k = .inr x → ∃ h' wh' A' N' F', s_X6_sightLine 51 h = some (.inl (some (.int 1)), h') ∧ CLw h' T n e x.2 wh' A' N' F' ∧ cD A' N' F' x.1 ∧ FrL h h') := by
  obtain ⟨n1, n2⟩ := newName_at X D (kd := 4) (by decide)
  have n1' : ∀ f, nwP T n σ 4 k = some f → ∃ h', s_X6_newName 51 4 h = some (.inl (some (.int 0)), h') ∧ FaL h h' T n (f, k) := n1
  have hm : ∀ k, k < 5 → thM σ k ≤ mxK k := fun k hk => (D.1 k hk).2
  unfold siP
  cases q1 : nwP T n σ 4 k with
  | some f =>
    refine ⟨fun x hx => ?_, fun x hx => by cases hx⟩
    cases hx
    obtain ⟨h', a, b⟩ := n1' f q1
    refine ⟨h', ?_, b⟩
    unfold s_X6_sightLine
    rw [X.kO, a]
    rfl
  | none =>
    have a0 : s_X6_newName 51 4 h = some (.inl (some (.int 1)), h) := n2 q1
    obtain ⟨tw, hl⟩ := nwP_none q1
    have hl2 : thM σ 4 < 2 := hl
    obtain ⟨w1, w2, -⟩ := tok_word tw
    obtain ⟨h1, e1, X1, f1⟩ := addName_at X D (kd := 4) (by decide) hl (wL 27 (tkW T (tokS T n k)))
    have e1' : s_X2_addName 23 4 (wL 27 (tkW T (tokS T n k))) h = some (.inl (some (.int (jI (9 + thM σ 4)))), h1) := e1
    obtain ⟨h2, x2, g2, p2, X2, f2, -⟩ := X1.adv (by omega)
    have f12 := f1.trans f2
    have S1 : okS (upd2 A 1 (upd (A 1) 4 (jI (thM σ 4 + 1))) 14) := by rw [upd2_ne (by decide)]; exact D.2.2.2.2.1
    obtain ⟨p1, p3⟩ := pass_at X2 S1 (c := 61) (by decide) (by decide)
    have bs4 : ldI .int h1 (.ref (aE + 1)) 4 = some 9 := bs_at (k := 4) (by decide)
    have sb : jI (9 + thM σ 4) - 9 = jI (thM σ 4) := by
      rw [Nat.add_comm, ← jI_add]
      exact Int32.add_sub_cancel _ _
    have head : ∀ {y : aO}, (cI (s_X6_pass 51 61 h2) fun x50 h50 => if x50 = 0 then (rtZ 0 h50) else (kO h50 51 6 (cI (s_X6_sum 51 h50) fun x57 h57 => if x57 = 0 then (rtZ 0 h57) else ((gO h57 (.ref 51) 6 5).bind fun x66 => (gO h57 (.ref x66) 2 10).bind fun x69 => (stI h57 (.ref x69) (jI (thM σ 4)) (jI (F 20))).bind fun h74 => (gO h74 (.ref 51) 6 5).bind fun x76 => (gO h74 (.ref x76) 2 11).bind fun x79 => (gO h74 (.ref 51) 6 6).bind fun x84 => (gI h74 (.ref x84) 0 0).bind fun x87 => (stI h74 (.ref x79) (jI (thM σ 4)) x87).bind fun h90 => rtZ 1 h90)))) = y → s_X6_sightLine 51 h = y := by
      intro y hy
      unfold s_X6_sightLine
      rw [X.kO, a0]
      simp only [cI]
      rw [if_neg (show ¬ (1 : Int32) = 0 by decide), X.g5.1, Option.bind_some, X.kO, X.mean]
      simp only [cJ]
      rw [X.2.kO, w2, e1']
      simp only []
      rw [bs4, Option.bind_some, g2, Option.bind_some, p2, Option.bind_some, X2.g5.2.1, Option.bind_some, X2.nf.1, Option.bind_some, X2.kO, sb]
      exact hy
    dsimp only
    by_cases q2 : (tokS T n (k + 1)).1 = 61
    · rw [if_pos q2]
      obtain ⟨h3, e3, X3, f3⟩ := p3 q2
      have e3' : s_X6_pass 51 61 h2 = _ := e3
      have f123 := f12.trans f3
      have NM3 : NmW h3 23 (upd2 (thM σ) 4 (thM σ 4 + 1)) (upd2 (thN σ) (9 + thM σ 4) (tkW T (tokS T n k))) := by
        refine ⟨X3.2.1, _, _, _, X3.2.2.1, rfl, rfl, X3.2.2.2.1, X3.2.2.2.2.1, fun j hj => ⟨?_, ?_⟩, fun s hs => ?_⟩
        · rw [upd2_eq]
          by_cases u : j = 4
          · subst u; rw [upd_eq, upd2_eq]
          · rw [upd_ne u, upd2_ne u]; exact (D.1 j hj).1
        · refine mxK_bs (fun j hj => ?_) j hj
          by_cases u : j = 4
          · subst u; rw [upd2_eq]; exact hl
          · rw [upd2_ne u]; exact hm j hj
        · rcases (dcl_new hm (by decide) hl s).1.mp hs with u | u
          · have u : s = 9 + thM σ 4 := u
            rw [u]
            show vp_updL N (9 + thM σ 4) _ (9 + thM σ 4) = _ ∧ _
            rw [updL_eq, upd2_eq]; exact ⟨rfl, w1⟩
          · have v : s ≠ 9 + thM σ 4 := (dcl_new hm (by decide) hl s).2 u
            show vp_updL N (9 + thM σ 4) _ s = _ ∧ _
            rw [updL_ne v, upd2_ne v]; exact D.2.1 s u
      have fN : F 20 = thF σ := D.2.2.2.1.2.2.1
      have f60 : thF σ ≤ 60 := D.2.2.2.1.2.2.2.1
      obtain ⟨s1, s2⟩ := sumL_at X3 NM3 S1 (by omega)
      have es : suP T n (upd2 (thN σ) (9 + thM σ 4) (tkW T (tokS T n k))) (upd2 (thM σ) 4 (thM σ 4 + 1)) 9 (k + 1 + 1) (F 20) = suP T n (thN σ) (thM σ) 9 (k + 2) (thF σ) := by
        rw [fN]
        refine suP_sight (fun j hj => upd2_ne (by omega)) (fun j hj s h1 h2 => upd2_ne ?_) (k + 2) (thF σ)
        exact (dcl_new hm (by decide) hl s).2 ⟨j, by omega, h1, h2⟩
      rw [es] at s1 s2
      have head2 : ∀ {y : aO}, (cI (s_X6_sum 51 h3) fun x57 h57 => if x57 = 0 then (rtZ 0 h57) else ((gO h57 (.ref 51) 6 5).bind fun x66 => (gO h57 (.ref x66) 2 10).bind fun x69 => (stI h57 (.ref x69) (jI (thM σ 4)) (jI (F 20))).bind fun h74 => (gO h74 (.ref 51) 6 5).bind fun x76 => (gO h74 (.ref x76) 2 11).bind fun x79 => (gO h74 (.ref 51) 6 6).bind fun x84 => (gI h74 (.ref x84) 0 0).bind fun x87 => (stI h74 (.ref x79) (jI (thM σ 4)) x87).bind fun h90 => rtZ 1 h90)) = y → s_X6_sightLine 51 h = y := by
        intro y hy
        refine head ?_
        rw [e3']
        simp only [cI]
        rw [if_neg (show ¬ (1 : Int32) = 0 by decide), X3.kO]
        exact hy
      cases q3 : suP T n (thN σ) (thM σ) 9 (k + 2) (thF σ) with
      | inl x =>
        refine ⟨fun z hz => ?_, fun x hx => by cases hx⟩
        cases hz
        obtain ⟨h', a, b⟩ := s1 x q3
        exact ⟨h', head2 (by rw [a]; rfl), FaL.trans f123 b⟩
      | inr x =>
        refine ⟨fun z hz => (by cases hz), fun z hz => ?_⟩
        cases hz
        obtain ⟨w60, h4, jn, sl, ww, a4, X4, R4, S4, f4⟩ := s2 x q3
        obtain ⟨h5, e5, H5, l5, o5⟩ := X4.2.row (k := 10) (j := thM σ 4) (by decide) (by decide) (show thM σ 4 < 2 from hl2) (jI (F 20))
        have X5 := X4.to H5 (fun i hi => o5 i (by omega))
        obtain ⟨h6, e6, H6, l6, o6⟩ := H5.row (k := 11) (j := thM σ 4) (by decide) (by decide) (show thM σ 4 < 2 from hl2) (jI (F 20 + x.1.length))
        have X6 := X5.to H6 (fun i hi => o6 i (by omega))
        have f56 : FrL h4 h6 := ⟨by rw [l6, l5], fun i _ hi => by rw [o6 i (by omega), o5 i (by omega)]⟩
        have D4 := cD.rows D (jn := jn) (sl := sl) (ww := ww) (st := A 16) (mi := A 17) (en := A 18) (re := A 19) (nf := thF σ + x.1.length) (no := F 24) (by omega) (by omega) (Nat.le_refl _) (by have := D.2.2.2.1.2.2.2.2.1; omega) S4 (fun j hj => R4.1 j (by omega)) (fun _ _ => ⟨rfl, rfl, rfl, rfl⟩) (fun j h1 h2 => by omega)
        have sg : seg3 jn sl ww (thF σ) x.1.length = x.1 := by rw [← fN]; exact R4.2
        rw [← fN] at D4 sg
        have D6 := cD.sight D4 hl w1 (l := x.1) (a := F 20) (b := x.1.length) (A' := upd2 (upd2 (aFm (upd2 A 1 (upd (A 1) 4 (jI (thM σ 4 + 1)))) jn sl ww (A 16) (A 17) (A 18) (A 19)) 10 (upd (A 10) (thM σ 4) (jI (F 20)))) 11 (upd (A 11) (thM σ 4) (jI (F 20 + x.1.length)))) (N' := vp_updL N (bsN 4 + thM σ 4) (wL 27 (tkW T (tokS T n k)))) (by rw [upd2_ne (by decide), upd2_ne (by decide), aFm_lt (by decide), aFm_lt (by decide), upd2_eq]; rfl) (by rw [upd2_ne (by decide), upd2_eq, aFm_lt (by decide)]; rfl) (by rw [upd2_eq, aFm_lt (by decide)]; rfl) (fun j j1 j2 j3 => by
          rw [upd2_ne j3, upd2_ne j2]
          unfold aFm
          rw [upd2_ne j1]) rfl (Nat.le_refl _) sg (suP_ok q3)
        refine ⟨h6, _, _, _, _, head2 ?_, X6, ?_, (f123.trans f4).trans f56⟩
        · have g10 : gO h4 (.ref 23) 2 10 = some 33 := gO_of (ltE (by decide)) X4.2.2.1 rfl
          have g11 : gO h5 (.ref 23) 2 11 = some 34 := gO_of (ltE (by decide)) H5.2.1 rfl
          have e5' : stI h4 (.ref 33) (jI (thM σ 4)) (jI (F 20)) = some h5 := e5
          have e6' : stI h5 (.ref 34) (jI (thM σ 4)) (jI (F 20 + x.1.length)) = some h6 := e6
          have nf5 := X5.nf.1
          rw [upd2_ne (by decide), upd2_eq] at nf5
          rw [a4]
          simp only [cI]
          rw [if_neg (show ¬ (1 : Int32) = 0 by decide), X4.g5.1, Option.bind_some, g10, Option.bind_some, e5', Option.bind_some, X5.g5.1, Option.bind_some, g11, Option.bind_some, X5.g5.2.1, Option.bind_some, nf5, Option.bind_some, e6', Option.bind_some]
          rfl
        · dsimp only
          rw [← fN]
          have r10 : aFm (upd2 A 1 (upd (A 1) 4 (jI (thM σ 4 + 1)))) jn sl ww (A 16) (A 17) (A 18) (A 19) 10 = A 10 := by rw [aFm_lt (by decide), upd2_ne (by decide)]
          have r11 : upd2 (aFm (upd2 A 1 (upd (A 1) 4 (jI (thM σ 4 + 1)))) jn sl ww (A 16) (A 17) (A 18) (A 19)) 10 (upd (A 10) (thM σ 4) (jI (F 20))) 11 = A 11 := by rw [upd2_ne (by decide), aFm_lt (by decide), upd2_ne (by decide)]
          have e16 : ∀ j, 15 < j → upd2 A 1 (upd (A 1) 4 (jI (thM σ 4 + 1))) j = A j := fun j hj => upd2_ne (by omega)
          rw [e16 16 (by decide), e16 17 (by decide), e16 18 (by decide), e16 19 (by decide), r10, r11]
          exact D6
    · rw [if_neg q2]
      refine ⟨fun z hz => ?_, fun x hx => by cases hx⟩
      cases hz
      obtain ⟨h', a, b⟩ := p1 q2
      have a' : s_X6_pass 51 61 h2 = _ := a
      exact ⟨h', head (by rw [a']; rfl), FaL.trans f12 b⟩
end
