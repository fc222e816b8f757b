/-! the reference reads a line -/
section
variable {h : aH} {S : Nat → Int32} {wd : Int64} {tv fv : Value} {t : Nat} {V : Nat → Nat → Int32} {Z : Nat → Nat → Int64} {T : Nat → Nat} {n k : Nat} {B : Nat → Nat → Int32} {W : Nat → Int64} {G : Nat → Nat} {σ : pTh}
theorem isT.word (HT : isT h t B W G) {j : Nat} (hj : j < 11) (x : Int64) : ∃ h', stJ h (.ref (t + 6)) (jI j) x = some h' ∧ isT h' t B (vp_updL W j x) G ∧ h'.length = h.length ∧ ∀ i, i ≠ t + 6 → h'[i]? = h[i]? := by
  obtain ⟨a, h0, hw, hr⟩ := HT
  exact ⟨_, stJ_of (by omega) hw hj (by decide), ⟨a, by rw [set_ne (by omega)]; exact h0, set_eq hw, fun i i1 i2 i3 => by rw [set_ne (by omega)]; exact hr i i1 i2 i3⟩, List.length_set .., fun i hi => set_ne (fun z => hi z.symm)⟩
theorem rl187_at (X : RPw h S wd tv fv t V Z T n k) (HT : isT h t B W G) {kd c : Nat} (hkd : kd < 5) (hc : B 1 kd = jI c) : ∃ h', s_X14_readLine_187 104 (jI kd) h = some (.inl none, h') ∧ RPw h' S wd tv fv t V Z T n k ∧ isT h' t (upd2 B 1 (upd (B 1) kd (jI (c + 1)))) W G ∧ FrR t h h' := by
  have ht := HT.1
  have g6 : gO h (.ref 104) 14 6 = some t := gO_of (ltE (by decide)) X.1.1 rfl
  have g0 : gO h (.ref t) 13 0 = some (t + 1) := gO_of (by omega) HT.2.1 rfl
  have l1 : ldI .int h (.ref (t + 1)) (jI kd) = some (jI c) := by rw [HT.ld (k := 1) (by decide) (by decide) (by decide) (show kd < 5 from hkd), hc]
  obtain ⟨h1, e1, T1, l1', o1⟩ := HT.row (k := 1) (j := kd) (x := jI (c + 1)) (by decide) (by decide) (by decide) (show kd < 5 from hkd)
  refine ⟨h1, ?_, X.th (fun i hi => o1 i (by omega)), T1, ⟨l1', fun i _ _ hi => o1 i (by omega)⟩⟩
  unfold s_X14_readLine_187
  rw [g6, Option.bind_some, g0, Option.bind_some, l1, Option.bind_some, jI_inc, e1, Option.bind_some]
/-- a name that may be given: the line behind it -/
theorem rl86_at (X : RSx h S wd tv fv t V Z T n k B W G (thF σ)) (D : rD B W G σ) {kd : Nat} (hkd : kd < 5) (tw : (tokS T n k).1 = 1) (hl : thM σ kd < mxK kd) (nn : nwP T n σ kd k = none) :
    (∀ e, (if kd = 4 then siP T n σ k else spP T n σ kd k) = .inl e → ∃ h', s_X14_readLine_86 104 (jI kd) (jI (mxK kd)) (jI (thM σ kd)) h = some (.inr (RX12, 118), h') ∧ FaR h h' S tv fv t V Z T n e) ∧
    (∀ x, (if kd = 4 then siP T n σ k else spP T n σ kd k) = .inr x → ∃ h' S' wd' B' W' G', s_X14_readLine_86 104 (jI kd) (jI (mxK kd)) (jI (thM σ kd)) h = some (.inl none, h') ∧ RSx h' S' wd' tv fv t V Z T n x.2 B' W' G' (thF x.1) ∧ rD B' W' G' x.1 ∧ FrR t h h' ∧ ∀ j, (j < 11 ∨ 17 < j) → S' j = S j) := by
  have X0 := X.1
  have HT := X.2.1
  have ht := HT.1
  have qn := okt2_ne X0.2.2.2.2.2.2.1
  have hm : ∀ k, k < 5 → thM σ k ≤ mxK k := fun k hk => (D.1 k hk).2
  have b11 := mxK_bs hm kd hkd
  have mx3 : mxK kd ≤ 3 := by unfold mxK; split <;> omega
  obtain ⟨w1, -, w3⟩ := tok_word tw
  have ew : wd = wL 32 (tkW T (tokS T n k)) := (X0.2.2.2.2.2.1.2.2.2.1 tw).trans w3
  have s11 : bsN kd + thM σ kd < 11 := by
    match kd, hkd, hl with
    | 0, _, q => show 0 + thM σ 0 < 11; have q : thM σ 0 < 3 := q; omega
    | 1, _, q => show 3 + thM σ 1 < 11; have q : thM σ 1 < 2 := q; omega
    | 2, _, q => show 5 + thM σ 2 < 11; have q : thM σ 2 < 2 := q; omega
    | 3, _, q => show 7 + thM σ 3 < 11; have q : thM σ 3 < 2 := q; omega
    | 4, _, q => show 9 + thM σ 4 < 11; have q : thM σ 4 < 2 := q; omega
  have g6 : ∀ {h : aH} {S : Nat → Int32} {wd : Int64} {k : Nat}, RPw h S wd tv fv t V Z T n k → gO h (.ref 104) 14 6 = some t := fun X => gO_of (ltE (by decide)) X.1.1 rfl
  have g0 : gO h (.ref t) 13 0 = some (t + 1) := gO_of (by omega) HT.2.1 rfl
  have g5 : gO h (.ref t) 13 5 = some (t + 6) := gO_of (by omega) HT.2.1 rfl
  have lm : ldI .int h (.ref (t + 1)) (jI kd) = some (jI (thM σ kd)) := by rw [HT.ld (k := 1) (by decide) (by decide) (by decide) (show kd < 5 from hkd), (D.1 kd hkd).1]
  obtain ⟨h1, e1, T1, l1, o1⟩ := HT.word (j := bsN kd + thM σ kd) s11 wd
  have X1 := X0.th (h' := h1) (fun i hi => o1 i (by omega))
  obtain ⟨h2, S2, wd2, e2, X2, l2, o2, s2⟩ := X1.next (by omega)
  have T2 := T1.of (h' := h2) (fun i i1 i2 => o2 i (by omega))
  have f2 : FrR t h h2 := ⟨by rw [l2, l1], fun i i1 _ i3 => by rw [o2 i i1, o1 i (by omega)]⟩
  have k2 : ∀ j, (j < 11 ∨ 17 < j) → S2 j = S j := fun j hj => s2 j (by omega)
  have head : ∀ {y : aO}, (if jI kd = 4 then (kO h2 104 14 (xN (s_X14_need 104 61 h2) (fun h135 => (pF h135 (.ref 104) 14 17 (.int 3)).bind fun h140 => (gO h140 (.ref 104) 14 6).bind fun x144 => (gO h140 (.ref x144) 13 3).bind fun x147 => (gO h140 (.ref 104) 14 6).bind fun x152 => (gI h140 (.ref x152) 13 7).bind fun x155 => (stI h140 (.ref x147) (jI (bsN kd + thM σ kd)) x155).bind fun h158 => kO h158 104 14 (xN (s_X14_readSum 104 h158) (fun h160 => (gO h160 (.ref 104) 14 6).bind fun x164 => (gO h160 (.ref x164) 13 4).bind fun x167 => (gO h160 (.ref 104) 14 6).bind fun x172 => (gI h160 (.ref x172) 13 7).bind fun x175 => (stI h160 (.ref x167) (jI (bsN kd + thM σ kd)) x175).bind fun h178 => s_X14_readLine_187 104 (jI kd) h178) (fun E i h => some (.inr (E, i), h)))) (fun E i h => some (.inr (E, i), h)))) else (kO h2 104 14 (xN (s_X14_readSpan 104 (jI (bsN kd + thM σ kd)) h2) (fun h184 => s_X14_readLine_187 104 (jI kd) h184) (fun E i h => some (.inr (E, i), h))))) = y → s_X14_readLine_86 104 (jI kd) (jI (mxK kd)) (jI (thM σ kd)) h = y := by
    intro y hy
    unfold s_X14_readLine_86
    rw [if_neg (fun z => by have := (jI_inj (by omega) (by omega)).mp z; omega), cI_of (slotOf_bs (by omega) h), g6 X0, Option.bind_some, g0, Option.bind_some, lm, Option.bind_some, Option.bind_some, g5, Option.bind_some, X0.1.gW, Option.bind_some, jI_add, e1, Option.bind_some, X1.kO, cN_of e2]
    exact hy
  by_cases u4 : kd = 4
  · rw [if_pos u4]
    subst u4
    unfold siP
    rw [nn]
    dsimp only
    have n4 : jI 4 = 4 := rfl
    have hd : ∀ {y : aO}, (xN (s_X14_need 104 61 h2) (fun h135 => (pF h135 (.ref 104) 14 17 (.int 3)).bind fun h140 => (gO h140 (.ref 104) 14 6).bind fun x144 => (gO h140 (.ref x144) 13 3).bind fun x147 => (gO h140 (.ref 104) 14 6).bind fun x152 => (gI h140 (.ref x152) 13 7).bind fun x155 => (stI h140 (.ref x147) (jI (bsN 4 + thM σ 4)) x155).bind fun h158 => kO h158 104 14 (xN (s_X14_readSum 104 h158) (fun h160 => (gO h160 (.ref 104) 14 6).bind fun x164 => (gO h160 (.ref x164) 13 4).bind fun x167 => (gO h160 (.ref 104) 14 6).bind fun x172 => (gI h160 (.ref x172) 13 7).bind fun x175 => (stI h160 (.ref x167) (jI (bsN 4 + thM σ 4)) x175).bind fun h178 => s_X14_readLine_187 104 (jI 4) h178) (fun E i h => some (.inr (E, i), h)))) (fun E i h => some (.inr (E, i), h))) = y → s_X14_readLine_86 104 (jI 4) (jI (mxK 4)) (jI (thM σ 4)) h = y := by
      intro y hy
      refine head ?_
      rw [if_pos n4, X2.kO]
      exact hy
    obtain ⟨c1, c2⟩ := need_at X2 T2 (c := 61) (by decide) (by decide)
    by_cases q1 : (tokS T n (k + 1)).1 = 61
    · rw [if_pos q1]
      obtain ⟨h3, S3, wd3, e3, X3, l3, o3, s3⟩ := c2 q1
      have e3' : s_X14_need 104 61 h2 = _ := e3
      obtain ⟨h4, e4, Y4, l4, o4⟩ := X3.1.pSo (i := 17) rfl 3
      have X4 := X3.ob Y4 o4 (fun j hj => upd_ne (by omega))
      have T4 := T2.of (h' := h4) (fun i i1 i2 => by rw [o4 i (by omega), o3 i (by omega)])
      obtain ⟨h5, e5, T5, l5, o5⟩ := T4.row (k := 4) (j := bsN 4 + thM σ 4) (x := jI (G 7)) (by decide) (by decide) (by decide) s11
      have X5 := X4.th (h' := h5) (fun i hi => o5 i (by omega))
      have W' : ∀ s, dcl5 (thM σ) s → vp_updL W (bsN 4 + thM σ 4) wd s = W s := fun s hs => updL_ne ((dcl_new hm hkd hl s).2 hs)
      have R5 : RSx h5 (upd S3 17 3) wd3 tv fv t V Z T n (k + 1 + 1) (upd2 B 4 (upd (B 4) (bsN 4 + thM σ 4) (jI (G 7)))) (vp_updL W (bsN 4 + thM σ 4) wd) G (thF σ) := ⟨X5, T5, by rw [upd_ne (by decide), s3 16 (by omega), s2 16 (by omega)]; exact X.2.2.1, X.2.2.2⟩
      have NM5 : NmR (upd2 B 4 (upd (B 4) (bsN 4 + thM σ 4) (jI (G 7)))) (vp_updL W (bsN 4 + thM σ 4) wd) (thM σ) (thN σ) := ⟨fun k hk => by rw [upd2_ne (by decide)]; exact D.nm.1 k hk, fun s hs => by rw [W' s hs]; exact D.2.1 s hs⟩
      have f5 : FrR t h h5 := f2.trans ⟨by rw [l5, l4, l3], fun i i1 _ i3 => by rw [o5 i (by omega), o4 i i1, o3 i i1]⟩
      have k5 : ∀ j, (j < 11 ∨ 17 < j) → (upd S3 17 3) j = S j := fun j hj => by rw [upd_ne (by omega), s3 j (by omega), s2 j (by omega)]
      obtain ⟨d1, d2⟩ := readSum_at (kd := 3) (pr := 9) (by decide) rfl R5 NM5 upd_eq
      have hd2 : ∀ {y : aO}, (xN (s_X14_readSum 104 h5) (fun h160 => (gO h160 (.ref 104) 14 6).bind fun x164 => (gO h160 (.ref x164) 13 4).bind fun x167 => (gO h160 (.ref 104) 14 6).bind fun x172 => (gI h160 (.ref x172) 13 7).bind fun x175 => (stI h160 (.ref x167) (jI (bsN 4 + thM σ 4)) x175).bind fun h178 => s_X14_readLine_187 104 (jI 4) h178) (fun E i h => some (.inr (E, i), h))) = y → s_X14_readLine_86 104 (jI 4) (jI (mxK 4)) (jI (thM σ 4)) h = y := by
        intro y hy
        refine hd ?_
        rw [xN_of e3', e4, Option.bind_some, g6 X4, Option.bind_some, gO_of (x := t + 4) (k := 3) (by omega) T4.2.1 rfl, Option.bind_some, Option.bind_some, gI_of (x := jI (G 7)) (k := 7) (by omega) T4.2.1 rfl, Option.bind_some, e5, Option.bind_some, X5.kO]
        exact hy
      have e22 : suP T n (thN σ) (thM σ) 9 (k + 2) (thF σ) = suP T n (thN σ) (thM σ) 9 (k + 1 + 1) (thF σ) := rfl
      rw [e22]
      cases q2 : suP T n (thN σ) (thM σ) 9 (k + 1 + 1) (thF σ) with
      | inl e =>
        refine ⟨fun z hz => ?_, fun x hx => by cases hx⟩
        cases hz
        obtain ⟨h', a, b⟩ := d1 e q2
        exact ⟨h', hd2 (by rw [a]; rfl), FaR.trans f5 k5 b⟩
      | inr x =>
        refine ⟨fun z hz => (by cases hz), fun z hz => ?_⟩
        cases hz
        obtain ⟨h6, S6, wd6, B6, G6, a6, R6, g66, g67, p6, A6, f6, k6⟩ := d2 x q2
        have T6 := R6.2.1
        obtain ⟨h7, e7, T7, l7, o7⟩ := T6.row (k := 5) (j := bsN 4 + thM σ 4) (x := jI (G6 7)) (by decide) (by decide) (by decide) s11
        have X7 := R6.1.th (h' := h7) (fun i hi => o7 i (by omega))
        have b1 : upd2 B6 5 (upd (B6 5) (bsN 4 + thM σ 4) (jI (G6 7))) 1 4 = jI (thM σ 4) := by rw [upd2_ne (by decide), A6.1 1 (by decide) (by decide), upd2_ne (by decide)]; exact (D.1 4 (by decide)).1
        obtain ⟨h8, e8, X8, T8, f8⟩ := rl187_at X7 T7 (kd := 4) (c := thM σ 4) (by decide) b1
        have D6 : rD B6 W G6 σ := by
          have D5 : rD (upd2 B 4 (upd (B 4) (bsN 4 + thM σ 4) (jI (G 7)))) W G σ := D.ext (by rw [upd2_ne (by decide)]) (fun s _ => by rw [upd2_ne (by decide), upd2_ne (by decide)]; exact ⟨rfl, rfl⟩) (fun i _ => by rw [upd2_ne (by decide), upd2_ne (by decide), upd2_ne (by decide), upd2_ne (by decide)]; exact ⟨rfl, rfl, rfl, rfl⟩) (fun i hi => by rw [upd2_eq, upd_ne (show 9 + i ≠ bsN 4 + thM σ 4 by show 9 + i ≠ 9 + thM σ 4; omega), upd2_ne (by decide)]; exact ⟨rfl, rfl⟩) (fun j _ => by rw [upd2_ne (by decide), upd2_ne (by decide)]; exact ⟨rfl, rfl⟩) rfl (Nat.le_refl _)
          exact D5.app A6 g66 (by omega)
        have gl : (thG σ).length = thM σ 4 := D.2.2.2.1.2.2
        refine ⟨h8, S6, wd6, _, _, G6, hd2 ?_, ⟨X8, T8, R6.2.2⟩, ?_, ((f5.trans f6).trans ⟨l7, fun i _ _ i3 => o7 i (by omega)⟩).trans f8, fun j hj => (k6 j (by omega)).trans (k5 j hj)⟩
        · rw [xN_of a6, g6 R6.1, Option.bind_some, gO_of (x := t + 5) (k := 4) (by omega) T6.2.1 rfl, Option.bind_some, Option.bind_some, gI_of (x := jI (G6 7)) (k := 7) (by omega) T6.2.1 rfl, Option.bind_some, e7, Option.bind_some]
          exact e8
        · refine rD.name D6 (kd := 4) (by decide) hl w1 (lo := thL σ) (hi := thH σ) (gs := thG σ ++ [x.1]) ?_ (fun i hi => ?_) (by rw [ew]) (fun s hs => ?_) ?_ (fun i l hl' => ?_)
          · rw [upd2_eq, upd2_ne (by decide)]
          · rw [upd2_ne (by omega), upd2_ne (by omega)]
          · rw [upd2_ne (by decide), upd2_ne (by decide), upd2_ne (by decide), upd2_ne (by decide)]
            refine D6.2.2.1 s ?_
            unfold decl at hs ⊢
            rw [upd2_ne (by decide), upd2_ne (by decide), upd2_ne (by decide), upd2_ne (by decide)] at hs
            exact hs
          · rw [upd2_eq, List.length_append, gl]; rfl
          · rw [upd2_ne (show (4 : Nat) ≠ 1 by decide), upd2_ne (show (4 : Nat) ≠ 5 by decide), upd2_ne (show (5 : Nat) ≠ 1 by decide), upd2_eq]
            have b4 : B6 4 (bsN 4 + thM σ 4) = jI (G 7) := by rw [A6.1 4 (by decide) (by decide), upd2_eq, upd_eq]
            by_cases u : i < (thG σ).length
            · rw [List.getElem?_append_left u] at hl'
              rw [upd_ne (show 9 + i ≠ bsN 4 + thM σ 4 by show 9 + i ≠ 9 + thM σ 4; omega)]
              exact D6.2.2.2.2.2 i l hl'
            · rw [List.getElem?_append_right (by omega)] at hl'
              have ie : i = thM σ 4 := by
                have := (List.getElem?_eq_some_iff.mp hl').1
                simp at this
                omega
              rw [ie, gl, Nat.sub_self] at hl'
              cases hl'
              subst ie
              refine ⟨G 7, (postV x.1).length, b4, ?_, by omega, A6.2.2⟩
              show upd (B6 5) (9 + thM σ 4) (jI (G6 7)) (9 + thM σ 4) = _
              rw [upd_eq, g67]
    · rw [if_neg q1]
      refine ⟨fun z hz => ?_, fun x hx => by cases hx⟩
      cases hz
      obtain ⟨h', a, b⟩ := c1 q1
      have a' : s_X14_need 104 61 h2 = _ := a
      exact ⟨h', hd (by rw [a']; rfl), FaR.trans f2 k2 b⟩
  · rw [if_neg u4, spP_Q, nn]
    dsimp only
    have n4 : ¬ jI kd = 4 := fun z => u4 ((jI_inj (k := 4) (by omega) (by omega)).mp z)
    have hkd4 : kd < 4 := by omega
    have s9 := slot9 (m := thM σ) hkd4 hl
    obtain ⟨c1, c2⟩ := readSpan_at X2 T2 (s := bsN kd + thM σ kd) s11
    have hd : ∀ {y : aO}, (xN (s_X14_readSpan 104 (jI (bsN kd + thM σ kd)) h2) (fun h184 => s_X14_readLine_187 104 (jI kd) h184) (fun E i h => some (.inr (E, i), h))) = y → s_X14_readLine_86 104 (jI kd) (jI (mxK kd)) (jI (thM σ kd)) h = y := by
      intro y hy
      refine head ?_
      rw [if_neg n4, X2.kO]
      exact hy
    cases q2 : spQ T n (k + 1) with
    | inl e =>
      refine ⟨fun z hz => ?_, fun x hx => by cases hx⟩
      cases hz
      obtain ⟨h', a, b⟩ := c1 e q2
      exact ⟨h', hd (by rw [a]; rfl), FaR.trans f2 k2 b⟩
    | inr x =>
      refine ⟨fun z hz => (by cases hz), fun z hz => ?_⟩
      cases hz
      obtain ⟨z1, z2, z3, h3, S3, wd3, a3, X3, T3, f3, s3⟩ := c2 x q2
      have b1 : upd2 (upd2 B 2 (upd (B 2) (bsN kd + thM σ kd) x.1.1)) 3 (upd (B 3) (bsN kd + thM σ kd) x.1.2) 1 kd = jI (thM σ kd) := by rw [upd2_ne (by decide), upd2_ne (by decide)]; exact (D.1 kd hkd).1
      obtain ⟨h4, e4, X4, T4, f4⟩ := rl187_at X3 T3 (kd := kd) (c := thM σ kd) hkd b1
      refine ⟨h4, S3, wd3, _, _, G, hd ?_, ⟨X4, T4, by rw [s3 16 (by omega), s2 16 (by omega)]; exact X.2.2.1, X.2.2.2⟩, ?_, (f2.trans f3).trans f4, fun j hj => (s3 j (by omega)).trans (k2 j hj)⟩
      · rw [xN_of a3]
        exact e4
      · refine rD.name D (kd := kd) hkd hl w1 ?_ (fun i hi => ?_) (by rw [ew]) (fun s hs => ?_) (by rw [upd2_ne (by omega)]; exact D.2.2.2.1.2.2) (fun i l hl' => ?_)
        · rw [upd2_eq, upd2_ne (by decide), upd2_ne (by decide)]
        · rw [upd2_ne (by omega), upd2_ne (by omega), upd2_ne (by omega)]
        · rw [upd2_ne (show (2 : Nat) ≠ 1 by decide), upd2_ne (show (2 : Nat) ≠ 3 by decide), upd2_eq, upd2_ne (show (3 : Nat) ≠ 1 by decide), upd2_eq]
          by_cases u : s = bsN kd + thM σ kd
          · rw [u, upd_eq, upd_eq, upd_eq, upd_eq]
            exact ⟨rfl, rfl, z1, z2, z3⟩
          · rw [upd_ne u, upd_ne u, upd_ne u, upd_ne u]
            refine D.2.2.1 s ?_
            have d9 : s < 9 := decl9 (fun k hk => by
              by_cases v : k = kd
              · rw [v, upd2_eq]; exact hl
              · rw [upd2_ne v]; exact hm k (by omega)) hs
            rcases (dcl_new hm hkd hl s).1.mp (decl_5 hs) with v | v
            · exact absurd v u
            · exact dcl5_4 v d9
        · rw [upd2_ne (show (4 : Nat) ≠ 1 by decide), upd2_ne (show (4 : Nat) ≠ 3 by decide), upd2_ne (show (4 : Nat) ≠ 2 by decide), upd2_ne (show (5 : Nat) ≠ 1 by decide), upd2_ne (show (5 : Nat) ≠ 3 by decide), upd2_ne (show (5 : Nat) ≠ 2 by decide)]
          exact D.2.2.2.2.2 i l hl'
end
