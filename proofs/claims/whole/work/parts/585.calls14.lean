/-! calls: next, sight -/
theorem isIn_or {x : Int32} {n c : Nat} (hn : n < 2147483648) (hc : c < n) : ¬ (jI c < 0 ∨ jI n ≤ jI c) := by
  rintro (z | z)
  · exact jI_neg (by omega) z
  · have := (jI_le hn (by omega)).mp z
    omega
theorem call_next (x p w : Int32) : cOK (fun h => wC 0 0 (s_X11_next 0 x p w h)) (s_X14_next_ 104 x p w) := by
  refine cOK.of (fun γ _ => ⟨-1, qTw γ 1, cN1.ref fun h h1 S V Z D Ln K e1 => ?_, rN1.ref fun h h1 h2 R e1 R1 e2 => ?_⟩) fun γ τ og ot lt => ?_
  · apply wC_of
    unfold s_X11_next
    rw [K.k0, cI_of (hasMove_N K x p w), if_pos rfl, K.k0, cI_of (refuse1 e1)]
  · unfold s_X14_next_ s_X14_next__43
    rw [e1, Option.bind_some, R1.k0, cI_of (isCell_N R1 x), if_pos rfl, R1.k0, cI_of e2]
  · have gd : (∃ c q y, c < uF τ 12 ∧ q < uF τ 13 ∧ y < uF τ 14 ∧ x = jI c ∧ p = jI q ∧ w = jI y) ∨ ((x < 0 ∨ jI (uF τ 12) ≤ x) ∨ (p < 0 ∨ jI (uF τ 13) ≤ p) ∨ (w < 0 ∨ jI (uF τ 14) ≤ w)) := by
      rcases in_or x (show uF τ 12 < 2147483648 by omega) with ⟨c, hc, e1⟩ | z
      · rcases in_or p (show uF τ 13 < 2147483648 by omega) with ⟨q, hq, e2⟩ | z
        · rcases in_or w (show uF τ 14 < 2147483648 by omega) with ⟨y, hy, e3⟩ | z
          · exact Or.inl ⟨c, q, y, hc, hq, hy, e1, e2, e3⟩
          · exact Or.inr (Or.inr (Or.inr z))
        · exact Or.inr (Or.inr (Or.inl z))
      · exact Or.inr (Or.inl z)
    rcases gd with ⟨c, q, y, hc, hq, hy, rfl, rfl, rfl⟩ | gd
    · refine ⟨fun a => a = ldV (uA τ) (uM τ) (uF τ) c q y, qTw γ 0, τ, one_x, ?_, rT1.th fun h h1 t2 S wd t f nv V Z B W G e1 R1 => ?_⟩
      · intro h S V Z D Ln N K
        obtain ⟨h1, e1, K1, O1⟩ := K.tw (w := 0) (by decide)
        obtain ⟨h2, e2, C2, O2⟩ := K1.2.2.1.sprM (a := 2) rfl rfl (jI c) (jI q) (jI y)
        have K2 := K1.scr C2.1 O2 (Sm.refl.upd (by decide))
        have g6 : gO h1 (.ref 0) 11 6 = some 2 := gO_of (ltE (by decide)) (K1.1.1.1 0 rfl) rfl
        have g6' : gO h2 (.ref 0) 11 6 = some 2 := gO_of (ltE (by decide)) (C2.1.1 0 rfl) rfl
        have le := C2.lead (a := 2) rfl rfl
        rw [upd2_eq, leadV_congr (spM_agree K.kW.1.1 _ _ _ _ _ zV) K.kW.2.1] at le
        refine ⟨_, h2, 0, 0, rfl, ?_, _, _, Z, D, Ln, K2, Oa.of (O1.trans O2), Gr.refl, Ct.z⟩
        apply wC_of
        unfold s_X11_next
        rw [K.k0, cI_of (hasMove_in K hc hq hy), if_neg (by decide), e1, Option.bind_some, K1.g7, Option.bind_some, g6, Option.bind_some, K1.2.2.1.kO3, cN_of e2, K2.g7, Option.bind_some, g6', Option.bind_some, C2.kO3, cI_of le]
        rfl
      · have to := RC.to_at R1.2.2.1 R1.2.2.2.2.2.1 hc hq hy
        obtain ⟨h2, S2, e2, R2, O2⟩ := R1.done (ldV (uA τ) (uM τ) (uF τ) c q y)
        refine ⟨_, h2, rfl, ?_, R2.rt, Rf.ou O2⟩
        unfold s_X14_next_
        rw [e1, Option.bind_some, R1.k0, cI_of (isCell_in R1 hc), if_neg (by decide), R1.k0, cI_of (isPush_in R1 hq), if_neg (by decide), R1.k0, cI_of (isWorld_in R1 hy), if_neg (by decide), R1.k0, cI_of to, R1.k0, cI_of e2]
    · refine ⟨fun a => a = -1, qTw γ 1, τ, one_x, cT1.ref (by decide) fun h h1 S V Z D Ln N K e1 => ?_, rT1.ref (w := 1) fun h h1 h2 t2 S wd t f nv V Z B W G e1 R1 e2 => ?_⟩
      · apply wC_of
        unfold s_X11_next
        rw [K.k0, cI_of (hasMove_out K gd), if_pos rfl, K.k0, cI_of (refuse1 e1)]
      · have tt : s_X14_next__43 104 h1 = some (.inl (some (.int (-1))), h2) := by
          unfold s_X14_next__43
          rw [R1.k0, cI_of e2]
        unfold s_X14_next_
        rw [e1, Option.bind_some, R1.k0]
        rcases in_or x (show uF τ 12 < 2147483648 by omega) with ⟨c, hc, rfl⟩ | z
        · have gd := gd.resolve_left (isIn_or (x := 0) (by omega) hc)
          rw [cI_of (isCell_in R1 hc), if_neg (by decide), R1.k0]
          rcases in_or p (show uF τ 13 < 2147483648 by omega) with ⟨q, hq, rfl⟩ | z
          · have gd := gd.resolve_left (isIn_or (x := 0) (by omega) hq)
            rw [cI_of (isPush_in R1 hq), if_neg (by decide), R1.k0, cI_of (isWorld_out R1 gd), if_pos rfl, tt]
          · rw [cI_of (isPush_out R1 z), if_pos rfl, tt]
        · rw [cI_of (isCell_out R1 z), if_pos rfl, tt]
theorem call_sight (x p w i : Int32) : cOK (fun h => wC 0 0 (s_X11_sight 0 x p w i h)) (s_X14_sight 104 x p w i) := by
  refine cOK.of (fun γ _ => ⟨-2147483648, γ, cN1.same fun h S V Z D Ln K => ?_, rN1.same fun h h1 R e1 R1 => ?_⟩) fun γ τ og ot lt => ?_
  · apply wC_of
    unfold s_X11_sight
    rw [K.k0, cI_of (hasMove_N K x p w), if_pos rfl]
    rfl
  · unfold s_X14_sight
    rw [e1, Option.bind_some, R1.k0, cI_of (isCell_N R1 x), if_pos rfl]
    rfl
  · have m4 := lt.2.2.2.1.2.2.2.2
    have gd : (∃ c q y, c < uF τ 12 ∧ q < uF τ 13 ∧ y < uF τ 14 ∧ x = jI c ∧ p = jI q ∧ w = jI y) ∨ ((x < 0 ∨ jI (uF τ 12) ≤ x) ∨ (p < 0 ∨ jI (uF τ 13) ≤ p) ∨ (w < 0 ∨ jI (uF τ 14) ≤ w)) := by
      rcases in_or x (show uF τ 12 < 2147483648 by omega) with ⟨c, hc, e1⟩ | z
      · rcases in_or p (show uF τ 13 < 2147483648 by omega) with ⟨q, hq, e2⟩ | z
        · rcases in_or w (show uF τ 14 < 2147483648 by omega) with ⟨y, hy, e3⟩ | z
          · exact Or.inl ⟨c, q, y, hc, hq, hy, e1, e2, e3⟩
          · exact Or.inr (Or.inr (Or.inr z))
        · exact Or.inr (Or.inr (Or.inl z))
      · exact Or.inr (Or.inl z)
    rcases gd with ⟨c, q, y, hc, hq, hy, rfl, rfl, rfl⟩ | gd
    · rcases in_or i (show uM τ 4 < 2147483648 by omega) with ⟨s, hs, rfl⟩ | gi
      · refine ⟨fun a => a = sumV (spM (uA τ) (uM τ) (jI (uF τ 15)) (jI c) (jI q) (jI y) zV) (sgm (uA τ) 10 11 s), γ, τ, one_x, ?_, rT1.th fun h h1 t2 S wd t f nv V Z B W G e1 R1 => ?_⟩
        · intro h S V Z D Ln N K
          obtain ⟨h2, e2, C2, O2⟩ := K.2.2.1.sprM (a := 2) rfl rfl (jI c) (jI q) (jI y)
          have K2 := K.scr C2.1 O2 (Sm.refl.upd (by decide))
          have g6 : gO h (.ref 0) 11 6 = some 2 := gO_of (ltE (by decide)) (K.1.1.1 0 rfl) rfl
          have g6' : gO h2 (.ref 0) 11 6 = some 2 := gO_of (ltE (by decide)) (C2.1.1 0 rfl) rfl
          have l4 : ldI .int h (.ref 4) 4 = some (jI (uM τ 4)) := K.ldm (k := 4) (by decide)
          have se := C2.seen (a := 2) rfl rfl hs
          rw [upd2_eq, sumV_congr (spM_agree K.kW.1.1 _ _ _ _ _ zV) (K.kW.2.1.2 s hs)] at se
          refine ⟨_, h2, 0, 0, rfl, ?_, _, _, Z, D, Ln, K2, Oa.of O2, Gr.refl, Ct.z⟩
          apply wC_of
          unfold s_X11_sight
          rw [K.k0, cI_of (hasMove_in K hc hq hy), if_neg (by decide), if_neg (jI_neg (by omega)), K.g7, Option.bind_some, K.mn, Option.bind_some, l4, Option.bind_some, if_pos ((jI_lt (by omega) (by omega)).mpr hs), Option.bind_some, g6, Option.bind_some, K.2.2.1.kO3, cN_of e2, K2.g7, Option.bind_some, g6', Option.bind_some, C2.kO3, cI_of se]
        · obtain ⟨h2, h3, h4, a1, a2, a3, k1, k2, C4, O4⟩ := rc_laid R1.2.2.1 (c := c) (p := q) (w := y) (by omega)
          have kW := R1.2.2.1.2.2.2.2.1
          have vs := spM_sm (F := uF τ) kW.1.1 kW.2.2.1 (P := uF τ 15) (c := c) (p := q) (w := y) (by omega) (by omega) (by omega) (by omega) (by omega) (V 148)
          obtain ⟨h5, p5, e5, C5, O5⟩ := C4.sightHere (by rw [upd2_eq]; exact vs) hs
          rw [upd2_eq, sumV_congr (spM_agree kW.1.1 _ _ _ _ _ zV) (kW.2.1.2 s hs)] at e5
          have R5 := R1.scr C5 (O4.trans O5) ((Sm.refl.upd (by decide)).upd (by decide)) SmZ.refl smS.refl
          refine ⟨_, h5, rfl, ?_, R5.rt, Rf.ou (O4.trans O5)⟩
          unfold s_X14_sight
          rw [e1, Option.bind_some, R1.k0, cI_of (isCell_in R1 hc), if_neg (by decide), R1.k0, cI_of (isPush_in R1 hq), if_neg (by decide), R1.k0, cI_of (isWorld_in R1 hy), if_neg (by decide), R1.k0, cI_of (isSight_in R1 hs), if_neg (by decide), R1.k0, cN_of a1, kO_un k1, cN_of a2, kO_un k2, cN_of a3, C4.kO, cI_of e5]
      · refine ⟨fun a => a = -2147483648, γ, τ, one_x, cT1.same fun h S V Z D Ln N K => ?_, rT1.same fun h h1 t2 S wd t f nv V Z B W G e1 R1 => ?_⟩
        · have l4 : ldI .int h (.ref 4) 4 = some (jI (uM τ 4)) := K.ldm (k := 4) (by decide)
          apply wC_of
          unfold s_X11_sight
          rw [K.k0, cI_of (hasMove_in K hc hq hy), if_neg (by decide)]
          by_cases z : i < 0
          · rw [if_pos z]
            rfl
          · rw [if_neg z, K.g7, Option.bind_some, K.mn, Option.bind_some, l4, Option.bind_some, if_neg (i32_nlt.mpr (gi.resolve_left z))]
            rfl
        · unfold s_X14_sight
          rw [e1, Option.bind_some, R1.k0, cI_of (isCell_in R1 hc), if_neg (by decide), R1.k0, cI_of (isPush_in R1 hq), if_neg (by decide), R1.k0, cI_of (isWorld_in R1 hy), if_neg (by decide), R1.k0, cI_of (isSight_out R1 gi), if_pos rfl]
          rfl
    · refine ⟨fun a => a = -2147483648, γ, τ, one_x, cT1.same fun h S V Z D Ln N K => ?_, rT1.same fun h h1 t2 S wd t f nv V Z B W G e1 R1 => ?_⟩
      · apply wC_of
        unfold s_X11_sight
        rw [K.k0, cI_of (hasMove_out K gd), if_pos rfl]
        rfl
      · unfold s_X14_sight
        rw [e1, Option.bind_some, R1.k0]
        rcases in_or x (show uF τ 12 < 2147483648 by omega) with ⟨c, hc, rfl⟩ | z
        · have gd := gd.resolve_left (isIn_or (x := 0) (by omega) hc)
          rw [cI_of (isCell_in R1 hc), if_neg (by decide), R1.k0]
          rcases in_or p (show uF τ 13 < 2147483648 by omega) with ⟨q, hq, rfl⟩ | z
          · have gd := gd.resolve_left (isIn_or (x := 0) (by omega) hq)
            rw [cI_of (isPush_in R1 hq), if_neg (by decide), R1.k0, cI_of (isWorld_out R1 gd), if_pos rfl]
            rfl
          · rw [cI_of (isPush_out R1 z), if_pos rfl]
            rfl
        · rw [cI_of (isCell_out R1 z), if_pos rfl]
          rfl
