/-! calls: place -/
abbrev in9s (n : Nat) (z0 z1 z2 : Int32) : Prop := in9 z0 ∧ (1 < n → in9 z1) ∧ (2 < n → in9 z2)
theorem in9_bd {z : Int32} (q : in9 z) : bdI 999 z.toInt64 := by
  have a := Int32.le_iff_toInt_le.mp q.1
  have b := Int32.le_iff_toInt_le.mp q.2
  have e1 : (-999 : Int32).toInt = -999 := by decide
  have e2 : (999 : Int32).toInt = 999 := by decide
  exact bdI.ofI (by omega) (by omega)
section
variable {γ : gSt} {τ : tSt} {z0 z1 z2 : Int32}
theorem KT.place {h : aH} {S V : Nat → Nat → Int32} {Z : Nat → Nat → Int64} {D Ln : Nat → Nat} {b : Nat} {N : Nat → Int64} (K : KT h S V Z D Ln b N γ τ) (hm : uM τ 0 ≤ 3) : s_X11_place 0 z0 z1 z2 h = if in9s (uM τ 0) z0 z1 z2 then s_X11_place_72 0 z0 z1 z2 (jI (uM τ 0)) h else s_X11_place_66 0 h := by
  have l4 : ldI .int h (.ref 4) 0 = some (jI (uM τ 0)) := K.ldm (k := 0) (by decide)
  unfold s_X11_place
  rw [K.g2, Option.bind_some, if_neg (by decide), K.g7, Option.bind_some, K.mn, Option.bind_some, l4, Option.bind_some]
  by_cases q0 : in9 z0
  · rw [cI_of (beyond_in q0 h), if_pos rfl]
    have p50 : ∀ (_ : 1 < uM τ 0 → in9 z1), s_X11_place_50 0 z0 z1 z2 (jI (uM τ 0)) h = if in9s (uM τ 0) z0 z1 z2 then s_X11_place_72 0 z0 z1 z2 (jI (uM τ 0)) h else s_X11_place_66 0 h := by
      intro q1
      unfold s_X11_place_50
      by_cases m2 : uM τ 0 ≤ 2
      · rw [if_pos (show jI (uM τ 0) ≤ 2 from (jI_le (k := 2) (by omega) (by decide)).mpr m2), if_pos ⟨q0, q1, fun z => by omega⟩]
      · rw [if_neg (show ¬ jI (uM τ 0) ≤ 2 from fun z => m2 ((jI_le (by omega) (by omega)).mp z))]
        by_cases q2 : in9 z2
        · rw [cI_of (beyond_in q2 h), if_pos rfl, if_pos ⟨q0, q1, fun _ => q2⟩]
        · rw [cI_of (beyond_out q2 h), if_neg (by decide), if_neg (fun z => q2 (z.2.2 (by omega)))]
    by_cases m1 : uM τ 0 ≤ 1
    · rw [if_pos (show jI (uM τ 0) ≤ 1 from (jI_le (k := 1) (by omega) (by decide)).mpr m1)]
      exact p50 (fun z => by omega)
    · rw [if_neg (show ¬ jI (uM τ 0) ≤ 1 from fun z => m1 ((jI_le (by omega) (by omega)).mp z))]
      by_cases q1 : in9 z1
      · rw [cI_of (beyond_in q1 h), if_pos rfl]
        exact p50 (fun _ => q1)
      · rw [cI_of (beyond_out q1 h), if_neg (by decide), if_neg (fun z => q1 (z.2.1 (by omega)))]
  · rw [cI_of (beyond_out q0 h), if_neg (by decide), if_neg (fun z => q0 z.1)]
theorem RTx.place {h h1 : aH} {t2 : Nat} {S : Nat → Int32} {wd : Int64} {t f : Nat} {nv : Value} {V : Nat → Nat → Int32} {Z : Nat → Nat → Int64} {B : Nat → Nat → Int32} {W : Nat → Int64} {G : Nat → Nat} (R1 : RTx h1 t2 γ τ S wd t f nv V Z B W G) (e1 : pF h (.ref 104) 14 0 (.int 0) = some h1) (hm : uM τ 0 ≤ 3) : s_X14_place 104 z0 z1 z2 h = if in9s (uM τ 0) z0 z1 z2 then s_X14_place_86 104 z0 z1 z2 (jI (uM τ 0)) h1 else s_X14_place_80 104 h1 := by
  obtain ⟨g1, g2, g3⟩ := R1.2.2.1.ldm (k := 0) (by decide)
  have g3' : ldI .int h1 (.ref (t + 1)) 0 = some (jI (uM τ 0)) := g3
  unfold s_X14_place
  rw [e1, Option.bind_some, R1.g4, Option.bind_some]
  dsimp only
  rw [g1, Option.bind_some, g2, Option.bind_some, g3', Option.bind_some]
  by_cases q0 : in9 z0
  · rw [cI_of (in9_in q0 h1), if_neg (by decide)]
    have p50 : ∀ (_ : 1 < uM τ 0 → in9 z1), s_X14_place_61 104 z0 z1 z2 (jI (uM τ 0)) h1 = if in9s (uM τ 0) z0 z1 z2 then s_X14_place_86 104 z0 z1 z2 (jI (uM τ 0)) h1 else s_X14_place_80 104 h1 := by
      intro q1
      unfold s_X14_place_61
      by_cases m2 : uM τ 0 ≤ 2
      · rw [if_pos (show jI (uM τ 0) ≤ 2 from (jI_le (k := 2) (by omega) (by decide)).mpr m2), if_pos ⟨q0, q1, fun z => by omega⟩]
      · rw [if_neg (show ¬ jI (uM τ 0) ≤ 2 from fun z => m2 ((jI_le (by omega) (by omega)).mp z))]
        by_cases q2 : in9 z2
        · rw [cI_of (in9_in q2 h1), if_neg (by decide), if_pos ⟨q0, q1, fun _ => q2⟩]
        · rw [cI_of (in9_out q2 h1), if_pos rfl, if_neg (fun z => q2 (z.2.2 (by omega)))]
    by_cases m1 : uM τ 0 ≤ 1
    · rw [if_pos (show jI (uM τ 0) ≤ 1 from (jI_le (k := 1) (by omega) (by decide)).mpr m1)]
      exact p50 (fun z => by omega)
    · rw [if_neg (show ¬ jI (uM τ 0) ≤ 1 from fun z => m1 ((jI_le (by omega) (by omega)).mp z))]
      by_cases q1 : in9 z1
      · rw [cI_of (in9_in q1 h1), if_neg (by decide)]
        exact p50 (fun _ => q1)
      · rw [cI_of (in9_out q1 h1), if_pos rfl, if_neg (fun z => q1 (z.2.1 (by omega)))]
  · rw [cI_of (in9_out q0 h1), if_pos rfl, if_neg (fun z => q0 z.1)]
theorem call_place (z0 z1 z2 : Int32) : cOK (fun h => wC 0 0 (s_X11_place 0 z0 z1 z2 h)) (s_X14_place 104 z0 z1 z2) := by
  refine cOK.of2 (fun γ _ => ⟨-1, qTw γ 1, cN1.ref fun h h1 S V Z D Ln K e1 => ?_, rN1.ref fun h h1 h2 R e1 R1 e2 => ?_⟩) fun γ τ og ot lt oS oW oC => ?_
  · apply wC_of
    unfold s_X11_place
    rw [K.g2, Option.bind_some, if_pos rfl, K.k0, cI_of (refuse1 e1)]
  · unfold s_X14_place
    rw [e1, Option.bind_some, R1.tw, Option.bind_some]
    dsimp only
    rw [R1.k0, cI_of e2]
  · have hm : uM τ 0 ≤ 3 := lt.2.2.2.1.1
    have hp := lt.2.2.2.2.2
    have m1b : uM τ 1 ≤ 2 := lt.2.2.2.1.2.1
    by_cases rg : in9s (uM τ 0) z0 z1 z2
    · cases lb : linB (uA τ) (uM τ) (uF τ) with
      | false =>
        refine ⟨fun a => a = -1, qTw γ 5, τ, one_x, ?_, rT1.th fun h h1 t2 S wd t f nv V Z B W G e1 R1 => ?_⟩
        · intro h S V Z D Ln N K
          obtain ⟨h1, S1, V1, Z1, e1, K1, f1, lk, O1⟩ := K.holds
          obtain ⟨h2, e2, K2, O2⟩ := K1.tw (w := 5) (by decide)
          rw [lb] at e1
          refine ⟨-1, h2, 0, 0, rfl, ?_, _, V1, Z1, D, Ln, K2, Oa.of (O1.trans O2), Gr.refl, Ct.z⟩
          apply wC_of
          rw [K.place hm, if_pos rg]
          unfold s_X11_place_72 s_X11_place_108
          rw [K.g15, Option.bind_some, kO_of (ltE (by decide)) (K.1.1.1 81 rfl), cI_of e1, if_pos (by decide), K1.k0, cI_of (refuseW e2)]
        · obtain ⟨h2, S2, V2, Z2, e2, R2, O2, lr⟩ := R1.isLinear oS
          obtain ⟨h3, S3, e3, R3, O3⟩ := R2.refused 5
          rw [lb] at e2
          refine ⟨-1, h3, rfl, ?_, R3.rt, (Rf.ou O2).trans (Rf.ou O3)⟩
          rw [R1.place e1 hm, if_pos rg]
          unfold s_X14_place_86 s_X14_place_120
          rw [R1.k0, cI_of e2, if_pos (by decide), R2.k0, cI_of e3]
      | true =>
        obtain ⟨a, c, l1, l2, nr, oz⟩ := linB_some oS oW lt.2.2.2.1.1 lt.2.2.2.1.2.2.2.2 lb
        by_cases mm : uM τ 1 = 1
        · have ls : lnS false (uM τ) = 1 := mm
          have cq := cl2_is a c hm
          obtain ⟨r0, rk0⟩ := isRk_some (cl2 a c) (1 * uM τ 0)
          by_cases full : r0 = jI (uM τ 0)
          · subst full
            refine ⟨fun r => r = jI (uM τ 0), qGn (qTw γ 0) (uM τ 0) (plT (uM τ 0) a (cl2 a c) z0 z1 z2) (plU (uM τ 0) a (cl2 a c) z0 z1 z2), τ, one_x, ?_, rT1.th fun h h1 t2 S wd t f nv V Z B W G e1 R1 => ?_⟩
            · intro h S V Z D Ln N K
              obtain ⟨h1, S1, V1, Z1, e1, K1, f1, lk, O1⟩ := K.holds
              rw [lb] at e1
              obtain ⟨-, oln, fz⟩ := lk f1
              obtain ⟨h2, Z2, r, e2, C2, O2, MZ, cv, rk⟩ := K1.2.2.1.rankOf false (oln a c l1) oz
              have K2 := K1.scrZ C2.1 O2 (MZ.mono (by decide))
              rw [ls] at cv rk
              have er : r = jI (uM τ 0) := rank_one cv cq rk rk0
              subst er
              obtain ⟨h3, e3, K3, O3⟩ := K2.tw (w := 0) (by decide)
              have fz3 : ∀ j, j < 4 → Z2 85 j = _ := fun j hj => (congrFun (MZ 85 (by decide)) j).trans (fz j hj)
              obtain ⟨h4, Z4, e4, C4, O4, MZ4, gn⟩ := K3.2.2.1.solve (oln a c l1) oz nr fz3 cq rk0 (z0 := z0) (z1 := z1) (z2 := z2) (in9_bd rg.1) (fun z => in9_bd (rg.2.1 z)) (fun z => in9_bd (rg.2.2 z))
              have K4 := K3.gains C4.1 O4 MZ4 hm gn
              have l4 : ldI .int h1 (.ref 4) 1 = some (jI (uM τ 1)) := K1.ldm (k := 1) (by decide)
              refine ⟨_, h4, 0, 0, rfl, ?_, _, V1, Z4, D, Ln, K4, Oa.of (((O1.trans O2).trans O3).trans O4), Gr.refl, Ct.z⟩
              apply wC_of
              rw [K.place hm, if_pos rg]
              unfold s_X11_place_72
              rw [K.g15, Option.bind_some, kO_of (ltE (by decide)) (K.1.1.1 81 rfl), cI_of e1, if_neg (by decide), K1.g7, Option.bind_some, K1.mn, Option.bind_some, l4, Option.bind_some, if_pos (by rw [mm]; rfl), K1.g15, Option.bind_some, kO_of (ltE (by decide)) (K1.1.1.1 81 rfl)]
              have e2' : s_X1_rankOf 81 0 h1 = some (.inl (some (.int (jI (uM τ 0)))), h2) := e2
              rw [cI_of e2', if_pos rfl, e3, Option.bind_some, K3.g15, Option.bind_some, kO_of (ltE (by decide)) (K3.1.1.1 81 rfl), cN_of e4]
            · obtain ⟨h2, S2, V2, Z2, e2, R2, O2, lr⟩ := R1.isLinear oS
              rw [lb] at e2
              obtain ⟨h3, Z3, e3, C3, O3, MZ, cv⟩ := R2.2.2.1.columns false (lr a c l2)
              have R3 := R2.scr C3 O3 Sm.refl (MZ.mono (by decide)) smS.refl
              rw [ls] at cv e3
              obtain ⟨r, e4, rk⟩ := R3.2.2.1.rankOf (n := 1 * uM τ 0) (by omega)
              have er : r = jI (uM τ 0) := rank_one cv cq rk rk0
              subst er
              have ag : ∀ j, j < 3 * uM τ 0 → Z3 168 j = cl2 a c j := fun j hj => by
                have e := isCv_uniq (by decide) cv cq (j / 3) (Or.inl (by omega)) (j % 3) (by omega)
                rw [show j / 3 * 3 + j % 3 = j by omega] at e
                exact e
              have na := nr20_of nr
              have dv := detV_congr (by omega) ag
              have ov := fun td i => ovS_congr (n := uM τ 0) (by omega) ag td i
              have hz3 : ∀ k, uM τ 0 ≤ k → k < 3 → a k 3 = 0 := fun k h1 h2 => oz.2.1 k 0 h2 (by decide) (Or.inl h1)
              have d0 := det_ne (by omega) hm cq hz3 oz.1 rk0
              have bd := bd62_of (bd_det na (by omega) hm cq) (by decide)
              obtain ⟨h5, Z5, e5, C5, O5, MZ5, gn⟩ := R3.2.2.1.places (lr a c l2) (z0 := z0) (z1 := z1) (z2 := z2) (n := uM τ 0) (by omega) hm dv bd d0 (fun i hi => by
                rw [ov]
                exact bd_ov na (by omega) hm cq (in9_bd rg.1) (fun z => in9_bd (rg.2.1 z)) (fun z => in9_bd (rg.2.2 z)) hi)
              have R5 := R3.gains C5 O5 (A := plT (uM τ 0) a (cl2 a c) z0 z1 z2) (C := plU (uM τ 0) a (cl2 a c) z0 z1 z2) (fun j hj => by
                obtain ⟨q1, q2⟩ := gn j hj
                unfold plT plU plO
                rw [q1, q2, ov]
                exact ⟨rfl, rfl⟩)
              refine ⟨_, h5, rfl, ?_, R5.rt, ((Rf.ou O2).trans (Rf.ou O3)).trans (Rf.ou O5)⟩
              obtain ⟨g1, g2, g3⟩ := R2.2.2.1.ldm (k := 1) (by decide)
              have g3' : ldI .int h2 (.ref (t + 1)) 1 = some (jI (uM τ 1)) := g3
              have e3' : s_X14_columns 104 0 h2 = some (.inl (some (.int (jI (1 * uM τ 0)))), h3) := e3
              rw [R1.place e1 hm, if_pos rg]
              unfold s_X14_place_86
              rw [R1.k0, cI_of e2, if_neg (by decide), g1, Option.bind_some, g2, Option.bind_some, g3', Option.bind_some, if_pos (by rw [mm]; rfl), R2.k0, cI_of e3', R3.k0, cI_of e4, if_pos rfl]
              exact e5
          · refine ⟨fun a => a = -1, qTw γ 5, τ, one_x, ?_, rT1.th fun h h1 t2 S wd t f nv V Z B W G e1 R1 => ?_⟩
            · intro h S V Z D Ln N K
              obtain ⟨h1, S1, V1, Z1, e1, K1, f1, lk, O1⟩ := K.holds
              rw [lb] at e1
              obtain ⟨-, oln, fz⟩ := lk f1
              obtain ⟨h2, Z2, r, e2, C2, O2, MZ, cv, rk⟩ := K1.2.2.1.rankOf false (oln a c l1) oz
              have K2 := K1.scrZ C2.1 O2 (MZ.mono (by decide))
              rw [ls] at cv rk
              have er : r = r0 := rank_one cv cq rk rk0
              subst er
              obtain ⟨h3, e3, K3, O3⟩ := K2.tw (w := 5) (by decide)
              have l4 : ldI .int h1 (.ref 4) 1 = some (jI (uM τ 1)) := K1.ldm (k := 1) (by decide)
              refine ⟨_, h3, 0, 0, rfl, ?_, _, V1, Z2, D, Ln, K3, Oa.of ((O1.trans O2).trans O3), Gr.refl, Ct.z⟩
              apply wC_of
              have e2' : s_X1_rankOf 81 0 h1 = some (.inl (some (.int r)), h2) := e2
              rw [K.place hm, if_pos rg]
              unfold s_X11_place_72 s_X11_place_108
              rw [K.g15, Option.bind_some, kO_of (ltE (by decide)) (K.1.1.1 81 rfl), cI_of e1, if_neg (by decide), K1.g7, Option.bind_some, K1.mn, Option.bind_some, l4, Option.bind_some, if_pos (by rw [mm]; rfl), K1.g15, Option.bind_some, kO_of (ltE (by decide)) (K1.1.1.1 81 rfl), cI_of e2', if_neg full, K2.k0, cI_of (refuseW e3)]
            · obtain ⟨h2, S2, V2, Z2, e2, R2, O2, lr⟩ := R1.isLinear oS
              rw [lb] at e2
              obtain ⟨h3, Z3, e3, C3, O3, MZ, cv⟩ := R2.2.2.1.columns false (lr a c l2)
              have R3 := R2.scr C3 O3 Sm.refl (MZ.mono (by decide)) smS.refl
              rw [ls] at cv e3
              obtain ⟨r, e4, rk⟩ := R3.2.2.1.rankOf (n := 1 * uM τ 0) (by omega)
              have er : r = r0 := rank_one cv cq rk rk0
              subst er
              obtain ⟨h5, S5, e5, R5, O5⟩ := R3.refused 5
              refine ⟨_, h5, rfl, ?_, R5.rt, ((Rf.ou O2).trans (Rf.ou O3)).trans (Rf.ou O5)⟩
              obtain ⟨g1, g2, g3⟩ := R2.2.2.1.ldm (k := 1) (by decide)
              have g3' : ldI .int h2 (.ref (t + 1)) 1 = some (jI (uM τ 1)) := g3
              have e3' : s_X14_columns 104 0 h2 = some (.inl (some (.int (jI (1 * uM τ 0)))), h3) := e3
              rw [R1.place e1 hm, if_pos rg]
              unfold s_X14_place_86 s_X14_place_120
              rw [R1.k0, cI_of e2, if_neg (by decide), g1, Option.bind_some, g2, Option.bind_some, g3', Option.bind_some, if_pos (by rw [mm]; rfl), R2.k0, cI_of e3', R3.k0, cI_of e4, if_neg full, R3.k0, cI_of e5]
        · have mn : ¬ jI (uM τ 1) = 1 := fun z => mm ((jI_inj (j := uM τ 1) (k := 1) (by omega) (by decide)).mp z)
          refine ⟨fun a => a = -1, qTw γ 5, τ, one_x, ?_, rT1.th fun h h1 t2 S wd t f nv V Z B W G e1 R1 => ?_⟩
          · intro h S V Z D Ln N K
            obtain ⟨h1, S1, V1, Z1, e1, K1, f1, lk, O1⟩ := K.holds
            rw [lb] at e1
            obtain ⟨h3, e3, K3, O3⟩ := K1.tw (w := 5) (by decide)
            have l4 : ldI .int h1 (.ref 4) 1 = some (jI (uM τ 1)) := K1.ldm (k := 1) (by decide)
            refine ⟨_, h3, 0, 0, rfl, ?_, _, V1, Z1, D, Ln, K3, Oa.of (O1.trans O3), Gr.refl, Ct.z⟩
            apply wC_of
            rw [K.place hm, if_pos rg]
            unfold s_X11_place_72 s_X11_place_108
            rw [K.g15, Option.bind_some, kO_of (ltE (by decide)) (K.1.1.1 81 rfl), cI_of e1, if_neg (by decide), K1.g7, Option.bind_some, K1.mn, Option.bind_some, l4, Option.bind_some, if_neg mn, K1.k0, cI_of (refuseW e3)]
          · obtain ⟨h2, S2, V2, Z2, e2, R2, O2, lr⟩ := R1.isLinear oS
            rw [lb] at e2
            obtain ⟨h5, S5, e5, R5, O5⟩ := R2.refused 5
            refine ⟨_, h5, rfl, ?_, R5.rt, (Rf.ou O2).trans (Rf.ou O5)⟩
            obtain ⟨g1, g2, g3⟩ := R2.2.2.1.ldm (k := 1) (by decide)
            have g3' : ldI .int h2 (.ref (t + 1)) 1 = some (jI (uM τ 1)) := g3
            rw [R1.place e1 hm, if_pos rg]
            unfold s_X14_place_86 s_X14_place_120
            rw [R1.k0, cI_of e2, if_neg (by decide), g1, Option.bind_some, g2, Option.bind_some, g3', Option.bind_some, if_neg mn, R2.k0, cI_of e5]
    · have ec : ∀ h h1 S V Z D Ln N, KT h S V Z D Ln 197 N γ τ → pF h (.ref 0) 11 3 (.int 2) = some h1 → wC 0 0 (s_X11_place 0 z0 z1 z2 h) = some (.inl (some (.int (-1))), h1, 0, 0) := by
        intro h h1 S V Z D Ln N K e1
        apply wC_of
        rw [K.place hm, if_neg rg]
        unfold s_X11_place_66
        rw [K.k0, cI_of (refuseW e1)]
      refine ⟨fun y => y = -1, qTw γ 2, τ, one_x, cT1.ref (by decide) fun h h1 S V Z D Ln N K e1 => ec h h1 S V Z D Ln N K e1, rT1.ref (w := 2) fun h h1 h2 t2 S wd t f nv V Z B W G e1 R1 e2 => ?_⟩
      rw [R1.place e1 hm, if_neg rg]
      unfold s_X14_place_80
      rw [R1.k0, cI_of e2]
end
