/-! calls: code, tick, told -/
def shB (x : Int32) : Bool := decide (-128 ≤ x ∧ x ≤ 127)
theorem isShort_at (x : Int32) (h : aH) : s_X11_isShort x h = some (.inl (some (.int (b01 (shB x)))), h) := by
  unfold s_X11_isShort shB
  by_cases q : x < -128
  · rw [if_pos q, decide_eq_false (fun z => i32_nlt.mpr z.1 q)]
    rfl
  · rw [if_neg q]
    by_cases q2 : 127 < x
    · rw [if_pos q2, decide_eq_false (fun z => i32_nlt.mpr z.2 q2)]
      rfl
    · rw [if_neg q2, decide_eq_true ⟨i32_nlt.mp q, i32_nlt.mp q2⟩]
      rfl
theorem shR_at (x : Int32) (h : aH) : s_X14_in x (-128) 127 h = some (.inl (some (.int (b01 (shB x)))), h) := by
  unfold s_X14_in shB
  by_cases q : x < -128
  · rw [if_pos q, decide_eq_false (fun z => i32_nlt.mpr z.1 q)]
    rfl
  · rw [if_neg q]
    by_cases q2 : 127 < x
    · rw [if_pos q2, decide_eq_false (fun z => i32_nlt.mpr z.2 q2)]
      rfl
    · rw [if_neg q2, decide_eq_true ⟨i32_nlt.mp q, i32_nlt.mp q2⟩]
      rfl
def cdF (a1 a2 a3 : Int32) : Nat → Int32 := fun i => if i = 0 then a1 else if i = 1 then a2 else a3
theorem cdF_ok {g : Nat → Int32} {a1 a2 a3 : Int32} : ∀ i, i < 3 → upd (upd (upd g 0 a1) 1 a2) 2 a3 i = cdF a1 a2 a3 i := fun i hi => by
  have : i = 0 ∨ i = 1 ∨ i = 2 := by omega
  rcases this with rfl | rfl | rfl <;> rfl
theorem KT.setCode {h : aH} {S V : Nat → Nat → Int32} {Z : Nat → Nat → Int64} {D Ln : Nat → Nat} {b : Nat} {N : Nat → Int64} {γ : gSt} {τ : tSt} (K : KT h S V Z D Ln b N γ τ) (a1 a2 a3 a4 a5 : Int32) (h5 : a5 = 0 ∨ 0 < a5) : ∃ h' S' V', s_X5_setCode 99 a1 a2 a3 a4 a5 h = some (.inl none, h') ∧ KT h' S' V' Z D Ln b N γ (uSetD τ (cdF a1 a2 a3) a4 a5) ∧ Oc D h h' := by
  obtain ⟨kg, k02, C, kD, ok, ⟨kw, km, kr, ks, km5⟩, kp, kl, ka, kc, kq⟩ := K
  obtain ⟨h1, e1, X1, O⟩ := setCode_at kg.1 a1 a2 a3 a4 a5
  have C' := C.to X1 O rfl
  refine ⟨h1, _, _, e1, ⟨kg.t X1 (kg.2.1.oc kg.1 O) rfl rfl rfl rfl rfl, k02, C', kD, ?_, ⟨kw.t rfl rfl rfl rfl rfl, km.t rfl rfl rfl rfl rfl, kr.t rfl rfl rfl, ks.t rfl rfl rfl rfl, km5.t rfl rfl⟩, kp.t rfl rfl rfl rfl rfl, kl.t rfl rfl rfl rfl rfl rfl, ka.t rfl rfl rfl rfl rfl rfl rfl, ⟨fun i hi => cdF_ok i hi, rfl, rfl⟩, kq.t rfl rfl⟩, O⟩
  obtain ⟨o1, o2, o3, o4, o5, o6, o7⟩ := ok
  exact ⟨o1, o2, o3, o4, o5, o6, h5⟩
theorem RTx.setCode {h : aH} {t2 : Nat} {γ : gSt} {τ : tSt} {S : Nat → Int32} {wd : Int64} {t f : Nat} {nv : Value} {V : Nat → Nat → Int32} {Z : Nat → Nat → Int64} {B : Nat → Nat → Int32} {W : Nat → Int64} {G : Nat → Nat} (R : RTx h t2 γ τ S wd t f nv V Z B W G) (a1 a2 a3 a4 a5 : Int32) :
    ∃ h1 h2 h3 h4 h5 S' V', stI h (.ref 181) 0 a1 = some h1 ∧ gO h1 (.ref 104) 14 66 = some 181 ∧ stI h1 (.ref 181) 1 a2 = some h2 ∧ gO h2 (.ref 104) 14 66 = some 181 ∧ stI h2 (.ref 181) 2 a3 = some h3 ∧ pF h3 (.ref 104) 14 67 (.int a4) = some h4 ∧ pF h4 (.ref 104) 14 68 (.int a5) = some h5 ∧ RTx h5 t2 γ (uSetD τ (cdF a1 a2 a3) a4 a5) S' wd t f nv V' Z B W G ∧ Ou h h5 := by
  obtain ⟨g, tp, C, ⟨Bf, Wf, Gf, Tf⟩, d, ld, gd, gl, cs, f1, f2, k1, k2, tr, cl, cn, cd⟩ := R
  obtain ⟨h1, e1, X1, O1⟩ := g.1.st (a := 181) (j := 0) rfl rfl (by decide) a1
  obtain ⟨h2, e2, X2, O2⟩ := X1.st (a := 181) (j := 1) rfl rfl (by decide) a2
  obtain ⟨h3, e3, X3, O3⟩ := X2.st (a := 181) (j := 2) rfl rfl (by decide) a3
  obtain ⟨h4, e4, X4, O4⟩ := X3.pS (k := 67) rfl a4
  obtain ⟨h5, e5, X5, O5⟩ := X4.pS (k := 68) rfl a5
  have O := (((O1.trans O2).trans O3).trans O4).trans O5
  simp only [upd2_2, upd2_eq] at X5
  refine ⟨h1, h2, h3, h4, h5, _, _, e1, gO_of (ltE (by decide)) X1.1 rfl, e2, gO_of (ltE (by decide)) X2.1 rfl, e3, e4, e5, ⟨g.t X5 O rfl rfl rfl (fun j hj => by rw [upd_ne (by omega), upd_ne (by omega)]), tp, C.toS X5 O ⟨rfl, rfl, rfl, rfl⟩, ⟨Bf, Wf, Gf, Tf.ou O tp.ok.2.1⟩, d, ld.sm rfl, gd, gl, cs.ou O, f1, f2, k1, k2, tr, cl, cn, ⟨fun i hi => ?_, rfl, rfl⟩⟩, O⟩
  rw [upd2_eq]
  exact cdF_ok i hi
theorem code68_0 {h h1 : aH} {a1 a2 a3 a4 a5 : Int32} (e1 : pF h (.ref 0) 11 3 (.int 2) = some h1) : s_X11_code_67 0 a1 a2 a3 a4 a5 h = some (.inl (some (.int 0)), h1) := by
  unfold s_X11_code_67 s_X11_code_68 s_X11_code_87
  rw [if_pos rfl, e1, Option.bind_some]
  rfl
theorem call_code (a1 a2 a3 a4 a5 : Int32) : cOK (fun h => wC 0 0 (s_X11_code 0 a1 a2 a3 a4 a5 h)) (s_X14_code 104 a1 a2 a3 a4 a5) := by
  refine cOK.of (fun γ _ => ⟨0, qTw γ 1, cN1.ref fun h h1 S V Z D Ln K e1 => ?_, rN1.denied fun h h1 h2 R e1 R1 e2 => ?_⟩) fun γ τ og ot lt => ?_
  · apply wC_of
    unfold s_X11_code
    rw [K.g2, Option.bind_some, if_pos rfl, e1, Option.bind_some]
    rfl
  · unfold s_X14_code
    rw [e1, Option.bind_some, R1.tw, Option.bind_some]
    dsimp only
    rw [R1.k0, cI_of e2]
    rfl
  · by_cases m1 : uM τ 1 = 1
    · by_cases q : shB a1 = true ∧ shB a2 = true ∧ shB a3 = true ∧ shB a4 = true ∧ 0 ≤ a5 ∧ a5 ≤ 7
      · obtain ⟨q1, q2, q3, q4, q5, q6⟩ := q
        have a50 : a5 = 0 ∨ 0 < a5 := by
          by_cases z : a5 = 0
          · exact Or.inl z
          · refine Or.inr (Int32.lt_iff_toInt_lt.mpr ?_)
            have a := Int32.le_iff_toInt_le.mp q5
            have e0 : (0 : Int32).toInt = 0 := by decide
            have n : a5.toInt ≠ 0 := fun y => z (Int32.toInt_inj.mp (by rw [y, e0]))
            omega
        refine ⟨fun a => a = 1, qTw γ 0, uSetD τ (cdF a1 a2 a3) a4 a5, one_x, ?_, rT1.th fun h h1 t2 S wd t f nv V Z B W G e1 R1 => ?_⟩
        · intro h S V Z D Ln N K
          obtain ⟨h1, e1, K1, O1⟩ := K.tw (w := 0) (by decide)
          obtain ⟨h2, S2, V2, e2, K2, O2⟩ := K1.setCode a1 a2 a3 a4 a5 a50
          have g17 : gO h1 (.ref 0) 11 17 = some 99 := gO_of (ltE (by decide)) (K1.1.1.1 0 rfl) rfl
          have lm : ldI .int h (.ref 4) 1 = some (jI (uM τ 1)) := K.ldm (k := 1) (by decide)
          refine ⟨_, h2, 0, 0, rfl, ?_, S2, V2, Z, D, Ln, K2, Oa.of (O1.trans O2), Gr.refl, Ct.z⟩
          apply wC_of
          unfold s_X11_code
          rw [K.g2, Option.bind_some, if_neg (by decide), K.g7, Option.bind_some, K.mn, Option.bind_some, lm, Option.bind_some, if_pos (one_yes m1), cI_of (isShort_at a1 h), q1, if_neg (by decide), cI_of (isShort_at a2 h), q2, if_neg (by decide), cI_of (isShort_at a3 h), q3, if_neg (by decide), cI_of (isShort_at a4 h), q4, if_neg (by decide)]
          unfold s_X11_code_68
          rw [if_neg (by decide), if_neg (i32_nlt.mpr q5), if_pos q6, e1, Option.bind_some, g17, Option.bind_some, kO_of (ltE (by decide)) (K1.1.1.1 99 rfl), cN_of e2]
          rfl
        · obtain ⟨h2, h3, h4, h5, h6, S6, V6, e2, g2, e3, g3, e4, e5, e6, R6, O6⟩ := R1.setCode a1 a2 a3 a4 a5
          obtain ⟨h7, S7, e7, R7, O7⟩ := R6.granted
          have g66 : gO h1 (.ref 104) 14 66 = some 181 := gO_of (ltE (by decide)) R1.1.1.1 rfl
          have io := isOne_at R1
          rw [decide_eq_true m1] at io
          refine ⟨_, h7, rfl, ?_, R7.rt, (Rf.ou O6).trans (Rf.ou O7)⟩
          unfold s_X14_code
          rw [e1, Option.bind_some, R1.g4, Option.bind_some]
          dsimp only
          rw [R1.k0, cI_of io, if_neg (by decide), cI_of (shR_at a1 h1), q1, if_neg (by decide), cI_of (shR_at a2 h1), q2, if_neg (by decide), cI_of (shR_at a3 h1), q3, if_neg (by decide), cI_of (shR_at a4 h1), q4, if_neg (by decide), cI_of (inR_span q5 q6 h1), if_neg (by decide), g66, Option.bind_some, e2, Option.bind_some, g2, Option.bind_some, e3, Option.bind_some, g3, Option.bind_some, e4, Option.bind_some, e5, Option.bind_some, e6, Option.bind_some, R6.k0, cI_of e7]
          rfl
      · refine ⟨fun a => a = 0, qTw γ 2, τ, one_x, cT1.ref (by decide) fun h h1 S V Z D Ln N K e1 => ?_, rT1.denied (w := 2) fun h h1 h2 t2 S wd t f nv V Z B W G e1 R1 e2 => ?_⟩
        · have lm : ldI .int h (.ref 4) 1 = some (jI (uM τ 1)) := K.ldm (k := 1) (by decide)
          have bad := code68_0 (a1 := a1) (a2 := a2) (a3 := a3) (a4 := a4) (a5 := a5) e1
          apply wC_of
          unfold s_X11_code
          rw [K.g2, Option.bind_some, if_neg (by decide), K.g7, Option.bind_some, K.mn, Option.bind_some, lm, Option.bind_some, if_pos (one_yes m1), cI_of (isShort_at a1 h)]
          cases q1 : shB a1 with
          | false => rw [if_pos (by decide), bad]
          | true =>
            rw [if_neg (by decide), cI_of (isShort_at a2 h)]
            cases q2 : shB a2 with
            | false => rw [if_pos (by decide), bad]
            | true =>
              rw [if_neg (by decide), cI_of (isShort_at a3 h)]
              cases q3 : shB a3 with
              | false => rw [if_pos (by decide), bad]
              | true =>
                rw [if_neg (by decide), cI_of (isShort_at a4 h)]
                cases q4 : shB a4 with
                | false => rw [if_pos (by decide), bad]
                | true =>
                  rw [if_neg (by decide)]
                  unfold s_X11_code_68 s_X11_code_87
                  rw [if_neg (by decide)]
                  by_cases z : a5 < 0
                  · rw [if_pos z, e1, Option.bind_some]
                    rfl
                  · rw [if_neg z, if_neg (fun z2 => q ⟨q1, q2, q3, q4, i32_nlt.mp z, z2⟩), e1, Option.bind_some]
                    rfl
        · have io := isOne_at R1
          rw [decide_eq_true m1] at io
          have bad : s_X14_code_87 104 h1 = some (.inl (some (.int 0)), h2) := by
            unfold s_X14_code_87
            rw [R1.k0, cI_of e2]
            rfl
          unfold s_X14_code
          rw [e1, Option.bind_some, R1.g4, Option.bind_some]
          dsimp only
          rw [R1.k0, cI_of io, if_neg (by decide), cI_of (shR_at a1 h1)]
          cases q1 : shB a1 with
          | false => rw [if_pos (by decide), bad]
          | true =>
            rw [if_neg (by decide), cI_of (shR_at a2 h1)]
            cases q2 : shB a2 with
            | false => rw [if_pos (by decide), bad]
            | true =>
              rw [if_neg (by decide), cI_of (shR_at a3 h1)]
              cases q3 : shB a3 with
              | false => rw [if_pos (by decide), bad]
              | true =>
                rw [if_neg (by decide), cI_of (shR_at a4 h1)]
                cases q4 : shB a4 with
                | false => rw [if_pos (by decide), bad]
                | true =>
                  have z5 : a5 < 0 ∨ 7 < a5 := by
                    by_cases z : a5 < 0
                    · exact Or.inl z
                    · exact Or.inr (i32_nle.mp fun z2 => q ⟨q1, q2, q3, q4, i32_nlt.mp z, z2⟩)
                  rw [if_neg (by decide), cI_of (inR_spanN z5 h1), if_pos rfl, bad]
    · refine ⟨fun a => a = 0, qTw γ 5, τ, one_x, cT1.ref (by decide) fun h h1 S V Z D Ln N K e1 => ?_, rT1.denied (w := 5) fun h h1 h2 t2 S wd t f nv V Z B W G e1 R1 e2 => ?_⟩
      · have lm : ldI .int h (.ref 4) 1 = some (jI (uM τ 1)) := K.ldm (k := 1) (by decide)
        apply wC_of
        unfold s_X11_code
        rw [K.g2, Option.bind_some, if_neg (by decide), K.g7, Option.bind_some, K.mn, Option.bind_some, lm, Option.bind_some, if_neg (one_no lt m1), e1, Option.bind_some]
        rfl
      · have io := isOne_at R1
        rw [decide_eq_false m1] at io
        unfold s_X14_code
        rw [e1, Option.bind_some, R1.g4, Option.bind_some]
        dsimp only
        rw [R1.k0, cI_of io, if_pos (by decide), R1.k0, cI_of e2]
        rfl
