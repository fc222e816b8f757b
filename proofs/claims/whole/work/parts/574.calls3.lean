/-! calls: margin, coded, walk, strays, proved, breaks -/
theorem one_yes {τ : tSt} (q : uM τ 1 = 1) : jI (uM τ 1) = 1 := by rw [q]; rfl
theorem one_no {τ : tSt} (l : liT τ) (q : ¬ uM τ 1 = 1) : ¬ jI (uM τ 1) = 1 := fun z => q ((jI_inj (j := uM τ 1) (k := 1) (by have := l.2.2.2.1.2.1; omega) (by decide)).mp z)
theorem margin21_at {h : aH} {t2 : Nat} {γ : gSt} {τ : tSt} {S : Nat → Int32} {wd : Int64} {t f : Nat} {nv : Value} {V : Nat → Nat → Int32} {Z : Nat → Nat → Int64} {B : Nat → Nat → Int32} {W : Nat → Int64} {G : Nat → Nat} (R : RTx h t2 γ τ S wd t f nv V Z B W G) (fd : okFd V (uA τ) (uM τ) (uF τ) (uG τ) (uL τ) (uC τ)) {c : Nat} (hc : c < uF τ 12) : s_X14_margin_21 FU 104 (jI c) 2 h = some (.inl (some (.int (mgS (uA τ) (uM τ) (uF τ) (uG τ) c))), h) := by
  have l := R.lim
  have g38 : gO h (.ref 104) 14 38 = some 156 := gO_of (ltE (by decide)) R.1.1.1 rfl
  have sc : ∀ f, s_X14_margin_21 (f + 1) = s_X14_margin_21_b (s_X14_margin_21 f) := fun f => rfl
  have fu : FU = 999996 + 1 + 1 + 1 + 1 := rfl
  have i2 := isIn_at R.1.1 (a := 156) (b := 26) (c := c) rfl rfl (by omega) (show 26 + c / 32 < 39 by omega)
  have i1 := isIn_at R.1.1 (a := 156) (b := 13) (c := c) rfl rfl (by omega) (show 13 + c / 32 < 39 by omega)
  have i0 := isIn_at R.1.1 (a := 156) (b := 0) (c := c) rfl rfl (by omega) (show 0 + c / 32 < 39 by omega)
  have b2 : bit (V 156) 26 c = sfW (uA τ) (uM τ) (uF τ) (uG τ) 2 c := fd.2.1 2 (by decide) c (by omega)
  have b1' : bit (V 156) 13 c = sfW (uA τ) (uM τ) (uF τ) (uG τ) 1 c := fd.2.1 1 (by decide) c (by omega)
  have b0 : bit (V 156) 0 c = sfW (uA τ) (uM τ) (uF τ) (uG τ) 0 c := fd.2.1 0 (by decide) c (by omega)
  have m2 : (13 : Int32) * 2 = jI 26 := by decide
  have m1 : (13 : Int32) * 1 = jI 13 := by decide
  have m0 : (13 : Int32) * 0 = jI 0 := by decide
  rw [b2] at i2
  rw [b1'] at i1
  rw [b0] at i0
  unfold mgS
  rw [fu, sc]
  unfold s_X14_margin_21_b
  rw [if_neg (by decide), g38, Option.bind_some, m2, cI_of i2]
  cases q2 : sfW (uA τ) (uM τ) (uF τ) (uG τ) 2 c with
  | true =>
    rw [if_neg (by decide)]
    rfl
  | false =>
    rw [if_pos (by decide), show (2 : Int32) + (-1) = 1 by decide, sc]
    unfold s_X14_margin_21_b
    rw [if_neg (by decide), g38, Option.bind_some, m1, cI_of i1]
    cases q1 : sfW (uA τ) (uM τ) (uF τ) (uG τ) 1 c with
    | true =>
      rw [if_neg (by decide)]
      rfl
    | false =>
      rw [if_pos (by decide), show (1 : Int32) + (-1) = 0 by decide, sc]
      unfold s_X14_margin_21_b
      rw [if_neg (by decide), g38, Option.bind_some, m0, cI_of i0]
      cases q0 : sfW (uA τ) (uM τ) (uF τ) (uG τ) 0 c with
      | true =>
        rw [if_neg (by decide)]
        rfl
      | false =>
        rw [if_pos (by decide), show (0 : Int32) + (-1) = -1 by decide, sc]
        unfold s_X14_margin_21_b
        rw [if_pos (by decide)]
        rfl
theorem call_margin (x : Int32) : cOK (s_X11_margin 0 x) (s_X14_margin 104 x) := by
  refine cOK.of (fun γ _ => ⟨-1, γ, cN1.same fun h S V Z D Ln K => ?_, rN1.same fun h h1 R e1 R1 => ?_⟩) fun γ τ og ot lt => ?_
  · unfold s_X11_margin
    rw [K.k0, cI_of (hasCell_N K x), if_pos rfl]
    rfl
  · unfold s_X14_margin
    rw [e1, Option.bind_some, R1.k0, cI_of (isCell_N R1 x), if_pos rfl]
  · rcases in_or x (show uF τ 12 < 2147483648 by omega) with ⟨c, hc, rfl⟩ | q
    · refine ⟨fun a => a = mgS (uA τ) (uM τ) (uF τ) (uG τ) c, γ, τ, one_x, ?_, rT1.th fun h h1 t2 S wd t f nv V Z B W G e1 R1 => ?_⟩
      · intro h S V Z D Ln N K
        obtain ⟨h2, S2, V2, D2, L2, n, y, e2, K2, mv, ln, sf, O2, G2, ct⟩ := K.readySafety
        obtain ⟨h3, S3, V3, D3, L3, n3, y3, e3, K3, mg, O3, G3, ct3⟩ := K2.margins mv ln sf
        have g13 : gO h3 (.ref 0) 11 13 = some 69 := gO_of (ltE (by decide)) (K3.1.1.1 0 rfl) rfl
        have g9 : gO h3 (.ref 69) 7 9 = some 73 := gO_of (ltE (by decide)) (K3.1.1.1 69 rfl) rfl
        have l7 : ldI .int h3 (.ref 73) (jI c) = some (V3 73 c) := K3.1.1.ld rfl (show c < 400 by omega)
        rw [mg c hc] at l7
        refine ⟨_, h3, 0 + n + n3, 0 + y + y3, rfl, ?_, S3, V3, Z, D3, L3, K3, Oa.of (O2.trans2 G2 O3), Gr.trans O2.1 G2 G3, ct.cat0.trans ct3⟩
        unfold s_X11_margin
        rw [K.k0, cI_of (hasCell_in K hc), if_neg (by decide), K.k0, dR_of e2, kO_of (ltE (by decide)) (K2.1.1.1 69 rfl), dN_of e3, g13, Option.bind_some, g9, Option.bind_some, l7, Option.bind_some, ckw rfl, ck_of (Nat.le_add_right _ _) (Nat.le_add_right _ _), ck_of (Nat.zero_le _) (Nat.zero_le _)]
      · obtain ⟨h2, S2, V2, e2, R2, fd, O2⟩ := R1.finds ot
        refine ⟨_, h2, rfl, ?_, R2.rt, Rf.ou O2⟩
        unfold s_X14_margin
        rw [e1, Option.bind_some, R1.k0, cI_of (isCell_in R1 hc), if_neg (by decide), R1.k0, cN_of e2, margin21_at R2 fd hc]
    · refine ⟨fun a => a = -1, γ, τ, one_x, cT1.same fun h S V Z D Ln N K => ?_, rT1.same fun h h1 t2 S wd t f nv V Z B W G e1 R1 => ?_⟩
      · unfold s_X11_margin
        rw [K.k0, cI_of (hasCell_out K q), if_pos rfl]
        rfl
      · unfold s_X14_margin
        rw [e1, Option.bind_some, R1.k0, cI_of (isCell_out R1 q), if_pos rfl]
theorem call_coded (x : Int32) : cOK (fun h => wC 0 0 (s_X11_coded 0 x h)) (s_X14_coded 104 x) := by
  refine cOK.of (fun γ _ => ⟨-1, qTw γ 1, cN1.ref fun h h1 S V Z D Ln K e1 => ?_, rN1.ref fun h h1 h2 R e1 R1 e2 => ?_⟩) fun γ τ og ot lt => ?_
  · apply wC_of
    unfold s_X11_coded
    rw [K.k0, cI_of (hasCell_N K x), if_pos rfl, K.k0, cI_of (refuse1 e1)]
  · unfold s_X14_coded
    rw [e1, Option.bind_some, R1.k0, cI_of (isCell_N R1 x), if_pos rfl, R1.k0, cI_of e2]
  · rcases in_or x (show uF τ 12 < 2147483648 by omega) with ⟨c, hc, rfl⟩ | q
    · by_cases m1 : uM τ 1 = 1
      · refine ⟨fun a => a = codS (uA τ) (uM τ) (uD τ) (uB τ) (uH τ) c, qTw γ 0, τ, one_x, ?_, rT1.th fun h h1 t2 S wd t f nv V Z B W G e1 R1 => ?_⟩
        · intro h S V Z D Ln N K
          obtain ⟨h1, e1, K1, O1⟩ := K.tw (w := 0) (by decide)
          obtain ⟨h2, V2, e2, C2, O2, M2, -⟩ := K1.2.2.1.codePush K1.2.2.2.2.2.2.2.2.2.1 c
          have K2 := K1.scr C2.1 O2 (M2.mono (by decide))
          have g17 : gO h1 (.ref 0) 11 17 = some 99 := gO_of (ltE (by decide)) (K1.1.1.1 0 rfl) rfl
          have lm : ldI .int h (.ref 4) 1 = some (jI (uM τ 1)) := K.ldm (k := 1) (by decide)
          refine ⟨_, h2, 0, 0, rfl, ?_, _, V2, Z, D, Ln, K2, Oa.of (O1.trans O2), Gr.refl, Ct.z⟩
          apply wC_of
          unfold s_X11_coded
          rw [K.k0, cI_of (hasCell_in K hc), if_neg (by decide), K.g7, Option.bind_some, K.mn, Option.bind_some, lm, Option.bind_some, if_pos (one_yes m1), e1, Option.bind_some, g17, Option.bind_some, kO_of (ltE (by decide)) (K1.1.1.1 99 rfl), cI_of e2]
        · obtain ⟨h2, V2, e2, C2, O2, M2⟩ := R1.2.2.1.codedOf m1 R1.2.2.2.2.2.2.2.2.2.2.2.2.2.2.2.2 ot.2.2.2.2.2.2 c
          have R2 := R1.scr C2 O2 (M2.mono (by decide)) SmZ.refl smS.refl
          obtain ⟨h3, S3, e3, R3, O3⟩ := R2.done (codS (uA τ) (uM τ) (uD τ) (uB τ) (uH τ) c)
          have io := isOne_at R1
          rw [decide_eq_true m1] at io
          refine ⟨_, h3, rfl, ?_, R3.rt, (Rf.ou O2).trans (Rf.ou O3)⟩
          unfold s_X14_coded
          rw [e1, Option.bind_some, R1.k0, cI_of (isCell_in R1 hc), if_neg (by decide), R1.k0, cI_of io, if_neg (by decide), R1.k0, cI_of e2, R2.k0, cI_of e3]
      · refine ⟨fun a => a = -1, qTw γ 5, τ, one_x, cT1.ref (by decide) fun h h1 S V Z D Ln N K e1 => ?_, rT1.ref (w := 5) fun h h1 h2 t2 S wd t f nv V Z B W G e1 R1 e2 => ?_⟩
        · have lm : ldI .int h (.ref 4) 1 = some (jI (uM τ 1)) := K.ldm (k := 1) (by decide)
          apply wC_of
          unfold s_X11_coded
          rw [K.k0, cI_of (hasCell_in K hc), if_neg (by decide), K.g7, Option.bind_some, K.mn, Option.bind_some, lm, Option.bind_some, if_neg (one_no lt m1), K.k0, cI_of (refuse1 e1)]
        · have io := isOne_at R1
          rw [decide_eq_false m1] at io
          unfold s_X14_coded
          rw [e1, Option.bind_some, R1.k0, cI_of (isCell_in R1 hc), if_neg (by decide), R1.k0, cI_of io, if_pos (by decide), R1.k0, cI_of e2]
    · refine ⟨fun a => a = -1, qTw γ 1, τ, one_x, cT1.ref (by decide) fun h h1 S V Z D Ln N K e1 => ?_, rT1.ref (w := 1) fun h h1 h2 t2 S wd t f nv V Z B W G e1 R1 e2 => ?_⟩
      · apply wC_of
        unfold s_X11_coded
        rw [K.k0, cI_of (hasCell_out K q), if_pos rfl, K.k0, cI_of (refuse1 e1)]
      · unfold s_X14_coded
        rw [e1, Option.bind_some, R1.k0, cI_of (isCell_out R1 q), if_pos rfl, R1.k0, cI_of e2]
theorem call_walk (x : Int32) : cOK (fun h => wC 0 0 (s_X11_walk 0 x h)) (s_X14_walk 104 x) := by
  refine cOK.of (fun γ _ => ⟨-1, qTw γ 1, cN1.ref fun h h1 S V Z D Ln K e1 => ?_, rN1.ref fun h h1 h2 R e1 R1 e2 => ?_⟩) fun γ τ og ot lt => ?_
  · apply wC_of
    unfold s_X11_walk
    rw [K.k0, cI_of (hasCell_N K x), if_pos rfl, K.k0, cI_of (refuse1 e1)]
  · unfold s_X14_walk
    rw [e1, Option.bind_some, R1.k0, cI_of (isCell_N R1 x), if_pos rfl, R1.k0, cI_of e2]
  · rcases in_or x (show uF τ 12 < 2147483648 by omega) with ⟨c, hc, rfl⟩ | q
    · by_cases m1 : uM τ 1 = 1
      · refine ⟨fun a => a = wkG (fun c => ldV (uA τ) (uM τ) (uF τ) c (codS (uA τ) (uM τ) (uD τ) (uB τ) (uH τ) c).toNatClampNeg 0) (uF τ 12 + 1) 0 (jI c) (fun _ => -1), qTw γ 0, τ, one_x, ?_, rT1.th fun h h1 t2 S wd t f nv V Z B W G e1 R1 => ?_⟩
        · intro h S V Z D Ln N K
          obtain ⟨h1, e1, K1, O1⟩ := K.tw (w := 0) (by decide)
          obtain ⟨h2, V2, e2, C2, O2, M2⟩ := K1.2.2.1.round m1 K1.2.2.2.2.2.2.2.2.2.1 hc
          have K2 := K1.scr C2.1 O2 (M2.mono (by decide))
          have g17 : gO h1 (.ref 0) 11 17 = some 99 := gO_of (ltE (by decide)) (K1.1.1.1 0 rfl) rfl
          have lm : ldI .int h (.ref 4) 1 = some (jI (uM τ 1)) := K.ldm (k := 1) (by decide)
          refine ⟨_, h2, 0, 0, rfl, ?_, _, V2, Z, D, Ln, K2, Oa.of (O1.trans O2), Gr.refl, Ct.z⟩
          apply wC_of
          unfold s_X11_walk
          rw [K.k0, cI_of (hasCell_in K hc), if_neg (by decide), K.g7, Option.bind_some, K.mn, Option.bind_some, lm, Option.bind_some, if_pos (one_yes m1), e1, Option.bind_some, g17, Option.bind_some, kO_of (ltE (by decide)) (K1.1.1.1 99 rfl), cI_of e2]
        · obtain ⟨-, -, -, -, -, ld, -, -, -, -, -, -, -, -, -, -, cr⟩ := id R1
          obtain ⟨h2, V2, e2, C2, O2, M2, v2⟩ := wk34_go (c := c) (uF τ 12) 0 FU h1 V (Nat.zero_add _) (by unfold FU; omega) R1.2.2.1 (fun j hj => absurd hj (Nat.not_lt_zero _))
          obtain ⟨h3, V3, e3, C3, O3, M3⟩ := wk59_go m1 ot.2.2.2.2.2.2 (uF τ 12 + 1) 0 FU h2 V2 (jI c) (fun _ => -1) (Nat.zero_add _) (by unfold FU; omega) C2 (ld.sm (M2 151 (by decide))) (cr.sm (M2 181 (by decide))) (Or.inr ⟨c, rfl, hc⟩) v2
          have R3 := R1.tw C3 (O2.trans O3) ((M2.mono (by decide)).trans (M3.mono (by decide))) SmZ.refl smS.refl
          have io := isOne_at R1
          rw [decide_eq_true m1] at io
          have e2' : s_X14_walk_34 FU 104 (jI c) 0 h1 = s_X14_walk_59 FU 104 (jI c) 0 h2 := e2
          have e3' : s_X14_walk_59 FU 104 (jI c) 0 h2 = _ := e3
          refine ⟨_, h3, rfl, ?_, R3.rt, (Rf.ou O2).trans (Rf.ou O3)⟩
          unfold s_X14_walk
          rw [e1, Option.bind_some, R1.k0, cI_of (isCell_in R1 hc), if_neg (by decide), R1.k0, cI_of io, if_neg (by decide), e2', e3']
      · refine ⟨fun a => a = -1, qTw γ 5, τ, one_x, cT1.ref (by decide) fun h h1 S V Z D Ln N K e1 => ?_, rT1.ref (w := 5) fun h h1 h2 t2 S wd t f nv V Z B W G e1 R1 e2 => ?_⟩
        · have lm : ldI .int h (.ref 4) 1 = some (jI (uM τ 1)) := K.ldm (k := 1) (by decide)
          apply wC_of
          unfold s_X11_walk
          rw [K.k0, cI_of (hasCell_in K hc), if_neg (by decide), K.g7, Option.bind_some, K.mn, Option.bind_some, lm, Option.bind_some, if_neg (one_no lt m1), K.k0, cI_of (refuse1 e1)]
        · have io := isOne_at R1
          rw [decide_eq_false m1] at io
          unfold s_X14_walk
          rw [e1, Option.bind_some, R1.k0, cI_of (isCell_in R1 hc), if_neg (by decide), R1.k0, cI_of io, if_pos (by decide), R1.k0, cI_of e2]
    · refine ⟨fun a => a = -1, qTw γ 1, τ, one_x, cT1.ref (by decide) fun h h1 S V Z D Ln N K e1 => ?_, rT1.ref (w := 1) fun h h1 h2 t2 S wd t f nv V Z B W G e1 R1 e2 => ?_⟩
      · apply wC_of
        unfold s_X11_walk
        rw [K.k0, cI_of (hasCell_out K q), if_pos rfl, K.k0, cI_of (refuse1 e1)]
      · unfold s_X14_walk
        rw [e1, Option.bind_some, R1.k0, cI_of (isCell_out R1 q), if_pos rfl, R1.k0, cI_of e2]
theorem call_strays : cOK (s_X11_strays 0) (s_X14_strays 104) := by
  refine cOK.of (fun γ _ => ⟨-1, qTw γ 1, cN1.ref fun h h1 S V Z D Ln K e1 => ?_, rN1.ref fun h h1 h2 R e1 R1 e2 => ?_⟩) fun γ τ og ot lt => ?_
  · unfold s_X11_strays
    rw [K.g2, Option.bind_some, if_pos rfl, K.k0, cI_of (refuse1 e1)]
    rfl
  · unfold s_X14_strays
    rw [e1, Option.bind_some, R1.tw, Option.bind_some]
    dsimp only
    rw [R1.k0, cI_of e2]
  · by_cases m1 : uM τ 1 = 1
    · refine ⟨fun a => a = jI (0 + cntR (fun c => sfW (uA τ) (uM τ) (uF τ) (uG τ) 0 c && !intoB (ldV (uA τ) (uM τ) (uF τ) c (codS (uA τ) (uM τ) (uD τ) (uB τ) (uH τ) c).toNatClampNeg) (uF τ 14) (sfW (uA τ) (uM τ) (uF τ) (uG τ) 0)) 0 (uF τ 12)), qTw γ 0, τ, one_x, ?_, rT1.th fun h h1 t2 S wd t f nv V Z B W G e1 R1 => ?_⟩
      · intro h S V Z D Ln N K
        obtain ⟨h1, e1, K1, O1⟩ := K.tw (w := 0) (by decide)
        obtain ⟨h2, S2, V2, D2, L2, n, y, e2, K2, mv, ln, sf, O2, G2, ct⟩ := K1.readySafety
        obtain ⟨h3, V3, e3, C3, O3, M3⟩ := st4_go ot.1 m1 (uF τ 12) 0 FU 0 h2 V2 (Nat.zero_add _) (by unfold FU; omega) (by omega) K2.2.2.1 K2.2.2.2.2.2.2.2.2.2.1 sf
        have K3 := K2.scr C3.1 O3 (M3.mono (by decide))
        have e3' : s_X5_straying 99 h2 = _ := e3
        have g17 : gO h2 (.ref 0) 11 17 = some 99 := gO_of (ltE (by decide)) (K2.1.1.1 0 rfl) rfl
        have lm : ldI .int h (.ref 4) 1 = some (jI (uM τ 1)) := K.ldm (k := 1) (by decide)
        refine ⟨_, h3, 0 + n, 0 + y, rfl, ?_, _, V3, Z, D2, L2, K3, Oa.of (O1.trans (O2.trans2 G2 O3)), G2.pre O1.1, ct.cat0⟩
        unfold s_X11_strays
        rw [K.g2, Option.bind_some, if_neg (by decide), K.g7, Option.bind_some, K.mn, Option.bind_some, lm, Option.bind_some, if_pos (one_yes m1), e1, Option.bind_some, K1.k0, dR_of e2, g17, Option.bind_some, kO_of (ltE (by decide)) (K2.1.1.1 99 rfl), cI_of e3']
        exact ckw rfl
      · obtain ⟨h2, S2, V2, e2, R2, fd, O2⟩ := R1.finds ot
        obtain ⟨h3, V3, e3, C3, O3, M3⟩ := sr39_go (good := uG τ) m1 ot.2.2.2.2.2.2 (uF τ 12) 0 FU 0 h2 V2 (Nat.zero_add _) (by unfold FU; omega) (by omega) R2.2.2.1 R2.2.2.2.2.2.2.2.2.2.2.2.2.2.2.2.2 fd.1 (fun d hd => fd.2.1 0 (by decide) d hd)
        have R3 := R2.tw C3 O3 (M3.mono (by decide)) SmZ.refl smS.refl
        have e3' : s_X14_strays_39 FU 104 0 0 h2 = _ := e3
        have io := isOne_at R1
        rw [decide_eq_true m1] at io
        refine ⟨_, h3, rfl, ?_, R3.rt, (Rf.ou O2).trans (Rf.ou O3)⟩
        unfold s_X14_strays
        rw [e1, Option.bind_some, R1.g4, Option.bind_some]
        dsimp only
        rw [R1.k0, cI_of io, if_neg (by decide), R1.k0, cN_of e2, e3']
    · refine ⟨fun a => a = -1, qTw γ 5, τ, one_x, cT1.ref (by decide) fun h h1 S V Z D Ln N K e1 => ?_, rT1.ref (w := 5) fun h h1 h2 t2 S wd t f nv V Z B W G e1 R1 e2 => ?_⟩
      · have lm : ldI .int h (.ref 4) 1 = some (jI (uM τ 1)) := K.ldm (k := 1) (by decide)
        unfold s_X11_strays
        rw [K.g2, Option.bind_some, if_neg (by decide), K.g7, Option.bind_some, K.mn, Option.bind_some, lm, Option.bind_some, if_neg (one_no lt m1), K.k0, cI_of (refuse1 e1)]
        rfl
      · have io := isOne_at R1
        rw [decide_eq_false m1] at io
        unfold s_X14_strays
        rw [e1, Option.bind_some, R1.g4, Option.bind_some]
        dsimp only
        rw [R1.k0, cI_of io, if_pos (by decide), R1.k0, cI_of e2]
