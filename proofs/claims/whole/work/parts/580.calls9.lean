/-! calls: can, canBe, known, named -/
theorem wS30 {τ : tSt} (ot : okτ τ) (lt : liT τ) (K : okW (uA τ) (uM τ) (uF τ)) (fl q : Nat) : wS (uA τ) (uM τ) (uF τ) (uG τ) (uP τ) (uT τ) (uV τ) 30 fl q (uK τ) = wS (uA τ) (uM τ) (uF τ) (uG τ) (uP τ) (uT τ) (uV τ) (jI (uK τ)) fl q (uK τ) := by
  have k30 := ot.2.2.1
  have m4 := lt.2.2.2.1.2.2.2.2
  refine wS_congr K (uK τ) (fun _ _ _ => rfl) (fun _ _ _ _ => ⟨rfl, rfl⟩) (fun e i h1 h2 h3 => ?_)
  rcases ot.2.2.2.1 (2 * e + i) (by omega) with z | ⟨d, z1, z2⟩
  · exact absurd z h3
  · rw [z2]
    exact ⟨fun _ => (jI_le (by omega) (by omega)).mpr z1, fun _ => (jI_le (k := 30) (by omega) (by omega)).mpr (by omega)⟩
/-- where it can be now, a fault being the one -/
def caT (τ : tSt) (fl : Nat) : Nat → Bool := caS (uA τ) (uM τ) (uF τ) (uG τ) (uP τ) (uT τ) (uV τ) (jI (uK τ)) fl (uK τ)
theorem ca30 {τ : tSt} (ot : okτ τ) (lt : liT τ) (K : okW (uA τ) (uM τ) (uF τ)) (fl : Nat) : caS (uA τ) (uM τ) (uF τ) (uG τ) (uP τ) (uT τ) (uV τ) 30 fl (uK τ) = caT τ fl := by
  funext c
  unfold caT caS
  congr 1
  funext q
  rw [wS30 ot lt K fl q]
theorem fi30 {τ : tSt} (ot : okτ τ) (lt : liT τ) (K : okW (uA τ) (uM τ) (uF τ)) (fl q : Nat) : fiS (uA τ) (uM τ) (uF τ) (uG τ) (uP τ) (uT τ) (uV τ) 30 fl (uK τ) q = fiS (uA τ) (uM τ) (uF τ) (uG τ) (uP τ) (uT τ) (uV τ) (jI (uK τ)) fl (uK τ) q := by
  unfold fiS
  rw [wS30 ot lt K fl q]
section
variable {h : aH} {S V : Nat → Nat → Int32} {Z : Nat → Nat → Int64} {D Ln : Nat → Nat} {b : Nat} {N : Nat → Int64} {γ : gSt} {τ : tSt}
theorem KT.gd (K : KT h S V Z D Ln b N γ τ) : gdC V (uG τ) := K.2.2.2.2.2.1.1.1
theorem KT.wa (K : KT h S V Z D Ln b N γ τ) : k_a S V Ln τ := K.2.2.2.2.2.2.2.2.1
theorem KT.ok (K : KT h S V Z D Ln b N γ τ) : okτ τ := K.2.2.2.2.1
theorem KT.kW (K : KT h S V Z D Ln b N γ τ) : okW (uA τ) (uM τ) (uF τ) := K.2.2.1.2.2.1
theorem KT.cellsBy (K : KT h S V Z D Ln b N γ τ) (mv : okMv V (uA τ) (uM τ) (uF τ)) (ln : lenMv Ln (uF τ)) {fl : Nat} (hfl : fl < 5) : ∃ h' S' V' D' Ln' n y, s_X9_cellsBy 92 (jI fl) h = some (.inl (some (.int (jI (cntB (caT τ fl) (uF τ 12))))), h', n, y) ∧ KT h' S' V' Z D' Ln' b N γ τ ∧ Oc D h h' ∧ Gr h D D' ∧ Ct Ln Ln' n y := by
  obtain ⟨h1, n, y, e1, w⟩ := K.2.2.1.cellsBy mv ln K.gd K.wa hfl
  obtain ⟨S1, V1, D1, L1, K1, O1, G1, ct⟩ := K.af w
  rw [ca30 K.ok K.lim K.kW] at e1
  exact ⟨h1, S1, V1, D1, L1, n, y, e1, K1, O1, G1, ct⟩
end
section
variable {h : aH} {t2 : Nat} {γ : gSt} {τ : tSt} {S : Nat → Int32} {wd : Int64} {t f : Nat} {nv : Value} {V : Nat → Nat → Int32} {Z : Nat → Nat → Int64} {B : Nat → Nat → Int32} {W : Nat → Int64} {G : Nat → Nat}
theorem RTx.g59 (R : RTx h t2 γ τ S wd t f nv V Z B W G) : gI h (.ref 104) 14 59 = some (jI (uK τ)) := by rw [← R.2.2.2.2.2.2.2.2.2.2.2.1]; exact R.1.1.gS rfl
theorem RTx.gathers (R : RTx h t2 γ τ S wd t f nv V Z B W G) (ot : okτ τ) {tick bn fl : Nat} (htk : tick ≤ uK τ) (hfl : fl ≤ 100) : ∃ h' V', s_X14_gathers 104 (jI tick) (jI bn) (jI fl) h = some (.inl (some (.int (jI (cntB (caS (uA τ) (uM τ) (uF τ) (uG τ) (uP τ) (uT τ) (uV τ) (jI bn) fl tick) (uF τ 12))))), h') ∧ RTx h' t2 γ τ S wd t f nv V' Z B W G ∧ Ou h h' ∧ ∀ d, d < uF τ 12 → V' 180 d = b01 (caS (uA τ) (uM τ) (uF τ) (uG τ) (uP τ) (uT τ) (uV τ) (jI bn) fl tick d) := by
  obtain ⟨g, tp, C, fr, d, ld, gd, gl, cs, f1, f2, k1, k2, tr, cl, cn, cd⟩ := id R
  obtain ⟨h1, V1, e1, C1, O1, M1, v1⟩ := C.gathers (good := uG τ) (tp := uP τ) (ta := uT τ) (tv := uV τ) (bn := bn) (tick := tick) (by have := ot.2.2.1; omega) hfl (fun e x1 x2 => ot.2.2.2.2.1 e x1 (by omega)) tr gd (fun e x1 x2 => k2 e x1 (by omega))
  exact ⟨h1, V1, e1, R.scr C1 O1 (M1.mono (by decide)) SmZ.refl smS.refl, O1, v1⟩
theorem faults_at (R : RTx h t2 γ τ S wd t f nv V Z B W G) : s_X14_faults 104 h = some (.inl (some (.int (jI (uM τ 1 + uM τ 4)))), h) := by
  obtain ⟨l1, l2, l3⟩ := R.ldm (k := 1) (by decide)
  obtain ⟨-, -, l4⟩ := R.ldm (k := 4) (by decide)
  have l3' : ldI .int h (.ref (t + 1)) 1 = some (jI (uM τ 1)) := l3
  have l4' : ldI .int h (.ref (t + 1)) 4 = some (jI (uM τ 4)) := l4
  unfold s_X14_faults
  rw [l1, Option.bind_some, l2, Option.bind_some, l3', Option.bind_some, Option.bind_some, l2, Option.bind_some, l4', Option.bind_some, jI_add]
end
theorem call_can (x : Int32) : cOK (s_X11_can 0 x) (s_X14_can 104 x) := by
  refine cOK.of (fun γ _ => ⟨-1, qTw γ 1, cN1.ref fun h h1 S V Z D Ln K e1 => ?_, rN1.ref fun h h1 h2 R e1 R1 e2 => ?_⟩) fun γ τ og ot lt => ?_
  · unfold s_X11_can
    rw [K.g2, Option.bind_some, if_pos rfl]
    unfold s_X11_can_34
    rw [K.k0, cI_of (refuse1 e1)]
    rfl
  · unfold s_X14_can
    rw [e1, Option.bind_some, R1.tw, Option.bind_some]
    dsimp only
    unfold s_X14_can_24
    rw [R1.k0, cI_of e2]
  · obtain ⟨-, m1, -, -, m4⟩ := id lt.2.2.2.1
    rcases in_or x (show uM τ 1 + uM τ 4 + 1 < 2147483648 by omega) with ⟨c, hc, rfl⟩ | q
    · refine ⟨fun a => a = jI (cntB (caT τ c) (uF τ 12)), qTw γ 0, τ, one_x, ?_, rT1.th fun h h1 t2 S wd t f nv V Z B W G e1 R1 => ?_⟩
      · intro h S V Z D Ln N K
        obtain ⟨h1, e1, K1, O1⟩ := K.tw (w := 0) (by decide)
        obtain ⟨h2, S2, V2, D2, L2, n, y, e2, K2, mv, ln, O2, G2, ct⟩ := K1.readyWatcher
        obtain ⟨h3, S3, V3, D3, L3, n3, y3, e3, K3, O3, G3, ct3⟩ := K2.cellsBy mv ln (show c < 5 by omega)
        have l1 : ldI .int h (.ref 4) 1 = some (jI (uM τ 1)) := K.ldm (k := 1) (by decide)
        have l4 : ldI .int h (.ref 4) 4 = some (jI (uM τ 4)) := K.ldm (k := 4) (by decide)
        refine ⟨_, h3, 0 + n + n3, 0 + y + y3, rfl, ?_, S3, V3, Z, D3, L3, K3, Oa.of (O1.trans (O2.trans2 G2 O3)), (Gr.trans O2.1 G2 G3).pre O1.1, ct.cat0.trans ct3⟩
        unfold s_X11_can
        rw [K.g2, Option.bind_some, if_neg (by decide), if_neg (jI_neg (by omega)), K.g7, Option.bind_some, K.mn, Option.bind_some, l1, Option.bind_some, Option.bind_some, K.mn, Option.bind_some, l4, Option.bind_some, jI_add, if_pos ((jI_le (by omega) (by omega)).mpr (by omega)), e1, Option.bind_some, K1.k0, dR_of e2, kO_of (ltE (by decide)) (K2.1.1.1 92 rfl), dI_of e3, ckw rfl, ck_of (Nat.le_add_right _ _) (Nat.le_add_right _ _)]
      · obtain ⟨h2, V2, e2, R2, O2, -⟩ := R1.gathers ot (tick := uK τ) (bn := uK τ) (fl := c) (Nat.le_refl _) (by omega)
        obtain ⟨h3, S3, e3, R3, O3⟩ := R2.done (jI (cntB (caT τ c) (uF τ 12)))
        refine ⟨_, h3, rfl, ?_, R3.rt, (Rf.ou O2).trans (Rf.ou O3)⟩
        have inn : s_X14_in (jI c) 0 (jI (uM τ 1 + uM τ 4)) h1 = some (.inl (some (.int 1)), h1) := inR_span (i32_nlt.mp (jI_neg (by omega))) ((jI_le (by omega) (by omega)).mpr (by omega)) h1
        unfold s_X14_can
        rw [e1, Option.bind_some, R1.g4, Option.bind_some]
        dsimp only
        rw [R1.k0, cI_of (faults_at R1), cI_of inn, if_neg (by decide), R1.g59, Option.bind_some, Option.bind_some, R1.k0, cI_of e2, R2.k0]
        exact (cI_of e3)
    · refine ⟨fun a => a = -1, qTw γ 1, τ, one_x, cT1.ref (by decide) fun h h1 S V Z D Ln N K e1 => ?_, rT1.ref (w := 1) fun h h1 h2 t2 S wd t f nv V Z B W G e1 R1 e2 => ?_⟩
      · have l1 : ldI .int h (.ref 4) 1 = some (jI (uM τ 1)) := K.ldm (k := 1) (by decide)
        have l4 : ldI .int h (.ref 4) 4 = some (jI (uM τ 4)) := K.ldm (k := 4) (by decide)
        have tt : s_X11_can_34 0 h 0 0 = some (.inl (some (.int (-1))), h1, 0, 0) := by
          unfold s_X11_can_34
          rw [K.k0, cI_of (refuse1 e1)]
          rfl
        unfold s_X11_can
        rw [K.g2, Option.bind_some, if_neg (by decide)]
        by_cases z : x < 0
        · rw [if_pos z, tt]
        · rw [if_neg z, K.g7, Option.bind_some, K.mn, Option.bind_some, l1, Option.bind_some, Option.bind_some, K.mn, Option.bind_some, l4, Option.bind_some, jI_add, if_neg (i32_nle.mpr (lt_of_le1 (by omega) (q.resolve_left z))), tt]
      · have inn : s_X14_in x 0 (jI (uM τ 1 + uM τ 4)) h1 = some (.inl (some (.int 0)), h1) := inR_spanN (q.imp id (fun z => lt_of_le1 (by omega) z)) h1
        unfold s_X14_can
        rw [e1, Option.bind_some, R1.g4, Option.bind_some]
        dsimp only
        rw [R1.k0, cI_of (faults_at R1), cI_of inn, if_pos rfl]
        unfold s_X14_can_24
        rw [R1.k0, cI_of e2]
theorem call_canBe (x : Int32) : cOK (s_X11_canBe 0 x) (s_X14_canBe 104 x) := by
  refine cOK.of (fun γ _ => ⟨-1, γ, cN1.same fun h S V Z D Ln K => ?_, rN1.same fun h h1 R e1 R1 => ?_⟩) fun γ τ og ot lt => ?_
  · unfold s_X11_canBe
    rw [K.k0, cI_of (hasCell_N K x), if_pos rfl]
    rfl
  · unfold s_X14_canBe
    rw [e1, Option.bind_some, R1.k0, cI_of (isCell_N R1 x), if_pos rfl]
  · rcases in_or x (show uF τ 12 < 2147483648 by omega) with ⟨c, hc, rfl⟩ | q
    · refine ⟨fun a => a = b01 (caT τ 0 c), γ, τ, one_x, ?_, rT1.th fun h h1 t2 S wd t f nv V Z B W G e1 R1 => ?_⟩
      · intro h S V Z D Ln N K
        obtain ⟨h2, S2, V2, D2, L2, n, y, e2, K2, mv, ln, O2, G2, ct⟩ := K.readyWatcher
        obtain ⟨h3, n3, y3, e3, w⟩ := K2.2.2.1.mayBe mv ln K2.gd K2.wa hc
        obtain ⟨S3, V3, D3, L3, K3, O3, G3, ct3⟩ := K2.af w
        rw [ca30 ot lt K2.kW] at e3
        refine ⟨_, h3, 0 + n + n3, 0 + y + y3, rfl, ?_, S3, V3, Z, D3, L3, K3, Oa.of (O2.trans2 G2 O3), Gr.trans O2.1 G2 G3, ct.cat0.trans ct3⟩
        unfold s_X11_canBe
        rw [K.k0, cI_of (hasCell_in K hc), if_neg (by decide), K.k0, dR_of e2, kO_of (ltE (by decide)) (K2.1.1.1 92 rfl), dI_of e3]
        cases z : caT τ 0 c with
        | true => rw [if_neg (by decide), ckw rfl, ck_of (Nat.le_add_right _ _) (Nat.le_add_right _ _), ck_of (Nat.zero_le _) (Nat.zero_le _)]; rfl
        | false => rw [if_pos (by decide), ckw rfl, ck_of (Nat.le_add_right _ _) (Nat.le_add_right _ _), ck_of (Nat.zero_le _) (Nat.zero_le _)]; rfl
      · obtain ⟨h2, V2, e2, R2, O2, v2⟩ := R1.gathers ot (tick := uK τ) (bn := uK τ) (fl := 0) (Nat.le_refl _) (by omega)
        have g65 : gO h2 (.ref 104) 14 65 = some 180 := gO_of (ltE (by decide)) R2.1.1.1 rfl
        have l : ldI .boolean h2 (.ref 180) (jI c) = some (V2 180 c) := R2.1.1.ld (a := 180) rfl (show c < 400 by omega)
        rw [v2 c hc] at l
        have e2' : s_X14_gathers 104 (jI (uK τ)) (jI (uK τ)) 0 h1 = _ := e2
        refine ⟨_, h2, rfl, ?_, R2.rt, Rf.ou O2⟩
        unfold s_X14_canBe
        rw [e1, Option.bind_some, R1.k0, cI_of (isCell_in R1 hc), if_neg (by decide), R1.g59, Option.bind_some, Option.bind_some, R1.k0, cI_of e2', g65, Option.bind_some, l, Option.bind_some]
        unfold caT
        cases z : caS (uA τ) (uM τ) (uF τ) (uG τ) (uP τ) (uT τ) (uV τ) (jI (uK τ)) 0 (uK τ) c with
        | true => rw [if_neg (by decide)]; rfl
        | false => rw [if_pos (by decide)]; rfl
    · refine ⟨fun a => a = -1, γ, τ, one_x, cT1.same fun h S V Z D Ln N K => ?_, rT1.same fun h h1 t2 S wd t f nv V Z B W G e1 R1 => ?_⟩
      · unfold s_X11_canBe
        rw [K.k0, cI_of (hasCell_out K q), if_pos rfl]
        rfl
      · unfold s_X14_canBe
        rw [e1, Option.bind_some, R1.k0, cI_of (isCell_out R1 q), if_pos rfl]
theorem call_known (x : Int32) : cOK (s_X11_known 0 x) (s_X14_known 104 x) := by
  refine cOK.of (fun γ _ => ⟨-1, γ, cN1.same fun h S V Z D Ln K => ?_, rN1.same fun h h1 R e1 R1 => ?_⟩) fun γ τ og ot lt => ?_
  · unfold s_X11_known
    rw [K.g2, Option.bind_some, if_pos rfl]
    rfl
  · unfold s_X14_known
    rw [e1, Option.bind_some, R1.tw, Option.bind_some]
  · have k30 := ot.2.2.1
    rcases in_or x (show uK τ + 1 < 2147483648 by omega) with ⟨c, hc, rfl⟩ | q
    · refine ⟨fun a => a = jI (cntB (caS (uA τ) (uM τ) (uF τ) (uG τ) (uP τ) (uT τ) (uV τ) (jI c) 0 c) (uF τ 12)), γ, τ, one_x, ?_, rT1.th fun h h1 t2 S wd t f nv V Z B W G e1 R1 => ?_⟩
      · intro h S V Z D Ln N K
        obtain ⟨h2, S2, V2, D2, L2, n, y, e2, K2, mv, ln, O2, G2, ct⟩ := K.readyWatcher
        obtain ⟨h3, n3, y3, e3, w⟩ := K2.2.2.1.cellsAsKnown mv ln K2.gd K2.wa (show c ≤ uK τ by omega)
        obtain ⟨S3, V3, D3, L3, K3, O3, G3, ct3⟩ := K2.af w
        have g16 : gO h (.ref 0) 11 16 = some 92 := gO_of (ltE (by decide)) (K.1.1.1 0 rfl) rfl
        have g4 : gI h (.ref 92) 9 4 = some (jI (uK τ)) := by rw [← K.wa.2.1]; exact gI_of (ltE (by decide)) (K.1.1.1 92 rfl) rfl
        refine ⟨_, h3, 0 + n + n3, 0 + y + y3, rfl, ?_, S3, V3, Z, D3, L3, K3, Oa.of (O2.trans2 G2 O3), Gr.trans O2.1 G2 G3, ct.cat0.trans ct3⟩
        unfold s_X11_known
        rw [K.g2, Option.bind_some, if_neg (by decide), if_neg (jI_neg (by omega)), g16, Option.bind_some, g4, Option.bind_some, if_pos ((jI_le (by omega) (by omega)).mpr (by omega)), K.k0, dR_of e2, kO_of (ltE (by decide)) (K2.1.1.1 92 rfl), dI_of e3, ckw rfl, ck_of (Nat.le_add_right _ _) (Nat.le_add_right _ _)]
      · obtain ⟨h2, V2, e2, R2, O2, v2⟩ := R1.gathers ot (tick := c) (bn := c) (fl := 0) (by omega) (by omega)
        have e2' : s_X14_gathers 104 (jI c) (jI c) 0 h1 = _ := e2
        have inn : s_X14_in (jI c) 0 (jI (uK τ)) h1 = some (.inl (some (.int 1)), h1) := inR_span (i32_nlt.mp (jI_neg (by omega))) ((jI_le (by omega) (by omega)).mpr (by omega)) h1
        refine ⟨_, h2, rfl, ?_, R2.rt, Rf.ou O2⟩
        unfold s_X14_known
        rw [e1, Option.bind_some, R1.g4, Option.bind_some]
        dsimp only
        rw [R1.g59, Option.bind_some, cI_of inn, if_neg (by decide), R1.k0, cI_of e2']
    · refine ⟨fun a => a = -1, γ, τ, one_x, cT1.same fun h S V Z D Ln N K => ?_, rT1.same fun h h1 t2 S wd t f nv V Z B W G e1 R1 => ?_⟩
      · have g16 : gO h (.ref 0) 11 16 = some 92 := gO_of (ltE (by decide)) (K.1.1.1 0 rfl) rfl
        have g4 : gI h (.ref 92) 9 4 = some (jI (uK τ)) := by rw [← K.wa.2.1]; exact gI_of (ltE (by decide)) (K.1.1.1 92 rfl) rfl
        unfold s_X11_known
        rw [K.g2, Option.bind_some, if_neg (by decide)]
        by_cases z : x < 0
        · rw [if_pos z]
          rfl
        · rw [if_neg z, g16, Option.bind_some, g4, Option.bind_some, if_neg (i32_nle.mpr (lt_of_le1 (by omega) (q.resolve_left z)))]
          rfl
      · have inn : s_X14_in x 0 (jI (uK τ)) h1 = some (.inl (some (.int 0)), h1) := inR_spanN (q.imp id (fun z => lt_of_le1 (by omega) z)) h1
        unfold s_X14_known
        rw [e1, Option.bind_some, R1.g4, Option.bind_some]
        dsimp only
        rw [R1.g59, Option.bind_some, cI_of inn, if_pos rfl]
/-- the reference's walk over the faults -/
theorem nm23_go {t2 : Nat} {γ : gSt} {τ : tSt} {S : Nat → Int32} {wd : Int64} {t f : Nat} {nv : Value} {Z : Nat → Nat → Int64} {B : Nat → Nat → Int32} {W : Nat → Int64} {G : Nat → Nat} (ot : okτ τ) : ∀ (k fl fu : Nat) (x : Int32) (h : aH) (V : Nat → Nat → Int32), fl + k = uM τ 1 + uM τ 4 + 1 → k < fu → RTx h t2 γ τ S wd t f nv V Z B W G →
    ∃ h' S' V', s_X14_named_23 fu 104 x (jI fl) h = some (.inl (some (.int (nmG (fun f => cntB (caT τ f) (uF τ 12)) fl k x))), h') ∧ RTx h' t2 (qTw γ 0) τ S' wd t f nv V' Z B W G ∧ Ou h h'
  | _, _, 0, _, _, _, _, hf, _ => absurd hf (Nat.not_lt_zero _)
  | 0, fl, fu + 1, x, h, V, hk, _, R => by
    obtain ⟨-, m1, -, -, m4⟩ := id R.lim.2.2.2.1
    obtain ⟨h1, S1, e1, R1, O1⟩ := R.done x
    refine ⟨h1, S1, V, ?_, R1, O1⟩
    show s_X14_named_23_b (s_X14_named_23 fu) 104 x (jI fl) h = _
    unfold s_X14_named_23_b
    rw [R.k0, cI_of (faults_at R), if_pos ((jI_lt (by omega) (by omega)).mpr (by omega)), R.k0, cI_of e1]
    rfl
  | k + 1, fl, fu + 1, x, h, V, hk, hf, R => by
    obtain ⟨-, m1, -, -, m4⟩ := id R.lim.2.2.2.1
    have l400 := R.lim.1
    obtain ⟨h1, V1, e1, R1, O1, -⟩ := R.gathers ot (tick := uK τ) (bn := uK τ) (fl := fl) (Nat.le_refl _) (by omega)
    have cb := cntB_le (caT τ fl) (uF τ 12)
    have ec : cntB (caS (uA τ) (uM τ) (uF τ) (uG τ) (uP τ) (uT τ) (uV τ) (jI (uK τ)) fl (uK τ)) (uF τ 12) = cntB (caT τ fl) (uF τ 12) := rfl
    rw [ec] at e1
    have main : s_X14_named_23 (fu + 1) 104 x (jI fl) h = (if jI (cntB (caT τ fl) (uF τ 12)) ≤ 0 then (s_X14_named_23 fu 104 x (jI (fl + 1)) h1) else (if x = (-3) then (s_X14_named_23 fu 104 (jI fl) (jI (fl + 1)) h1) else (s_X14_named_23 fu 104 (-2) (jI (fl + 1)) h1))) := by
      show s_X14_named_23_b (s_X14_named_23 fu) 104 x (jI fl) h = _
      unfold s_X14_named_23_b
      rw [R.k0, cI_of (faults_at R), if_neg (fun z => by have := (jI_lt (by omega) (by omega)).mp z; omega), R.g59, Option.bind_some, Option.bind_some, R.k0, cI_of e1]
      unfold s_X14_named_59
      rw [jI_inc]
    rw [main]
    by_cases z : cntB (caT τ fl) (uF τ 12) = 0
    · obtain ⟨h2, S2, V2, e2, R2, O2⟩ := nm23_go ot k (fl + 1) fu x h1 V1 (by omega) (by omega) R1
      refine ⟨h2, S2, V2, ?_, R2, O1.trans O2⟩
      rw [z, if_pos (by decide), e2]
      show _ = some ((.inl (some (.int (if cntB (caT τ fl) (uF τ 12) = 0 then nmG (fun f => cntB (caT τ f) (uF τ 12)) (fl + 1) k x else _))) : aR), h2)
      rw [if_pos z]
    · have nz : ¬ jI (cntB (caT τ fl) (uF τ 12)) ≤ 0 := fun y => z (by have := (jI_le (k := 0) (by omega) (by decide)).mp y; omega)
      obtain ⟨h2, S2, V2, e2, R2, O2⟩ := nm23_go ot k (fl + 1) fu (if x = -3 then jI fl else -2) h1 V1 (by omega) (by omega) R1
      refine ⟨h2, S2, V2, ?_, R2, O1.trans O2⟩
      rw [if_neg nz]
      have en : nmG (fun f => cntB (caT τ f) (uF τ 12)) fl (k + 1) x = nmG (fun f => cntB (caT τ f) (uF τ 12)) (fl + 1) k (if x = -3 then jI fl else -2) := if_neg z
      rw [en]
      by_cases y : x = -3
      · rw [if_pos y] at e2
        rw [if_pos y, if_pos y]
        exact e2
      · rw [if_neg y] at e2
        rw [if_neg y, if_neg y]
        exact e2
theorem call_named : cOK (s_X11_named 0) (s_X14_named 104) := by
  refine cOK.of (fun γ _ => ⟨-1, qTw γ 1, cN1.ref fun h h1 S V Z D Ln K e1 => ?_, rN1.ref fun h h1 h2 R e1 R1 e2 => ?_⟩) fun γ τ og ot lt => ⟨fun a => a = nmG (fun f => cntB (caT τ f) (uF τ 12)) 0 (uM τ 1 + uM τ 4 + 1) (-3), qTw γ 0, τ, one_x, ?_, rT1.th fun h h1 t2 S wd t f nv V Z B W G e1 R1 => ?_⟩
  · unfold s_X11_named
    rw [K.g2, Option.bind_some, if_pos rfl, K.k0, cI_of (refuse1 e1)]
    rfl
  · unfold s_X14_named
    rw [e1, Option.bind_some, R1.tw, Option.bind_some]
    dsimp only
    rw [R1.k0, cI_of e2]
  · intro h S V Z D Ln N K
    obtain ⟨-, m1, -, -, m4⟩ := id lt.2.2.2.1
    obtain ⟨h1, e1, K1, O1⟩ := K.tw (w := 0) (by decide)
    obtain ⟨h2, S2, V2, D2, L2, n, y, e2, K2, mv, ln, O2, G2, ct⟩ := K1.readyWatcher
    obtain ⟨h3, n3, y3, e3, w⟩ := of5_go (uM τ 1 + uM τ 4 + 1) 0 FU (-3) h2 S2 V2 D2 L2 0 0 (Nat.zero_add _) (by unfold FU; omega) K2.2.2.1 mv ln K2.gd K2.wa
    obtain ⟨S3, V3, D3, L3, K3, O3, G3, ct3⟩ := K2.af w
    simp only [ca30 ot lt K2.kW, Nat.zero_add] at e3
    have e3' : s_X9_onlyFault 92 h2 = _ := e3
    refine ⟨_, h3, 0 + n + n3, 0 + y + y3, rfl, ?_, S3, V3, Z, D3, L3, K3, Oa.of (O1.trans (O2.trans2 G2 O3)), (Gr.trans O2.1 G2 G3).pre O1.1, ct.cat0.trans ct3⟩
    unfold s_X11_named
    rw [K.g2, Option.bind_some, if_neg (by decide), e1, Option.bind_some, K1.k0, dR_of e2, kO_of (ltE (by decide)) (K2.1.1.1 92 rfl), dI_of e3', ckw rfl, ck_of (Nat.le_add_right _ _) (Nat.le_add_right _ _)]
  · obtain ⟨-, m1, -, -, m4⟩ := id lt.2.2.2.1
    obtain ⟨h3, S3, V3, e3, R3, O3⟩ := nm23_go ot (uM τ 1 + uM τ 4 + 1) 0 FU (-3) h1 V (Nat.zero_add _) (by unfold FU; omega) R1
    have e3' : s_X14_named_23 FU 104 (-3) 0 h1 = _ := e3
    refine ⟨_, h3, rfl, ?_, R3.rt, Rf.ou O3⟩
    unfold s_X14_named
    rw [e1, Option.bind_some, R1.g4, Option.bind_some]
    dsimp only
    rw [e3']
