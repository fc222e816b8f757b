/-! calls: layer, allowed, ticks, law, best, bestLaw, margin -/
theorem lay_bad {ld : Nat → Nat → Nat → Int32} {P n : Nat} {good : Nat → Bool} {c : Nat} (h : good c = false) : ∀ r, layS ld P n good r c = -2
  | 0 => by
    unfold layS
    rw [h]
    rfl
  | r + 1 => by
    have q : kpS ld P n good r c = false := by
      cases q : kpS ld P n good r c with
      | false => rfl
      | true =>
        have := kpS_good r c q
        rw [h] at this
        cases this
    unfold layS
    rw [q]
    exact lay_bad h r
theorem bits_eq {a b : Int32} (h : ∀ q, q < 32 → (bitI a q = true ↔ bitI b q = true)) : a = b := by
  apply Int32.toBitVec_inj.mp
  apply BitVec.eq_of_getLsbD_eq
  intro i hi
  have := h i hi
  unfold bitI at this
  exact Bool_ext this
theorem isCell_ne {x : Int32} {n c : Nat} (h : x < 0 ∨ jI n ≤ x) (hn : n < 2147483648) (hc : c < n) (e : x = jI c) : False := by
  subst e
  rcases h with z | z
  · exact jI_neg (by omega) z
  · have := (jI_le hn (by omega)).mp z
    omega
theorem call_layer (x : Int32) : cOK (s_X11_layer 0 x) (s_X14_layer 104 x) := by
  refine cOK.of (fun γ _ => ⟨-1, γ, cN1.same fun h S V Z D Ln K => ?_, rN1.same fun h h1 R e1 R1 => ?_⟩) fun γ τ og ot lt => ?_
  · unfold s_X11_layer
    rw [K.k0, cI_of (hasCell_N K x), if_pos rfl]
    rfl
  · unfold s_X14_layer
    rw [e1, Option.bind_some, R1.k0, cI_of (isCell_N R1 x), if_pos rfl]
  · rcases in_or x (show uF τ 12 < 2147483648 by omega) with ⟨c, hc, rfl⟩ | q
    · refine ⟨fun a => a = laysS (ldV (uA τ) (uM τ) (uF τ)) (uF τ 13) (uF τ 14) (uF τ 12) (uG τ) c, γ, τ, one_x, ?_, rT1.th fun h h1 t2 S wd t f nv V Z B W G e1 R1 => ?_⟩
      · intro h S V Z D Ln N K
        have g12 : gO h (.ref 0) 11 12 = some 60 := gO_of (ltE (by decide)) (K.1.1.1 0 rfl) rfl
        have ig := isGood_at K.1.1 K.2.2.2.2.2.1.1.1 (show c < 400 by omega)
        cases gd : uG τ c with
        | false =>
          rw [gd] at ig
          refine ⟨-2, h, 0, 0, (lay_bad gd _).symm, ?_, S, V, Z, D, Ln, K, Oa.of Oc.refl, Gr.refl, Ct.z⟩
          unfold s_X11_layer
          rw [K.k0, cI_of (hasCell_in K hc), if_neg (by decide), g12, Option.bind_some, kO_of (ltE (by decide)) (K.1.1.1 60 rfl), cI_of ig, if_pos (by decide)]
          rfl
        | true =>
          rw [gd] at ig
          obtain ⟨h2, S2, V2, D2, L2, n, y, e2, K2, mv, ln, sf, O2, G2, ct⟩ := K.readySafety
          have g7 : gO h2 (.ref 69) 7 7 = some 71 := gO_of (ltE (by decide)) (K2.1.1.1 69 rfl) rfl
          have l7 : ldI .int h2 (.ref 71) (jI c) = some (V2 71 c) := K2.1.1.ld rfl (show c < 400 by omega)
          rw [sf.2.1 c hc, if_pos gd] at l7
          refine ⟨_, h2, 0 + n, 0 + y, rfl, ?_, S2, V2, Z, D2, L2, K2, Oa.of O2, G2, ct.cat0⟩
          unfold s_X11_layer
          rw [K.k0, cI_of (hasCell_in K hc), if_neg (by decide), g12, Option.bind_some, kO_of (ltE (by decide)) (K.1.1.1 60 rfl), cI_of ig, if_neg (by decide), K.k0, dR_of e2, g7, Option.bind_some, l7, Option.bind_some, ckw rfl, ck_of (Nat.zero_le _) (Nat.zero_le _), ck_of (Nat.zero_le _) (Nat.zero_le _)]
      · obtain ⟨h2, S2, V2, e2, R2, fd, O2⟩ := R1.finds ot
        have g37 : gO h2 (.ref 104) 14 37 = some 155 := gO_of (ltE (by decide)) R2.1.1.1 rfl
        have l : ldI .int h2 (.ref 155) (jI c) = some (V2 155 c) := R2.1.1.ld (a := 155) rfl (show c < 400 by omega)
        rw [fd.2.2.1 c hc] at l
        refine ⟨_, h2, rfl, ?_, R2.rt, Rf.ou O2⟩
        unfold s_X14_layer
        rw [e1, Option.bind_some, R1.k0, cI_of (isCell_in R1 hc), if_neg (by decide), R1.k0, cN_of e2, g37, Option.bind_some, l, Option.bind_some]
    · refine ⟨fun a => a = -1, γ, τ, one_x, cT1.same fun h S V Z D Ln N K => ?_, rT1.same fun h h1 t2 S wd t f nv V Z B W G e1 R1 => ?_⟩
      · unfold s_X11_layer
        rw [K.k0, cI_of (hasCell_out K q), if_pos rfl]
        rfl
      · unfold s_X14_layer
        rw [e1, Option.bind_some, R1.k0, cI_of (isCell_out R1 q), if_pos rfl]
theorem call_allowed (x : Int32) : cOK (s_X11_allowed 0 x) (s_X14_allowed 104 x) := by
  refine cOK.of (fun γ _ => ⟨-1, γ, cN1.same fun h S V Z D Ln K => ?_, rN1.same fun h h1 R e1 R1 => ?_⟩) fun γ τ og ot lt => ?_
  · unfold s_X11_allowed
    rw [K.k0, cI_of (hasCell_N K x), if_pos rfl]
    rfl
  · unfold s_X14_allowed
    rw [e1, Option.bind_some, R1.k0, cI_of (isCell_N R1 x), if_pos rfl]
  · rcases in_or x (show uF τ 12 < 2147483648 by omega) with ⟨c, hc, rfl⟩ | q
    · refine ⟨okAl (uA τ) (uM τ) (uF τ) (uG τ) c, γ, τ, fun a b pa pb => bits_eq fun q hq => (pa q hq).trans (pb q hq).symm, ?_, rT1.th fun h h1 t2 S wd t f nv V Z B W G e1 R1 => ?_⟩
      · intro h S V Z D Ln N K
        obtain ⟨h2, S2, V2, D2, L2, n, y, e2, K2, mv, ln, sf, O2, G2, ct⟩ := K.readySafety
        have g7 : gO h2 (.ref 69) 7 8 = some 72 := gO_of (ltE (by decide)) (K2.1.1.1 69 rfl) rfl
        have l7 : ldI .int h2 (.ref 72) (jI c) = some (V2 72 c) := K2.1.1.ld rfl (show c < 400 by omega)
        refine ⟨V2 72 c, h2, 0 + n, 0 + y, ?_, ?_, S2, V2, Z, D2, L2, K2, Oa.of O2, G2, ct.cat0⟩
        · unfold okAl
          rw [sf0 K.2.2.1.2.2.2.1]
          exact sf.1 c hc
        · unfold s_X11_allowed
          rw [K.k0, cI_of (hasCell_in K hc), if_neg (by decide), K.k0, dR_of e2, g7, Option.bind_some, l7, Option.bind_some, ckw rfl, ck_of (Nat.zero_le _) (Nat.zero_le _)]
      · obtain ⟨h2, S2, V2, e2, R2, fd, O2⟩ := R1.finds ot
        obtain ⟨h3, V3, y, e3, C3, O3, M3, al⟩ := R2.2.2.1.allowedOf fd.1 (fun d hd => fd.2.1 0 (by decide) d hd) hc
        have R3 := R2.scr C3 O3 (M3.mono (by decide)) SmZ.refl smS.refl
        refine ⟨y, h3, al, ?_, R3.rt, (Rf.ou O2).trans (Rf.ou O3)⟩
        unfold s_X14_allowed
        rw [e1, Option.bind_some, R1.k0, cI_of (isCell_in R1 hc), if_neg (by decide), R1.k0, cN_of e2, R2.k0, cI_of e3]
    · refine ⟨fun a => a = -1, γ, τ, one_x, cT1.same fun h S V Z D Ln N K => ?_, rT1.same fun h h1 t2 S wd t f nv V Z B W G e1 R1 => ?_⟩
      · unfold s_X11_allowed
        rw [K.k0, cI_of (hasCell_out K q), if_pos rfl]
        rfl
      · unfold s_X14_allowed
        rw [e1, Option.bind_some, R1.k0, cI_of (isCell_out R1 q), if_pos rfl]
theorem call_ticks (x : Int32) : cOK (s_X11_ticks 0 x) (s_X14_ticks 104 x) := by
  refine cOK.of (fun γ _ => ⟨-1, γ, cN1.same fun h S V Z D Ln K => ?_, rN1.same fun h h1 R e1 R1 => ?_⟩) fun γ τ og ot lt => ?_
  · unfold s_X11_ticks
    rw [K.k0, cI_of (hasCell_N K x), if_pos rfl]
    rfl
  · unfold s_X14_ticks
    rw [e1, Option.bind_some, R1.k0, cI_of (isCell_N R1 x), if_pos rfl]
  · rcases in_or x (show uF τ 12 < 2147483648 by omega) with ⟨c, hc, rfl⟩ | q
    · refine ⟨fun a => a = ticksS (ldV (uA τ) (uM τ) (uF τ)) (uF τ 13) (uF τ 14) (uF τ 12) (uG τ) (uL τ) c, γ, τ, one_x, ?_, rT1.th fun h h1 t2 S wd t f nv V Z B W G e1 R1 => ?_⟩
      · intro h S V Z D Ln N K
        obtain ⟨h2, S2, V2, D2, L2, n, y, e2, K2, rc, O2, G2, ct⟩ := K.readyReaches
        have g7 : gO h2 (.ref 60) 10 8 = some 65 := gO_of (ltE (by decide)) (K2.1.1.1 60 rfl) rfl
        have l7 : ldI .int h2 (.ref 65) (jI c) = some (V2 65 c) := K2.1.1.ld rfl (show c < 400 by omega)
        rw [rc.1 c hc] at l7
        refine ⟨_, h2, 0 + n, 0 + y, rfl, ?_, S2, V2, Z, D2, L2, K2, Oa.of O2, G2, ct.cat0⟩
        unfold s_X11_ticks
        rw [K.k0, cI_of (hasCell_in K hc), if_neg (by decide), K.k0, dR_of e2, g7, Option.bind_some, l7, Option.bind_some, ckw rfl, ck_of (Nat.zero_le _) (Nat.zero_le _)]
      · obtain ⟨h2, S2, V2, e2, R2, fd, O2⟩ := R1.finds ot
        have g37 : gO h2 (.ref 104) 14 39 = some 157 := gO_of (ltE (by decide)) R2.1.1.1 rfl
        have l : ldI .int h2 (.ref 157) (jI c) = some (V2 157 c) := R2.1.1.ld (a := 157) rfl (show c < 400 by omega)
        rw [fd.2.2.2.1 c hc] at l
        refine ⟨_, h2, rfl, ?_, R2.rt, Rf.ou O2⟩
        unfold s_X14_ticks
        rw [e1, Option.bind_some, R1.k0, cI_of (isCell_in R1 hc), if_neg (by decide), R1.k0, cN_of e2, g37, Option.bind_some, l, Option.bind_some]
    · refine ⟨fun a => a = -1, γ, τ, one_x, cT1.same fun h S V Z D Ln N K => ?_, rT1.same fun h h1 t2 S wd t f nv V Z B W G e1 R1 => ?_⟩
      · unfold s_X11_ticks
        rw [K.k0, cI_of (hasCell_out K q), if_pos rfl]
        rfl
      · unfold s_X14_ticks
        rw [e1, Option.bind_some, R1.k0, cI_of (isCell_out R1 q), if_pos rfl]
theorem call_law (x : Int32) : cOK (s_X11_law 0 x) (s_X14_law 104 x) := by
  refine cOK.of (fun γ _ => ⟨-1, γ, cN1.same fun h S V Z D Ln K => ?_, rN1.same fun h h1 R e1 R1 => ?_⟩) fun γ τ og ot lt => ?_
  · unfold s_X11_law
    rw [K.k0, cI_of (hasCell_N K x), if_pos rfl]
    rfl
  · unfold s_X14_law
    rw [e1, Option.bind_some, R1.k0, cI_of (isCell_N R1 x), if_pos rfl]
  · rcases in_or x (show uF τ 12 < 2147483648 by omega) with ⟨c, hc, rfl⟩ | q
    · refine ⟨fun a => a = lawsS (ldV (uA τ) (uM τ) (uF τ)) (uF τ 13) (uF τ 14) (uF τ 12) (uG τ) (uL τ) c, γ, τ, one_x, ?_, rT1.th fun h h1 t2 S wd t f nv V Z B W G e1 R1 => ?_⟩
      · intro h S V Z D Ln N K
        obtain ⟨h2, S2, V2, D2, L2, n, y, e2, K2, rc, O2, G2, ct⟩ := K.readyReaches
        have g7 : gO h2 (.ref 60) 10 9 = some 66 := gO_of (ltE (by decide)) (K2.1.1.1 60 rfl) rfl
        have l7 : ldI .int h2 (.ref 66) (jI c) = some (V2 66 c) := K2.1.1.ld rfl (show c < 400 by omega)
        rw [rc.2 c hc] at l7
        refine ⟨_, h2, 0 + n, 0 + y, rfl, ?_, S2, V2, Z, D2, L2, K2, Oa.of O2, G2, ct.cat0⟩
        unfold s_X11_law
        rw [K.k0, cI_of (hasCell_in K hc), if_neg (by decide), K.k0, dR_of e2, g7, Option.bind_some, l7, Option.bind_some, ckw rfl, ck_of (Nat.zero_le _) (Nat.zero_le _)]
      · obtain ⟨h2, S2, V2, e2, R2, fd, O2⟩ := R1.finds ot
        have g37 : gO h2 (.ref 104) 14 40 = some 158 := gO_of (ltE (by decide)) R2.1.1.1 rfl
        have l : ldI .int h2 (.ref 158) (jI c) = some (V2 158 c) := R2.1.1.ld (a := 158) rfl (show c < 400 by omega)
        rw [fd.2.2.2.2.1 c hc] at l
        refine ⟨_, h2, rfl, ?_, R2.rt, Rf.ou O2⟩
        unfold s_X14_law
        rw [e1, Option.bind_some, R1.k0, cI_of (isCell_in R1 hc), if_neg (by decide), R1.k0, cN_of e2, g37, Option.bind_some, l, Option.bind_some]
    · refine ⟨fun a => a = -1, γ, τ, one_x, cT1.same fun h S V Z D Ln N K => ?_, rT1.same fun h h1 t2 S wd t f nv V Z B W G e1 R1 => ?_⟩
      · unfold s_X11_law
        rw [K.k0, cI_of (hasCell_out K q), if_pos rfl]
        rfl
      · unfold s_X14_law
        rw [e1, Option.bind_some, R1.k0, cI_of (isCell_out R1 q), if_pos rfl]
theorem call_best (x hz : Int32) : cOK (s_X11_best 0 x hz) (s_X14_best 104 x hz) := by
  refine cOK.of (fun γ _ => ⟨-1, qTw γ 1, cN1.ref fun h h1 S V Z D Ln K e1 => ?_, rN1.ref fun h h1 h2 R e1 R1 e2 => ?_⟩) fun γ τ og ot lt => ?_
  · unfold s_X11_best
    rw [K.k0, cI_of (hasCell_N K x), if_pos rfl, K.k0, cI_of (refuse1 e1)]
    rfl
  · unfold s_X14_best
    rw [e1, Option.bind_some, R1.k0, cI_of (isCell_N R1 x), if_pos rfl, R1.k0, cI_of e2]
  · rcases in_or x (show uF τ 12 < 2147483648 by omega) with ⟨c, hc, rfl⟩ | q
    · by_cases hz1 : (0 : Int32) ≤ hz ∧ hz ≤ 20
      · obtain ⟨q1, q2⟩ := hz1
        obtain ⟨k, hk, rfl⟩ : ∃ k, k < 21 ∧ hz = jI k := by
          rcases in_or hz (show 21 < 2147483648 by decide) with ⟨k, hk, rfl⟩ | z
          · exact ⟨k, hk, rfl⟩
          · exfalso
            have a1 := Int32.le_iff_toInt_le.mp q1
            have a2 := Int32.le_iff_toInt_le.mp q2
            rcases z with z | z
            · have := Int32.lt_iff_toInt_lt.mp z
              have e0 : (0 : Int32).toInt = 0 := by decide
              have e1 : (0 : Int32).toInt = 0 := by decide
              omega
            · have := Int32.le_iff_toInt_le.mp z
              have e0 : (jI 21).toInt = 21 := by decide
              have e1 : (20 : Int32).toInt = 20 := by decide
              omega
        have n0 : ¬ jI k < 0 := i32_nlt.mpr q1
        refine ⟨fun a => a = (bst (ldV (uA τ) (uM τ) (uF τ)) (uF τ 13) (uF τ 14) (uG τ) (uC τ) k c).1, qTw γ 0, τ, one_x, ?_, rT1.th fun h h1 t2 S wd t f nv V Z B W G e1 R1 => ?_⟩
        · intro h S V Z D Ln N K
          obtain ⟨h1, e1, K1, O1⟩ := K.tw (w := 0) (by decide)
          obtain ⟨h2, S2, V2, D2, L2, n, y, hz', e2, K2, py, lt2, mv, ln, O2, G2, ct⟩ := K1.readyPayments (to := k) (by omega)
          have pd := paid_at K2.2.2.1 py lt2 hc
          refine ⟨_, h2, 0 + n, 0 + y, rfl, ?_, S2, V2, Z, D2, L2, K2, Oa.of (O1.trans O2), G2.pre O1.1, ct.cat0⟩
          unfold s_X11_best
          rw [K.k0, cI_of (hasCell_in K hc), if_neg (by decide), if_neg n0, if_pos q2, e1, Option.bind_some, K1.k0, dR_of e2, kO_of (ltE (by decide)) (K2.1.1.1 78 rfl), cI_of pd.1, ckw rfl, ck_of (Nat.zero_le _) (Nat.zero_le _)]
        · obtain ⟨h2, S2, V2, e2, R2, fd, O2⟩ := R1.finds ot
          have g41 : gO h2 (.ref 104) 14 41 = some 159 := gO_of (ltE (by decide)) R2.1.1.1 rfl
          have l : ldI .int h2 (.ref 159) (jI (400 * k + c)) = some (V2 159 (400 * k + c)) := R2.1.1.ld (a := 159) rfl (show 400 * k + c < 8400 by omega)
          rw [(fd.2.2.2.2.2 k c hc (by omega)).1] at l
          have ix : (400 * jI k) + jI c = jI (400 * k + c) := by rw [show (400 : Int32) = jI 400 from rfl, jI_mul, jI_add]
          obtain ⟨h3, S3, e3, R3, O3⟩ := R2.done (bst (ldV (uA τ) (uM τ) (uF τ)) (uF τ 13) (uF τ 14) (uG τ) (uC τ) k c).1
          refine ⟨_, h3, rfl, ?_, R3.rt, (Rf.ou O2).trans (Rf.ou O3)⟩
          unfold s_X14_best
          rw [e1, Option.bind_some, R1.k0, cI_of (isCell_in R1 hc), if_neg (by decide), cI_of (inR_span q1 q2 h1), if_neg (by decide), R1.k0, cN_of e2, g41, Option.bind_some, ix, l, Option.bind_some, R2.k0, cI_of e3]
      · have hz2 : hz < 0 ∨ 20 < hz := by
          by_cases z : hz < 0
          · exact Or.inl z
          · exact Or.inr (i32_nle.mp fun z2 => hz1 ⟨i32_nlt.mp z, z2⟩)
        refine ⟨fun a => a = -1, qTw γ 2, τ, one_x, cT1.ref (by decide) fun h h1 S V Z D Ln N K e1 => ?_, rT1.ref (w := 2) fun h h1 h2 t2 S wd t f nv V Z B W G e1 R1 e2 => ?_⟩
        · have tt : s_X11_best_24 0 h 0 0 = some (.inl (some (.int (-1))), h1, 0, 0) := by
            unfold s_X11_best_24
            rw [K.k0, cI_of (refuse1 e1)]
            rfl
          unfold s_X11_best
          rw [K.k0, cI_of (hasCell_in K hc), if_neg (by decide)]
          by_cases z : hz < 0
          · rw [if_pos z, tt]
            exact ck_of (Nat.zero_le _) (Nat.zero_le _)
          · rw [if_neg z, if_neg (i32_nle.mpr (hz2.resolve_left z)), tt]
            exact ck_of (Nat.zero_le _) (Nat.zero_le _)
        · unfold s_X14_best
          rw [e1, Option.bind_some, R1.k0, cI_of (isCell_in R1 hc), if_neg (by decide), cI_of (inR_spanN hz2 h1), if_pos rfl, R1.k0, cI_of e2]
    · refine ⟨fun a => a = -1, qTw γ 1, τ, one_x, cT1.ref (by decide) fun h h1 S V Z D Ln N K e1 => ?_, rT1.ref (w := 1) fun h h1 h2 t2 S wd t f nv V Z B W G e1 R1 e2 => ?_⟩
      · unfold s_X11_best
        rw [K.k0, cI_of (hasCell_out K q), if_pos rfl, K.k0, cI_of (refuse1 e1)]
        rfl
      · unfold s_X14_best
        rw [e1, Option.bind_some, R1.k0, cI_of (isCell_out R1 q), if_pos rfl, R1.k0, cI_of e2]
theorem call_bestLaw (x hz : Int32) : cOK (s_X11_bestLaw 0 x hz) (s_X14_bestLaw 104 x hz) := by
  refine cOK.of (fun γ _ => ⟨-1, qTw γ 1, cN1.ref fun h h1 S V Z D Ln K e1 => ?_, rN1.ref fun h h1 h2 R e1 R1 e2 => ?_⟩) fun γ τ og ot lt => ?_
  · unfold s_X11_bestLaw
    rw [K.k0, cI_of (hasCell_N K x), if_pos rfl, K.k0, cI_of (refuse1 e1)]
    rfl
  · unfold s_X14_bestLaw
    rw [e1, Option.bind_some, R1.k0, cI_of (isCell_N R1 x), if_pos rfl, R1.k0, cI_of e2]
  · rcases in_or x (show uF τ 12 < 2147483648 by omega) with ⟨c, hc, rfl⟩ | q
    · by_cases hz1 : (1 : Int32) ≤ hz ∧ hz ≤ 20
      · obtain ⟨q1, q2⟩ := hz1
        obtain ⟨k, hk, rfl⟩ : ∃ k, k < 21 ∧ hz = jI k := by
          rcases in_or hz (show 21 < 2147483648 by decide) with ⟨k, hk, rfl⟩ | z
          · exact ⟨k, hk, rfl⟩
          · exfalso
            have a1 := Int32.le_iff_toInt_le.mp q1
            have a2 := Int32.le_iff_toInt_le.mp q2
            rcases z with z | z
            · have := Int32.lt_iff_toInt_lt.mp z
              have e0 : (1 : Int32).toInt = 1 := by decide
              have e1 : (0 : Int32).toInt = 0 := by decide
              omega
            · have := Int32.le_iff_toInt_le.mp z
              have e0 : (jI 21).toInt = 21 := by decide
              have e1 : (20 : Int32).toInt = 20 := by decide
              omega
        have n0 : ¬ jI k < 1 := i32_nlt.mpr q1
        refine ⟨fun a => a = (bst (ldV (uA τ) (uM τ) (uF τ)) (uF τ 13) (uF τ 14) (uG τ) (uC τ) k c).2, qTw γ 0, τ, one_x, ?_, rT1.th fun h h1 t2 S wd t f nv V Z B W G e1 R1 => ?_⟩
        · intro h S V Z D Ln N K
          obtain ⟨h1, e1, K1, O1⟩ := K.tw (w := 0) (by decide)
          obtain ⟨h2, S2, V2, D2, L2, n, y, hz', e2, K2, py, lt2, mv, ln, O2, G2, ct⟩ := K1.readyPayments (to := k) (by omega)
          have pd := paid_at K2.2.2.1 py lt2 hc
          refine ⟨_, h2, 0 + n, 0 + y, rfl, ?_, S2, V2, Z, D2, L2, K2, Oa.of (O1.trans O2), G2.pre O1.1, ct.cat0⟩
          unfold s_X11_bestLaw
          rw [K.k0, cI_of (hasCell_in K hc), if_neg (by decide), if_neg n0, if_pos q2, e1, Option.bind_some, K1.k0, dR_of e2, kO_of (ltE (by decide)) (K2.1.1.1 78 rfl), cI_of pd.2, ckw rfl, ck_of (Nat.zero_le _) (Nat.zero_le _)]
        · obtain ⟨h2, S2, V2, e2, R2, fd, O2⟩ := R1.finds ot
          have g41 : gO h2 (.ref 104) 14 42 = some 160 := gO_of (ltE (by decide)) R2.1.1.1 rfl
          have l : ldI .int h2 (.ref 160) (jI (400 * k + c)) = some (V2 160 (400 * k + c)) := R2.1.1.ld (a := 160) rfl (show 400 * k + c < 8400 by omega)
          rw [(fd.2.2.2.2.2 k c hc (by omega)).2] at l
          have ix : (400 * jI k) + jI c = jI (400 * k + c) := by rw [show (400 : Int32) = jI 400 from rfl, jI_mul, jI_add]
          obtain ⟨h3, S3, e3, R3, O3⟩ := R2.done (bst (ldV (uA τ) (uM τ) (uF τ)) (uF τ 13) (uF τ 14) (uG τ) (uC τ) k c).2
          refine ⟨_, h3, rfl, ?_, R3.rt, (Rf.ou O2).trans (Rf.ou O3)⟩
          unfold s_X14_bestLaw
          rw [e1, Option.bind_some, R1.k0, cI_of (isCell_in R1 hc), if_neg (by decide), cI_of (inR_span q1 q2 h1), if_neg (by decide), R1.k0, cN_of e2, g41, Option.bind_some, ix, l, Option.bind_some, R2.k0, cI_of e3]
      · have hz2 : hz < 1 ∨ 20 < hz := by
          by_cases z : hz < 1
          · exact Or.inl z
          · exact Or.inr (i32_nle.mp fun z2 => hz1 ⟨i32_nlt.mp z, z2⟩)
        refine ⟨fun a => a = -1, qTw γ 2, τ, one_x, cT1.ref (by decide) fun h h1 S V Z D Ln N K e1 => ?_, rT1.ref (w := 2) fun h h1 h2 t2 S wd t f nv V Z B W G e1 R1 e2 => ?_⟩
        · have tt : s_X11_bestLaw_25 0 h 0 0 = some (.inl (some (.int (-1))), h1, 0, 0) := by
            unfold s_X11_bestLaw_25
            rw [K.k0, cI_of (refuse1 e1)]
            rfl
          unfold s_X11_bestLaw
          rw [K.k0, cI_of (hasCell_in K hc), if_neg (by decide)]
          by_cases z : hz < 1
          · rw [if_pos z, tt]
            exact ck_of (Nat.zero_le _) (Nat.zero_le _)
          · rw [if_neg z, if_neg (i32_nle.mpr (hz2.resolve_left z)), tt]
            exact ck_of (Nat.zero_le _) (Nat.zero_le _)
        · unfold s_X14_bestLaw
          rw [e1, Option.bind_some, R1.k0, cI_of (isCell_in R1 hc), if_neg (by decide), cI_of (inR_spanN hz2 h1), if_pos rfl, R1.k0, cI_of e2]
    · refine ⟨fun a => a = -1, qTw γ 1, τ, one_x, cT1.ref (by decide) fun h h1 S V Z D Ln N K e1 => ?_, rT1.ref (w := 1) fun h h1 h2 t2 S wd t f nv V Z B W G e1 R1 e2 => ?_⟩
      · unfold s_X11_bestLaw
        rw [K.k0, cI_of (hasCell_out K q), if_pos rfl, K.k0, cI_of (refuse1 e1)]
        rfl
      · unfold s_X14_bestLaw
        rw [e1, Option.bind_some, R1.k0, cI_of (isCell_out R1 q), if_pos rfl, R1.k0, cI_of e2]
