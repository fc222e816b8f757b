/-! calls: goal -/
theorem KT.setGoal {h : aH} {S V : Nat → Nat → Int32} {Z : Nat → Nat → Int64} {D Ln : Nat → Nat} {b : Nat} {N : Nat → Int64} {γ : gSt} {τ : tSt} (K : KT h S V Z D Ln b N γ τ) {l : List pOne} (hl : okOz (uM τ) l) (w : wTest h l) : ∃ h1 S' V', s_X10_setGoal 60 43 h = some (.inl (some (.int (jI (cntB (gdT (uA τ) (uM τ) (uF τ) l) (uF τ 12))))), h1) ∧ KT h1 S' V' Z D Ln b N γ (uSetL τ (gdT (uA τ) (uM τ) (uF τ) l)) ∧ Oc D h h1 := by
  obtain ⟨kg, k02, C, kD, ok, ⟨kw, km, kr, ks, km5⟩, kp, kl, ka, kc, kq⟩ := id K
  obtain ⟨h1, V1, e1, C1, O1, M, g1⟩ := C.setGoal hl w
  have kg' := kg.t C1.1 (kg.2.1.oc C.1 O1) rfl (M 1 (by decide)) rfl rfl rfl
  refine ⟨h1, _, V1, e1, ⟨kg', k02, C1, kD, ok, ⟨⟨?_, g1, kw.2.2.1, ?_, kw.2.2.2.2⟩, km.t (M 58 (by decide)) (M 59 (by decide)) rfl rfl rfl, ⟨Or.inl rfl, fun z => absurd z (by show ¬ (0 : Int32) = 1; decide)⟩, ks.t (M 71 (by decide)) (M 72 (by decide)) rfl rfl, km5.t (M 73 (by decide)) rfl⟩, kp.t (M 79 (by decide)) (M 80 (by decide)) rfl rfl rfl, kl.t (M 82 (by decide)) (M 83 (by decide)) (M 84 (by decide)) rfl rfl rfl, ka.t (M 94 (by decide)) (M 95 (by decide)) (M 96 (by decide)) (M 97 (by decide)) (M 98 (by decide)) rfl rfl, kc.t (M 101 (by decide)) rfl rfl, kq.t (M 102 (by decide)) rfl⟩, O1⟩
  · show gdC V1 (uG τ)
    unfold gdC
    rw [M 62 (by decide)]
    exact kw.1
  · show csC V1 (uF τ) (uC τ)
    unfold csC
    rw [M 64 (by decide)]
    exact kw.2.2.2.1
theorem call_goal (n : Int32) : cOK (fun h => wC 0 0 (s_X11_goal 0 n h)) (s_X14_goal 104 n) := by
  refine cOK.of (fun γ _ => ⟨-1, qTw γ 1, cN1.ref fun h h1 S V Z D Ln K e1 => ?_, rN1.ref fun h h1 h2 R e1 R1 e2 => ?_⟩) fun γ τ og ot lt => ?_
  · apply wC_of
    unfold s_X11_goal
    rw [K.k0, cI_of (K.wish0 e1 n), if_pos rfl]
  · unfold s_X14_goal
    rw [e1, Option.bind_some, R1.k0, cI_of (R1.rd e2 n 1), if_pos rfl]
  · obtain ⟨oT, o4, o3, -⟩ := og
    rcases num_or n o4 with q | ⟨k, hk, rfl⟩
    · refine ⟨fun a => a = -1, qTw γ 2, τ, one_x, cT1.ref (by decide) fun h h1 S V Z D Ln N K e1 => ?_, rT1.ref (w := 2) fun h h1 h2 t2 S wd t f nv V Z B W G e1 R1 e2 => ?_⟩
      · apply wC_of
        unfold s_X11_goal
        rw [K.k0, cI_of (K.wish2 e1 q), if_pos rfl]
      · unfold s_X14_goal
        rw [e1, Option.bind_some, R1.k0, cI_of (R1.rd e2 q 1), if_pos rfl]
    · cases wx : wshT (qT γ) k (thN (uS τ)) (uM τ) with
      | inl x =>
        refine ⟨fun a => a = -1, qBd γ (jI (tokS (qT γ) k x.2).2.1) (jI x.1), τ, one_x, fun h S V Z D Ln N K => ?_, rT1.th fun h h1 t2 S wd t f nv V Z B W G e1 R1 => ?_⟩
        · obtain ⟨h2, h3, S3, e2, e3, K3, O3, X2⟩ := (K.test hk).1 x wx
          obtain ⟨w1, w2, w3, w4, w5⟩ := K.w4
          refine ⟨-1, h3, 0, 0, rfl, ?_, S3, V, Z, D, Ln, K3, O3, Gr.refl, Ct.z⟩
          apply wC_of
          unfold s_X11_goal
          rw [K.k0, cI_of (K.wish1 o4 hk), if_neg (by decide), w1, Option.bind_some, w2, Option.bind_some, w3, Option.bind_some, w4, Option.bind_some, K.1.2.1.k51, cI_of e2, X2.k0, cI_of e3, if_pos rfl]
        · obtain ⟨h2, e2, R2, F2⟩ := (R1.test oT o4 hk).1 x wx
          refine ⟨-1, h2, rfl, ?_, R2, F2⟩
          unfold s_X14_goal
          rw [e1, Option.bind_some, R1.k0, cI_of e2, if_pos rfl]
      | inr l =>
        obtain ⟨w0, wz, wB⟩ := wshT_ok wx
        refine ⟨fun a => a = jI (cntB (gdT (uA τ) (uM τ) (uF τ) l) (uF τ 12)), qOk γ, uSetL τ (gdT (uA τ) (uM τ) (uF τ) l), one_x, fun h S V Z D Ln N K => ?_, rT1.th fun h h1 t2 S wd t f nv V Z B W G e1 R1 => ?_⟩
        · obtain ⟨h2, h3, S3, e2, e3, K3, O3, X2, wT⟩ := (K.test hk).2 l wx
          obtain ⟨h4, S4, V4, e4, K4, O4⟩ := K3.setGoal wz wT
          obtain ⟨w1, w2, w3, w4, w5⟩ := K.w4
          obtain ⟨v1, v2, v3, v4, v5⟩ := K3.w4
          refine ⟨_, h4, 0, 0, rfl, ?_, S4, V4, Z, D, Ln, K4, O3.trans (Oa.of O4), Gr.refl, Ct.z⟩
          apply wC_of
          unfold s_X11_goal
          rw [K.k0, cI_of (K.wish1 o4 hk), if_neg (by decide), w1, Option.bind_some, w2, Option.bind_some, w3, Option.bind_some, w4, Option.bind_some, K.1.2.1.k51, cI_of e2, X2.k0, cI_of e3, if_neg (by decide), v5, Option.bind_some, v4, Option.bind_some, kO_of (ltE (by decide)) (K3.1.1.1 60 rfl), cI_of e4]
        · obtain ⟨h2, S2, wd2, e2, R2, f0, F2, rT⟩ := (R1.test oT o4 hk).2 l wx
          obtain ⟨h3, V3, e3, C3, O3, M3, g3⟩ := R2.2.2.1.marks w0 wz wB (a := 147) (Or.inr rfl) rT
          have R3 := R2.setL f0 C3 O3 M3 g3
          have g27 : gO h2 (.ref 104) 14 28 = some 147 := gO_of (ltE (by decide)) R2.1.1.1 rfl
          refine ⟨_, h3, rfl, ?_, R3.rt, F2.trans (Rf.ou O3)⟩
          unfold s_X14_goal
          rw [e1, Option.bind_some, R1.k0, cI_of e2, if_neg (by decide), g27, Option.bind_some, R2.k0, cI_of e3]
