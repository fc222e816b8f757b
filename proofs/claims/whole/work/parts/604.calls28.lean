/-! calls: cost -/
theorem csV_N (A : Nat → Nat → Int32) (m : Nat → Nat) (l : List pFa) : csN (csV A m l) := by
  intro c p
  unfold csV
  generalize sumV (sprGo A 0 3 (m 1) (jI p) (sprGo A 0 0 (m 0) (jI c) zV)) l = x
  have e0 : (0 : Int32).toInt = 0 := by decide
  have e1 : (1000 : Int32).toInt = 1000 := by decide
  unfold jmin
  by_cases q : x < 1000
  · rw [if_pos q]
    have a := Int32.lt_iff_toInt_lt.mp q
    unfold jmax
    by_cases q2 : 0 < x
    · rw [if_pos q2]
      have b := Int32.lt_iff_toInt_lt.mp q2
      omega
    · rw [if_neg q2]
      omega
  · rw [if_neg q]
    exact by decide
theorem KT.setCosts {h : aH} {S V : Nat → Nat → Int32} {Z : Nat → Nat → Int64} {D Ln : Nat → Nat} {b : Nat} {N : Nat → Int64} {γ : gSt} {τ : tSt} (K : KT h S V Z D Ln b N γ τ) {l : List pFa} (hl : okL2 (uM τ) l) (w : wSum h l) : ∃ h1 h2 S' V', s_X10_setCosts 60 43 h = some (.inl none, h1) ∧ s_X4_forget 78 h1 = some (.inl none, h2) ∧ KT h2 S' V' Z D Ln b N γ (uSetC τ (csV (uA τ) (uM τ) l)) ∧ Oc D h h2 ∧ gO h1 (.ref 0) 11 14 = some 78 ∧ kO h1 78 4 (some ()) = some () := by
  obtain ⟨kg, k02, C, kD, ok, ⟨kw, km, kr, ks, km5⟩, kp, kl, ka, kc, kq⟩ := id K
  obtain ⟨h1, V1, e1, C1, O1, M, g1⟩ := C.setCosts hl kw.2.2.2.2 w
  obtain ⟨h2, e2, X2, O2⟩ := forget4_at C1.1
  have C2 := C1.to X2 O2 rfl
  have kg' := kg.t X2 (kg.2.1.oc C.1 (O1.trans O2)) rfl (M 1 (by decide)) rfl rfl rfl
  refine ⟨h1, h2, _, V1, e1, e2, ⟨kg', k02, C2, kD, ⟨ok.1, csV_N _ _ _, ok.2.2⟩, ⟨⟨?_, ?_, kw.2.2.1, g1, kw.2.2.2.2⟩, km.t (M 58 (by decide)) (M 59 (by decide)) rfl rfl rfl, kr.t (M 65 (by decide)) (M 66 (by decide)) rfl, ks.t (M 71 (by decide)) (M 72 (by decide)) rfl rfl, km5.t (M 73 (by decide)) rfl⟩, ⟨0, Nat.zero_le _, (show (-1 : Int32) + 1 = jI 0 by decide), fun z => absurd z (Nat.lt_irrefl _), fun k d _ z => absurd z (by omega)⟩, kl.t (M 82 (by decide)) (M 83 (by decide)) (M 84 (by decide)) rfl rfl rfl, ka.t (M 94 (by decide)) (M 95 (by decide)) (M 96 (by decide)) (M 97 (by decide)) (M 98 (by decide)) rfl rfl, kc.t (M 101 (by decide)) rfl rfl, kq.t (M 102 (by decide)) rfl⟩, O1.trans O2, gO_of (ltE (by decide)) (C1.1.1 0 rfl) rfl, kO_of (ltE (by decide)) (C1.1.1 78 rfl)⟩
  · show gdC V1 (uG τ)
    unfold gdC
    rw [M 62 (by decide)]
    exact kw.1
  · show glC V1 (uL τ)
    unfold glC
    rw [M 63 (by decide)]
    exact kw.2.1
theorem call_cost (n : Int32) : cOK (fun h => wC 0 0 (s_X11_cost 0 n h)) (s_X14_cost 104 n) := by
  refine cOK.of (fun γ _ => ⟨-1, qTw γ 1, cN1.ref fun h h1 S V Z D Ln K e1 => ?_, rN1.ref fun h h1 h2 R e1 R1 e2 => ?_⟩) fun γ τ og ot lt => ?_
  · apply wC_of
    unfold s_X11_cost
    rw [K.k0, cI_of (K.wish0 e1 n), if_pos rfl]
  · unfold s_X14_cost
    rw [e1, Option.bind_some, R1.k0, cI_of (R1.rd e2 n 0), if_pos rfl]
  · obtain ⟨oT, o4, o3, -⟩ := og
    rcases num_or n o4 with q | ⟨k, hk, rfl⟩
    · refine ⟨fun a => a = -1, qTw γ 2, τ, one_x, cT1.ref (by decide) fun h h1 S V Z D Ln N K e1 => ?_, rT1.ref (w := 2) fun h h1 h2 t2 S wd t f nv V Z B W G e1 R1 e2 => ?_⟩
      · apply wC_of
        unfold s_X11_cost
        rw [K.k0, cI_of (K.wish2 e1 q), if_pos rfl]
      · unfold s_X14_cost
        rw [e1, Option.bind_some, R1.k0, cI_of (R1.rd e2 q 0), if_pos rfl]
    · cases wx : wshS (qT γ) k (thN (uS τ)) (uM τ) with
      | inl x =>
        refine ⟨fun a => a = -1, qBd γ (jI (tokS (qT γ) k x.2).2.1) (jI x.1), τ, one_x, fun h S V Z D Ln N K => ?_, rT1.th fun h h1 t2 S wd t f nv V Z B W G e1 R1 => ?_⟩
        · obtain ⟨h2, h3, S3, e2, e3, K3, O3, X2⟩ := (K.sum hk).1 x wx
          obtain ⟨w1, w2, w3, w4, w5⟩ := K.w4
          refine ⟨-1, h3, 0, 0, rfl, ?_, S3, V, Z, D, Ln, K3, O3, Gr.refl, Ct.z⟩
          apply wC_of
          unfold s_X11_cost
          rw [K.k0, cI_of (K.wish1 o4 hk), if_neg (by decide), w1, Option.bind_some, w2, Option.bind_some, w3, Option.bind_some, w4, Option.bind_some, K.1.2.1.k51, cI_of e2, X2.k0, cI_of e3, if_pos rfl]
        · obtain ⟨h2, e2, R2, F2⟩ := (R1.sum oT o4 hk).1 x wx
          refine ⟨-1, h2, rfl, ?_, R2, F2⟩
          unfold s_X14_cost
          rw [e1, Option.bind_some, R1.k0, cI_of e2, if_pos rfl]
      | inr l =>
        obtain ⟨wB, wL⟩ := wshS_ok wx
        refine ⟨fun a => a = 0, qOk γ, uSetC τ (csV (uA τ) (uM τ) l), one_x, fun h S V Z D Ln N K => ?_, rT1.th fun h h1 t2 S wd t f nv V Z B W G e1 R1 => ?_⟩
        · obtain ⟨h2, h3, S3, e2, e3, K3, O3, X2, wT⟩ := (K.sum hk).2 l wx
          obtain ⟨h4, h5, S5, V5, e4, e5, K5, O5, g14, k1⟩ := K3.setCosts wL wT
          obtain ⟨w1, w2, w3, w4, w5⟩ := K.w4
          obtain ⟨v1, v2, v3, v4, v5⟩ := K3.w4
          refine ⟨_, h5, 0, 0, rfl, ?_, S5, V5, Z, D, Ln, K5, O3.trans (Oa.of O5), Gr.refl, Ct.z⟩
          apply wC_of
          unfold s_X11_cost
          rw [K.k0, cI_of (K.wish1 o4 hk), if_neg (by decide), w1, Option.bind_some, w2, Option.bind_some, w3, Option.bind_some, w4, Option.bind_some, K.1.2.1.k51, cI_of e2, X2.k0, cI_of e3, if_neg (by decide), v5, Option.bind_some, v4, Option.bind_some, kO_of (ltE (by decide)) (K3.1.1.1 60 rfl), cN_of e4, g14, Option.bind_some, kO_un2 k1, cN_of e5]
        · obtain ⟨h2, S2, wd2, e2, R2, f0, F2, B2, W2, G2, T2, g400, sg⟩ := (R1.sum oT o4 hk).2 l wx
          obtain ⟨Bc, Wc, Gc, Tc⟩ := R2.1.2.2.2.2.2.2.2.2.2.2
          obtain ⟨h3, Bc3, e3, X3, Tc3, T3, ag, O3⟩ := cost21_go g400 rfl (G2 7) 0 FU h2 Bc (Nat.zero_add _) (by unfold FU; omega) R2.1.1 T2 Tc (fun i hi => absurd hi (Nat.not_lt_zero _))
          have pos : 0 < G2 7 := by
            rcases Nat.eq_zero_or_pos (G2 7) with z | z
            · rw [z] at sg
              obtain ⟨a, r, rfl, -⟩ := wB.1
              exact absurd sg (by
                intro y
                cases y)
            · exact z
          have hc : okCs h3 (upd S2 24 (jI (G2 7))) (uA τ) (uM τ) (csV (uA τ) (uM τ) l) := Or.inr ⟨Bc3, Wc, Gc, l, G2 7, Tc3, rfl, pos, g400, (seg2_congr (G2 7) 0 (fun j _ hj => ag j (by omega))).trans sg, wB, wL, fun _ _ => rfl⟩
          have R3 := R2.setC f0 X3 O3 ⟨_, _, _, T3⟩ ⟨_, _, _, Tc3⟩ hc
          refine ⟨_, h3, rfl, ?_, R3.rt, F2.trans (Rf.fq O3.fq R2.2.1.lt (Or.inr (Or.inr (Or.inl rfl))))⟩
          have e3' : s_X14_cost_21 FU 104 0 h2 = _ := e3
          unfold s_X14_cost
          rw [e1, Option.bind_some, R1.k0, cI_of e2, if_neg (by decide), e3']
