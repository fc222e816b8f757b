/-! calls: claim, anew, code -/
theorem RTx.setClaim {h : aH} {t2 : Nat} {γ : gSt} {τ : tSt} {S : Nat → Int32} {wd : Int64} {t f : Nat} {nv : Value} {V : Nat → Nat → Int32} {Z : Nat → Nat → Int64} {B : Nat → Nat → Int32} {W : Nat → Int64} {G : Nat → Nat} (R : RTx h t2 γ τ S wd t f nv V Z B W G) {c : Nat} (hc : c < uF τ 12) (x : Int32) :
    ∃ h2 h3 S' V', pF h (.ref 104) 14 32 (.int (clX τ c x)) = some h2 ∧ gO h2 (.ref 104) 14 31 = some 150 ∧ stI h2 (.ref 150) (jI c) x = some h3 ∧ RTx h3 t2 γ (uSetQ τ (upd (uQ τ) c x) (clX τ c x)) S' wd t f nv V' Z B W G ∧ Ou h h3 := by
  have l := R.lim
  obtain ⟨g, tp, C, ⟨Bf, Wf, Gf, Tf⟩, d, ld, gd, gl, cs, f1, f2, k1, k2, tr, cl, cn, cd⟩ := R
  obtain ⟨h2, e2, X2, O2⟩ := g.1.pS (k := 32) rfl (clX τ c x)
  have g31 : gO h2 (.ref 104) 14 31 = some 150 := gO_of (ltE (by decide)) X2.1 rfl
  obtain ⟨h3, e3, X3, O3⟩ := X2.st (a := 150) (j := c) rfl rfl (show c < 400 by omega) x
  have O := O2.trans O3
  refine ⟨h2, h3, _, _, e2, g31, e3, ⟨g.t X3 O rfl rfl rfl (fun j hj => upd_ne (by omega)), tp, C.toS X3 O ⟨upd_ne (by decide), upd_ne (by decide), upd_ne (by decide), upd_ne (by decide)⟩, ⟨Bf, Wf, Gf, Tf.ou O tp.ok.2.1⟩, d, ld.sm rfl, gd, gl, cs.ou O, f1, f2, k1, k2, tr, fun j hj => ?_, rfl, cd⟩, O⟩
  show upd2 V 150 (upd (V 150) c x) 150 j = upd (uQ τ) c x j
  rw [upd2_eq]
  by_cases u : j = c
  · rw [u, upd_eq, upd_eq]
  · rw [upd_ne u, upd_ne u]
    exact cl j hj
theorem call_claim (x tk : Int32) : cOK (fun h => wC 0 0 (s_X11_claim 0 x tk h)) (s_X14_claim 104 x tk) := by
  refine cOK.of (fun γ _ => ⟨0, qTw γ 1, cN1.ref fun h h1 S V Z D Ln K e1 => ?_, rN1.denied fun h h1 h2 R e1 R1 e2 => ?_⟩) fun γ τ og ot lt => ?_
  · apply wC_of
    unfold s_X11_claim
    rw [K.k0, cI_of (hasCell_N K x), if_pos rfl, e1, Option.bind_some]
    rfl
  · unfold s_X14_claim
    rw [e1, Option.bind_some, R1.k0, cI_of (isCell_N R1 x), if_pos rfl, R1.k0, cI_of e2]
    rfl
  · rcases in_or x (show uF τ 12 < 2147483648 by omega) with ⟨c, hc, rfl⟩ | q
    · by_cases q0 : -1 ≤ tk ∧ tk ≤ 999
      · obtain ⟨q1, q2⟩ := q0
        refine ⟨fun a => a = 1, qTw γ 0, uSetQ τ (upd (uQ τ) c tk) (clX τ c tk), one_x, ?_, rT1.th fun h h1 t2 S wd t f nv V Z B W G e1 R1 => ?_⟩
        · intro h S V Z D Ln N K
          obtain ⟨h1, e1, K1, O1⟩ := K.tw (w := 0) (by decide)
          obtain ⟨h2, S2, V2, e2, K2, O2⟩ := K1.setClaim hc q1
          have g17 : gO h1 (.ref 0) 11 17 = some 99 := gO_of (ltE (by decide)) (K1.1.1.1 0 rfl) rfl
          refine ⟨_, h2, 0, 0, rfl, ?_, S2, V2, Z, D, Ln, K2, Oa.of (O1.trans O2), Gr.refl, Ct.z⟩
          apply wC_of
          unfold s_X11_claim
          rw [K.k0, cI_of (hasCell_in K hc), if_neg (by decide), if_neg (i32_nlt.mpr q1), if_pos q2, e1, Option.bind_some, g17, Option.bind_some, kO_of (ltE (by decide)) (K1.1.1.1 99 rfl), cN_of e2]
          rfl
        · obtain ⟨h2, h3, S3, V3, e2, g31', e3, R3, O3⟩ := R1.setClaim hc tk
          obtain ⟨h4, S4, e4, R4, O4⟩ := R3.granted
          obtain ⟨g, tp, C, fr, d, ld, gd, gl, cs, f1, f2, k1, k2, tr, cl, cn, cd⟩ := id R1
          have g32 : gI h1 (.ref 104) 14 32 = some (uN τ) := by rw [← cn]; exact R1.1.1.gS rfl
          have g31 : gO h1 (.ref 104) 14 31 = some 150 := gO_of (ltE (by decide)) R1.1.1.1 rfl
          have l : ldI .int h1 (.ref 150) (jI c) = some (V 150 c) := R1.1.1.ld (a := 150) rfl (show c < 400 by omega)
          rw [cl c hc] at l
          have key : ∀ u v : Int32, (if tk = -1 then 0 else 1) = u → (if uQ τ c = -1 then 0 else 1) = v → s_X14_claim_66 104 (jI c) tk v u (uN τ) 104 h1 = some (.inl (some (.int 1)), h4) := fun u v a1 a0 => by
            unfold s_X14_claim_66
            rw [show uN τ + (u - v) = clX τ c tk by unfold clX; rw [a1, a0], e2, Option.bind_some, g31', Option.bind_some, e3, Option.bind_some, R3.k0, cI_of e4]
            rfl
          have key2 : ∀ u : Int32, (if tk = -1 then 0 else 1) = u → s_X14_claim_51 104 (jI c) tk u (uN τ) 104 h1 = some (.inl (some (.int 1)), h4) := fun u a1 => by
            unfold s_X14_claim_51
            rw [g31, Option.bind_some, l, Option.bind_some]
            by_cases z : uQ τ c = -1
            · rw [if_pos z]
              exact key u 0 a1 (if_pos z)
            · rw [if_neg z]
              exact key u 1 a1 (if_neg z)
          refine ⟨_, h4, rfl, ?_, R4.rt, (Rf.ou O3).trans (Rf.ou O4)⟩
          unfold s_X14_claim
          rw [e1, Option.bind_some, R1.k0, cI_of (isCell_in R1 hc), if_neg (by decide), cI_of (inR_span q1 q2 h1), if_neg (by decide), g32, Option.bind_some]
          by_cases z : tk = -1
          · rw [if_pos z]
            exact key2 0 (if_pos z)
          · rw [if_neg z]
            exact key2 1 (if_neg z)
      · have q3 : tk < -1 ∨ 999 < tk := by
          by_cases z : tk < -1
          · exact Or.inl z
          · exact Or.inr (i32_nle.mp fun z2 => q0 ⟨i32_nlt.mp z, z2⟩)
        refine ⟨fun a => a = 0, qTw γ 2, τ, one_x, cT1.ref (by decide) fun h h1 S V Z D Ln N K e1 => ?_, rT1.denied (w := 2) fun h h1 h2 t2 S wd t f nv V Z B W G e1 R1 e2 => ?_⟩
        · have tt : s_X11_claim_27 0 h = some (.inl (some (.int 0)), h1) := by
            unfold s_X11_claim_27
            rw [e1, Option.bind_some]
            rfl
          apply wC_of
          unfold s_X11_claim
          rw [K.k0, cI_of (hasCell_in K hc), if_neg (by decide)]
          by_cases z : tk < -1
          · rw [if_pos z, tt]
          · rw [if_neg z, if_neg (i32_nle.mpr (q3.resolve_left z)), tt]
        · unfold s_X14_claim
          rw [e1, Option.bind_some, R1.k0, cI_of (isCell_in R1 hc), if_neg (by decide), cI_of (inR_spanN q3 h1), if_pos rfl, R1.k0, cI_of e2]
          rfl
    · refine ⟨fun a => a = 0, qTw γ 1, τ, one_x, cT1.ref (by decide) fun h h1 S V Z D Ln N K e1 => ?_, rT1.denied (w := 1) fun h h1 h2 t2 S wd t f nv V Z B W G e1 R1 e2 => ?_⟩
      · apply wC_of
        unfold s_X11_claim
        rw [K.k0, cI_of (hasCell_out K q), if_pos rfl, e1, Option.bind_some]
        rfl
      · unfold s_X14_claim
        rw [e1, Option.bind_some, R1.k0, cI_of (isCell_out R1 q), if_pos rfl, R1.k0, cI_of e2]
        rfl
/-- nothing told yet -/
def noT : Nat → Int32 := fun _ => -1
theorem KT.renew {h : aH} {S V : Nat → Nat → Int32} {Z : Nat → Nat → Int64} {D Ln : Nat → Nat} {b : Nat} {N : Nat → Int64} {γ : gSt} {τ : tSt} (K : KT h S V Z D Ln b N γ τ) : ∃ h' S' V', s_X9_renew 92 h = some (.inl none, h') ∧ KT h' S' V' Z D Ln b N γ (uSetK τ 0 (uP τ) noT (uV τ)) ∧ Oc D h h' := by
  obtain ⟨kg, k02, C, kD, ok, ⟨kw, km, kr, ks, km5⟩, kp, kl, ka, kc, kq⟩ := K
  obtain ⟨h1, e1, X1, O⟩ := renew9_at kg.1
  have C' := C.to X1 O rfl
  have fi : ∀ (g : Nat → Int32) (k j : Nat), j < k → filF g 0 k (-1) j = -1 := fun g k j hj => if_pos ⟨Nat.zero_le _, hj⟩
  refine ⟨h1, _, _, e1, ⟨kg.t X1 (kg.2.1.oc kg.1 O) rfl rfl rfl rfl rfl, k02, C', kD, ?_, ⟨kw.t rfl rfl rfl rfl rfl, km.t rfl rfl rfl rfl rfl, kr.t rfl rfl rfl, ks.t rfl rfl rfl rfl, km5.t rfl rfl⟩, kp.t rfl rfl rfl rfl rfl, kl.t rfl rfl rfl rfl rfl rfl, ?_, kc.t rfl rfl rfl, kq.t rfl rfl⟩, O⟩
  · obtain ⟨o1, o2, o3, o4, o5, o6, o7⟩ := ok
    exact ⟨o1, o2, Nat.zero_le _, fun j hj => Or.inl rfl, fun e x1 x2 => absurd x2 (by show ¬ e ≤ 0; omega), o6, o7⟩
  · obtain ⟨w1, w2, w3, w4, w5, w6⟩ := ka
    refine ⟨Nat.zero_le _, rfl, fun j hj => Or.inl rfl, fun e x1 x2 => absurd x2 (by show ¬ e ≤ 0; omega), fun j hj => ⟨fi _ 62 j hj, (w5 j hj).2⟩, fun lane hl => ⟨0, ?_, Nat.zero_le _, fun z => absurd z (Nat.lt_irrefl _), fun e he => absurd he (Nat.not_lt_zero _)⟩⟩
    show filF (V 98) 0 6 (-1) lane + 1 = jI 0
    rw [fi _ 6 lane (by omega)]
    rfl
theorem RTx.forgets {h : aH} {t2 : Nat} {γ : gSt} {τ : tSt} {S : Nat → Int32} {wd : Int64} {t f : Nat} {nv : Value} {V : Nat → Nat → Int32} {Z : Nat → Nat → Int64} {B : Nat → Nat → Int32} {W : Nat → Int64} {G : Nat → Nat} (R : RTx h t2 γ τ S wd t f nv V Z B W G) : ∃ h' S' V', s_X14_forgets 104 h = some (.inl none, h') ∧ RTx h' t2 γ (uSetK τ 0 (uP τ) noT (uV τ)) S' wd t f nv V' Z B W G ∧ Ou h h' := by
  obtain ⟨g, tp, C, ⟨Bf, Wf, Gf, Tf⟩, d, ld, gd, gl, cs, f1, f2, k1, k2, tr, cl, cn, cd⟩ := R
  obtain ⟨h1, V1, e1, C1, O, M, v1⟩ := C.forgets
  refine ⟨h1, _, V1, e1, ⟨g.t C1.1 O (M 119 (by decide)) rfl rfl (fun j hj => upd_ne (by omega)), tp, C1, ⟨Bf, Wf, Gf, Tf.ou O tp.ok.2.1⟩, d, ld.sm (M 151 (by decide)), ?_, ?_, cs.ou O, f1, ?_, rfl, fun e x1 x2 => absurd x2 (by show ¬ e ≤ 0; omega), fun j hj => ⟨v1 j hj, ?_⟩, ?_, cn, ?_⟩, O⟩
  · unfold gdR
    rw [M 146 (by decide)]
    exact gd
  · unfold glR
    rw [M 147 (by decide)]
    exact gl
  · exact fun z => okFd.go (f2 z) (fun k hk => M k (by
      rcases hk with rfl | ⟨a, b⟩
      · decide
      · have : k = 155 ∨ k = 156 ∨ k = 157 ∨ k = 158 ∨ k = 159 ∨ k = 160 ∨ k = 161 := by omega
        rcases this with rfl | rfl | rfl | rfl | rfl | rfl | rfl <;> decide))
  · rw [M 176 (by decide)]
    exact (tr j hj).2
  · rw [M 150 (by decide)]
    exact cl
  · obtain ⟨d1, d2, d3⟩ := cd
    refine ⟨?_, d2, d3⟩
    rw [M 181 (by decide)]
    exact d1
theorem call_anew : cOK (fun h => wC 0 0 (s_X11_anew 0 h)) (s_X14_anew 104) := by
  refine cOK.of (fun γ _ => ⟨-1, qTw γ 1, cN1.ref fun h h1 S V Z D Ln K e1 => ?_, rN1.ref fun h h1 h2 R e1 R1 e2 => ?_⟩) fun γ τ og ot lt => ⟨fun a => a = jI (uK τ), qTw γ 0, uSetK τ 0 (uP τ) noT (uV τ), one_x, ?_, rT1.th fun h h1 t2 S wd t f nv V Z B W G e1 R1 => ?_⟩
  · apply wC_of
    unfold s_X11_anew
    rw [K.g2, Option.bind_some, if_pos rfl, K.k0, cI_of (refuse1 e1)]
  · unfold s_X14_anew
    rw [e1, Option.bind_some, R1.tw, Option.bind_some]
    dsimp only
    rw [R1.k0, cI_of e2]
  · intro h S V Z D Ln N K
    obtain ⟨h1, e1, K1, O1⟩ := K.tw (w := 0) (by decide)
    obtain ⟨h2, S2, V2, e2, K2, O2⟩ := K1.renew
    have g16 : gO h1 (.ref 0) 11 16 = some 92 := gO_of (ltE (by decide)) (K1.1.1.1 0 rfl) rfl
    have g4 : gI h1 (.ref 92) 9 4 = some (jI (uK τ)) := by rw [← K1.2.2.2.2.2.2.2.2.1.2.1]; exact gI_of (ltE (by decide)) (K1.1.1.1 92 rfl) rfl
    refine ⟨_, h2, 0, 0, rfl, ?_, S2, V2, Z, D, Ln, K2, Oa.of (O1.trans O2), Gr.refl, Ct.z⟩
    apply wC_of
    unfold s_X11_anew
    rw [K.g2, Option.bind_some, if_neg (by decide), e1, Option.bind_some, g16, Option.bind_some, g4, Option.bind_some, Option.bind_some, kO_of (ltE (by decide)) (K1.1.1.1 92 rfl), cN_of e2]
  · obtain ⟨h2, S2, V2, e2, R2, O2⟩ := R1.forgets
    obtain ⟨h3, S3, e3, R3, O3⟩ := R2.done (jI (uK τ))
    have g59 : gI h1 (.ref 104) 14 59 = some (jI (uK τ)) := by rw [← R1.2.2.2.2.2.2.2.2.2.2.2.1]; exact R1.1.1.gS rfl
    refine ⟨_, h3, rfl, ?_, R3.rt, (Rf.ou O2).trans (Rf.ou O3)⟩
    unfold s_X14_anew
    rw [e1, Option.bind_some, R1.g4, Option.bind_some]
    dsimp only
    rw [g59, Option.bind_some, R1.k0, cN_of e2, R2.k0, cI_of e3]
