/-! calls: tick, told -/
theorem okLa.cg {V V' : Nat → Nat → Int32} {A : Nat → Nat → Int32} {m F : Nat → Nat} {good : Nat → Bool} {tp ta tv tp' ta' tv' : Nat → Int32} {by' : Int32} {fl st e : Nat} (H : okLa V A m F good tp ta tv by' fl st e) (hV : V' 97 = V 97) (K : okW A m F) (h1 : ∀ e', 1 ≤ e' → e' ≤ e → tp e' = tp' e') (h2 : ∀ e' i, e' ≤ e → i < m 4 → ta (2 * e' + i) = ta' (2 * e' + i) ∧ tv (2 * e' + i) = tv' (2 * e' + i)) : okLa V' A m F good tp' ta' tv' by' fl st e := by
  intro c hc q hq
  rw [hV, ← wS_congr K e h1 h2 (fun _ _ _ _ _ => Iff.rfl)]
  exact H c hc q hq
theorem KT.take {h : aH} {S V : Nat → Nat → Int32} {Z : Nat → Nat → Int64} {D Ln : Nat → Nat} {b : Nat} {N : Nat → Int64} {γ : gSt} {τ : tSt} (K : KT h S V Z D Ln b N γ τ) {p : Nat} (hp : p < uF τ 13) (hk : uK τ < 30) : ∃ h' S' V', s_X9_take 92 (jI p) h = some (.inl (some (.int (jI (uK τ + 1)))), h') ∧ KT h' S' V' Z D Ln b N γ (uSetK τ (uK τ + 1) (upd (uP τ) (uK τ + 1) (jI p)) (uT τ) (uV τ)) ∧ Oc D h h' := by
  obtain ⟨kg, k02, C, kD, ok, ⟨kw, km, kr, ks, km5⟩, kp, kl, ka, kc, kq⟩ := K
  obtain ⟨w1, w2, w3, w4, w5, w6⟩ := ka
  have g4 : gI h (.ref 92) 9 4 = some (jI (uK τ)) := by rw [← w2]; exact gI_of (ltE (by decide)) (kg.1.1 92 rfl) rfl
  obtain ⟨h1, e1, X1, O1⟩ := kg.1.pn (a := 92) (ci := 9) (k := 4) (x := jI (uK τ + 1)) rfl rfl (Nat.le_of_ble_eq_true rfl) rfl rfl
  have g5 : gO h1 (.ref 92) 9 5 = some 94 := gO_of (ltE (by decide)) (X1.1 92 rfl) rfl
  have g4' : gI h1 (.ref 92) 9 4 = some (jI (uK τ + 1)) := gI_of (ltE (by decide)) (X1.1 92 rfl) rfl
  obtain ⟨h2, e2, X2, O2⟩ := X1.st (a := 94) (j := uK τ + 1) rfl (show uK τ + 1 < 31 by omega) (jI p)
  have g4'' : gI h2 (.ref 92) 9 4 = some (jI (uK τ + 1)) := gI_of (ltE (by decide)) (X2.1 92 rfl) rfl
  have O := O1.trans O2
  have C' := C.to X2 O rfl
  refine ⟨h2, _, _, ?_, ⟨kg.t X2 (kg.2.1.oc kg.1 O) rfl rfl rfl rfl rfl, k02, C', kD, ?_, ⟨kw.t rfl rfl rfl rfl rfl, km.t rfl rfl rfl rfl rfl, kr.t rfl rfl rfl, ks.t rfl rfl rfl rfl, km5.t rfl rfl⟩, kp.t rfl rfl rfl rfl rfl, kl.t rfl rfl rfl rfl rfl rfl, ?_, kc.t rfl rfl rfl, kq.t rfl rfl⟩, O⟩
  · unfold s_X9_take
    rw [g4, Option.bind_some, jI_inc, e1, Option.bind_some, g5, Option.bind_some, g4', Option.bind_some, e2, Option.bind_some, g4'', Option.bind_some]
  · obtain ⟨o1, o2, o3, o4, o5, o6, o7⟩ := ok
    refine ⟨o1, o2, hk, fun j hj => ?_, fun e x1 x2 => ?_, o6, o7⟩
    · rcases o4 j hj with z | ⟨e, z1, z2⟩
      · exact Or.inl z
      · exact Or.inr ⟨e, Nat.le_succ_of_le z1, z2⟩
    · show ∃ q, upd (uP τ) (uK τ + 1) (jI p) e = jI q ∧ q < uF τ 13
      have x2 : e ≤ uK τ + 1 := x2
      by_cases u : e = uK τ + 1
      · rw [u, upd_eq]
        exact ⟨p, rfl, hp⟩
      · rw [upd_ne u]
        exact o5 e x1 (by omega)
  · refine ⟨hk, rfl, w3, fun e x1 x2 => ?_, w5.sm rfl rfl, fun lane hl => ?_⟩
    · show upd2 V 94 (upd (V 94) (uK τ + 1) (jI p)) 94 e = upd (uP τ) (uK τ + 1) (jI p) e ∧ ∃ q, upd (uP τ) (uK τ + 1) (jI p) e = jI q ∧ q < uF τ 13
      have x2 : e ≤ uK τ + 1 := x2
      rw [upd2_eq]
      by_cases u : e = uK τ + 1
      · rw [u, upd_eq, upd_eq]
        exact ⟨rfl, p, rfl, hp⟩
      · rw [upd_ne u, upd_ne u]
        exact w4 e x1 (by omega)
    · obtain ⟨r, r1, r2, r3, r4⟩ := w6 lane hl
      refine ⟨r, r1, Nat.le_succ_of_le r2, r3, fun e he => (r4 e he).cg rfl C.2.2.1 (fun e' _ y2 => (upd_ne (by omega)).symm) (fun _ _ _ _ => ⟨rfl, rfl⟩)⟩
theorem RTx.take {h : aH} {t2 : Nat} {γ : gSt} {τ : tSt} {S : Nat → Int32} {wd : Int64} {t f : Nat} {nv : Value} {V : Nat → Nat → Int32} {Z : Nat → Nat → Int64} {B : Nat → Nat → Int32} {W : Nat → Int64} {G : Nat → Nat} (R : RTx h t2 γ τ S wd t f nv V Z B W G) {p : Nat} (hp : p < uF τ 13) (hk : uK τ < 30) :
    ∃ h1 h2 S' V', pF h (.ref 104) 14 59 (.int (jI (uK τ + 1))) = some h1 ∧ gO h1 (.ref 104) 14 60 = some 175 ∧ gI h1 (.ref 104) 14 59 = some (jI (uK τ + 1)) ∧ stI h1 (.ref 175) (jI (uK τ + 1)) (jI p) = some h2 ∧ gI h2 (.ref 104) 14 59 = some (jI (uK τ + 1)) ∧ RTx h2 t2 γ (uSetK τ (uK τ + 1) (upd (uP τ) (uK τ + 1) (jI p)) (uT τ) (uV τ)) S' wd t f nv V' Z B W G ∧ Ou h h2 := by
  obtain ⟨g, tp, C, ⟨Bf, Wf, Gf, Tf⟩, d, ld, gd, gl, cs, f1, f2, k1, k2, tr, cl, cn, cd⟩ := R
  obtain ⟨h1, e1, X1, O1⟩ := g.1.pS (k := 59) rfl (jI (uK τ + 1))
  obtain ⟨h2, e2, X2, O2⟩ := X1.st (a := 175) (j := uK τ + 1) rfl rfl (show uK τ + 1 < 31 by omega) (jI p)
  have O := O1.trans O2
  refine ⟨h1, h2, _, _, e1, gO_of (ltE (by decide)) X1.1 rfl, X1.gS (k := 59) rfl, e2, X2.gS (k := 59) rfl, ⟨g.t X2 O rfl rfl rfl (fun j hj => upd_ne (by omega)), tp, C.toS X2 O ⟨rfl, rfl, rfl, rfl⟩, ⟨Bf, Wf, Gf, Tf.ou O tp.ok.2.1⟩, d, ld.sm rfl, gd, gl, cs.ou O, f1, f2, rfl, fun e x1 x2 => ?_, tr, cl, cn, cd⟩, O⟩
  show upd2 V 175 (upd (V 175) (uK τ + 1) (jI p)) 175 e = upd (uP τ) (uK τ + 1) (jI p) e
  have x2 : e ≤ uK τ + 1 := x2
  rw [upd2_eq]
  by_cases u : e = uK τ + 1
  · rw [u, upd_eq, upd_eq]
  · rw [upd_ne u, upd_ne u]
    exact k2 e x1 (by omega)
theorem call_tick (x : Int32) : cOK (fun h => wC 0 0 (s_X11_tick 0 x h)) (s_X14_tick 104 x) := by
  refine cOK.of (fun γ _ => ⟨-1, qTw γ 1, cN1.ref fun h h1 S V Z D Ln K e1 => ?_, rN1.ref fun h h1 h2 R e1 R1 e2 => ?_⟩) fun γ τ og ot lt => ?_
  · apply wC_of
    unfold s_X11_tick
    rw [K.k0, cI_of (hasPush_N K x), if_pos rfl, K.k0, cI_of (refuse1 e1)]
  · unfold s_X14_tick
    rw [e1, Option.bind_some, R1.k0, cI_of (isPush_N R1 x), if_pos rfl, R1.k0, cI_of e2]
  · have k30 := ot.2.2.1
    rcases in_or x (show uF τ 13 < 2147483648 by omega) with ⟨c, hc, rfl⟩ | q
    · by_cases hk : uK τ < 30
      · refine ⟨fun a => a = jI (uK τ + 1), qTw γ 0, uSetK τ (uK τ + 1) (upd (uP τ) (uK τ + 1) (jI c)) (uT τ) (uV τ), one_x, ?_, rT1.th fun h h1 t2 S wd t f nv V Z B W G e1 R1 => ?_⟩
        · intro h S V Z D Ln N K
          obtain ⟨h1, e1, K1, O1⟩ := K.tw (w := 0) (by decide)
          obtain ⟨h2, S2, V2, e2, K2, O2⟩ := K1.take hc hk
          have g16 : gO h (.ref 0) 11 16 = some 92 := gO_of (ltE (by decide)) (K.1.1.1 0 rfl) rfl
          have g16' : gO h1 (.ref 0) 11 16 = some 92 := gO_of (ltE (by decide)) (K1.1.1.1 0 rfl) rfl
          have g4 : gI h (.ref 92) 9 4 = some (jI (uK τ)) := by rw [← K.2.2.2.2.2.2.2.2.1.2.1]; exact gI_of (ltE (by decide)) (K.1.1.1 92 rfl) rfl
          refine ⟨_, h2, 0, 0, rfl, ?_, S2, V2, Z, D, Ln, K2, Oa.of (O1.trans O2), Gr.refl, Ct.z⟩
          apply wC_of
          unfold s_X11_tick
          rw [K.k0, cI_of (hasPush_in K hc), if_neg (by decide), g16, Option.bind_some, g4, Option.bind_some, if_pos (show jI (uK τ) < 30 from (jI_lt (k := 30) (by omega) (by decide)).mpr hk), e1, Option.bind_some, g16', Option.bind_some, kO_of (ltE (by decide)) (K1.1.1.1 92 rfl), cI_of e2]
        · obtain ⟨h2, h3, S3, V3, e2, g60, g59', e3, g59'', R3, O3⟩ := R1.take hc hk
          obtain ⟨h4, S4, e4, R4, O4⟩ := R3.done (jI (uK τ + 1))
          have g59 : gI h1 (.ref 104) 14 59 = some (jI (uK τ)) := by rw [← R1.2.2.2.2.2.2.2.2.2.2.2.1]; exact R1.1.1.gS rfl
          refine ⟨_, h4, rfl, ?_, R4.rt, (Rf.ou O3).trans (Rf.ou O4)⟩
          unfold s_X14_tick
          rw [e1, Option.bind_some, R1.k0, cI_of (isPush_in R1 hc), if_neg (by decide), g59, Option.bind_some, if_neg (show ¬ jI (uK τ) = 30 from fun z => by have := (jI_inj (k := 30) (by omega) (by decide)).mp z; omega), Option.bind_some, jI_inc, e2, Option.bind_some, g60, Option.bind_some, g59', Option.bind_some, e3, Option.bind_some, g59'', Option.bind_some, R3.k0, cI_of e4]
      · have e30 : uK τ = 30 := by omega
        refine ⟨fun a => a = -1, qTw γ 3, τ, one_x, cT1.ref (by decide) fun h h1 S V Z D Ln N K e1 => ?_, rT1.ref (w := 3) fun h h1 h2 t2 S wd t f nv V Z B W G e1 R1 e2 => ?_⟩
        · have g16 : gO h (.ref 0) 11 16 = some 92 := gO_of (ltE (by decide)) (K.1.1.1 0 rfl) rfl
          have g4 : gI h (.ref 92) 9 4 = some (jI (uK τ)) := by rw [← K.2.2.2.2.2.2.2.2.1.2.1]; exact gI_of (ltE (by decide)) (K.1.1.1 92 rfl) rfl
          apply wC_of
          unfold s_X11_tick
          rw [K.k0, cI_of (hasPush_in K hc), if_neg (by decide), g16, Option.bind_some, g4, Option.bind_some, e30, if_neg (show ¬ jI 30 < 30 by decide), K.k0, cI_of (refuse1 e1)]
        · have g59 : gI h1 (.ref 104) 14 59 = some (jI (uK τ)) := by rw [← R1.2.2.2.2.2.2.2.2.2.2.2.1]; exact R1.1.1.gS rfl
          unfold s_X14_tick
          rw [e1, Option.bind_some, R1.k0, cI_of (isPush_in R1 hc), if_neg (by decide), g59, Option.bind_some, e30, if_pos (show jI 30 = 30 from rfl), R1.k0, cI_of e2]
    · refine ⟨fun a => a = -1, qTw γ 1, τ, one_x, cT1.ref (by decide) fun h h1 S V Z D Ln N K e1 => ?_, rT1.ref (w := 1) fun h h1 h2 t2 S wd t f nv V Z B W G e1 R1 e2 => ?_⟩
      · apply wC_of
        unfold s_X11_tick
        rw [K.k0, cI_of (hasPush_out K q), if_pos rfl, K.k0, cI_of (refuse1 e1)]
      · unfold s_X14_tick
        rw [e1, Option.bind_some, R1.k0, cI_of (isPush_out R1 q), if_pos rfl, R1.k0, cI_of e2]
theorem jmin_dec {r t : Nat} (hr : r ≤ 90) (ht : t ≤ 90) {x : Int32} (hx : x + 1 = jI r) : jmin x (jI t - 1) + 1 = jI (min r t) := by
  have ex : x = jI r - 1 := by rw [← hx, Int32.add_sub_cancel]
  have o1 : (1 : Int32).toInt = 1 := by decide
  have er := jI_int (j := r) (by omega)
  have et := jI_int (j := t) (by omega)
  have ar := (toInt_small (x := jI r) (y := 1) (by omega) (by omega)).1
  have at' := (toInt_small (x := jI t) (y := 1) (by omega) (by omega)).1
  have back : ∀ k : Nat, jI k - 1 + 1 = jI k := fun k => Int32.sub_add_cancel _ _
  rw [ex]
  unfold jmin
  by_cases q : jI t - 1 < jI r - 1
  · have q' := Int32.lt_iff_toInt_lt.mp q
    rw [if_pos q, back, Nat.min_eq_right (by omega)]
  · have q' : ¬ (jI t - 1).toInt < (jI r - 1).toInt := fun z => q (Int32.lt_iff_toInt_lt.mpr z)
    rw [if_neg q, back, Nat.min_eq_left (by omega)]
