/-! calls: told -/
theorem he28_go {t : Int32} {g : Nat → Int32} {S : Nat → Nat → Int32} {Z : Nat → Nat → Int64} {D Ln : Nat → Nat} {b : Nat} : ∀ (r l f : Nat) (h : aH) (V : Nat → Nat → Int32), l + r = 6 → r < f → CW h S V Z D Ln b → (∀ j, j < l → V 98 j = jmin (g j) (t - 1)) → (∀ j, l ≤ j → j < 6 → V 98 j = g j) →
    ∃ h' V', s_X9_hear_28 f 92 t (jI l) h = some (.inl none, h') ∧ CW h' S V' Z D Ln b ∧ Oc D h h' ∧ Sm [98] V V' ∧ ∀ j, j < 6 → V' 98 j = jmin (g j) (t - 1)
  | _, _, 0, _, _, _, hf, _, _, _ => absurd hf (Nat.not_lt_zero _)
  | 0, l, f + 1, h, V, hl, _, X, v1, _ => by
    refine ⟨h, V, ?_, X, Oc.refl, Sm.refl, fun j hj => v1 j (by omega)⟩
    show s_X9_hear_28_b (s_X9_hear_28 f) 92 t (jI l) h = _
    unfold s_X9_hear_28_b
    rw [if_pos (show (6 : Int32) ≤ jI l from (jI_le (j := 6) (by omega) (by omega)).mpr (by omega))]
  | r + 1, l, f + 1, h, V, hl, hf, X, v1, v2 => by
    have g9 : gO h (.ref 92) 9 9 = some 98 := gO_of (ltE (by decide)) (X.1 92 rfl) rfl
    have l9 : ldI .int h (.ref 98) (jI l) = some (V 98 l) := X.ld rfl (show l < 6 by omega)
    rw [v2 l (Nat.le_refl _) (by omega)] at l9
    obtain ⟨h1, e1, X1, O1⟩ := X.st (a := 98) (j := l) rfl (show l < 6 by omega) (jmin (g l) (t - 1))
    obtain ⟨h2, V2, e2, X2, O2, M2, w2⟩ := he28_go (t := t) (g := g) r (l + 1) f h1 _ (by omega) (by omega) X1 (fun j hj => by
      rw [upd2_eq]
      by_cases u : j = l
      · rw [u, upd_eq]
      · rw [upd_ne u]
        exact v1 j (by omega)) (fun j j1 j2 => by
      rw [upd2_eq, upd_ne (by omega)]
      exact v2 j (by omega) j2)
    refine ⟨h2, V2, ?_, X2, O1.trans O2, (Sm.refl.upd (by decide)).trans M2, w2⟩
    show s_X9_hear_28_b (s_X9_hear_28 f) 92 t (jI l) h = _
    unfold s_X9_hear_28_b
    rw [if_neg (show ¬ (6 : Int32) ≤ jI l from fun z => by have := (jI_le (j := 6) (by omega) (by omega)).mp z; omega), g9, Option.bind_some, Option.bind_some, l9, Option.bind_some, e1, Option.bind_some, jI_inc]
    exact e2
theorem ix2 (t i : Nat) : (jI t * 2) + jI i = jI (2 * t + i) ∧ (2 * jI t) + jI i = jI (2 * t + i) := by
  have a : jI t * 2 = jI (2 * t) := by
    rw [show (2 : Int32) = jI 2 from rfl, jI_mul, Nat.mul_comm]
  have c : 2 * jI t = jI (2 * t) := by rw [show (2 : Int32) = jI 2 from rfl, jI_mul]
  rw [a, c, jI_add]
  exact ⟨rfl, rfl⟩
/-- a sight told at a tick -/
def uHear (τ : tSt) (t i : Nat) (v : Int32) : tSt := uSetK τ (uK τ) (uP τ) (upd (uT τ) (2 * t + i) (jI (uK τ))) (upd (uV τ) (2 * t + i) v)
theorem KT.hear {h : aH} {S V : Nat → Nat → Int32} {Z : Nat → Nat → Int64} {D Ln : Nat → Nat} {b : Nat} {N : Nat → Int64} {γ : gSt} {τ : tSt} (K : KT h S V Z D Ln b N γ τ) {t i : Nat} (ht : t ≤ uK τ) (hi : i < uM τ 4) (v : Int32) : ∃ h' S' V', s_X9_hear 92 (jI t) (jI i) v h = some (.inl none, h') ∧ KT h' S' V' Z D Ln b N γ (uHear τ t i v) ∧ Oc D h h' := by
  have lm := K.lim.2.2.2.1.2.2.2.2
  obtain ⟨kg, k02, C, kD, ok, ⟨kw, km, kr, ks, km5⟩, kp, kl, ka, kc, kq⟩ := K
  obtain ⟨w1, w2, w3, w4, w5, w6⟩ := ka
  have g6 : gO h (.ref 92) 9 6 = some 95 := gO_of (ltE (by decide)) (kg.1.1 92 rfl) rfl
  obtain ⟨h1, e1, X1, O1⟩ := kg.1.st (a := 95) (j := 2 * t + i) rfl (show 2 * t + i < 62 by omega) v
  have g7 : gO h1 (.ref 92) 9 7 = some 96 := gO_of (ltE (by decide)) (X1.1 92 rfl) rfl
  have g4 : gI h1 (.ref 92) 9 4 = some (jI (uK τ)) := by rw [← w2]; exact gI_of (ltE (by decide)) (X1.1 92 rfl) rfl
  obtain ⟨h2, e2, X2, O2⟩ := X1.st (a := 96) (j := 2 * t + i) rfl (show 2 * t + i < 62 by omega) (jI (uK τ))
  obtain ⟨h3, V3, e3, X3, O3, M3, v3⟩ := he28_go (t := jI t) (g := V 98) 6 0 FU h2 _ rfl (by unfold FU; omega) X2 (fun j hj => absurd hj (Nat.not_lt_zero _)) (fun j _ _ => rfl)
  have O := (O1.trans O2).trans O3
  have C' := C.to X3 O rfl
  have M : Sm [95, 96, 98] V V3 := ((Sm.refl.upd (by decide)).upd (by decide)).trans (M3.mono (by decide))
  have e3' : s_X9_hear_28 FU 92 (jI t) 0 h2 = some (.inl none, h3) := e3
  have v96 : V3 96 = upd (V 96) (2 * t + i) (jI (uK τ)) := by
    rw [M3 96 (by decide)]
    rfl
  have v95 : V3 95 = upd (V 95) (2 * t + i) v := by
    rw [M3 95 (by decide)]
    rfl
  refine ⟨h3, S, V3, ?_, ⟨kg.t X3 (kg.2.1.oc kg.1 O) rfl (M 1 (by decide)) rfl rfl rfl, k02, C', kD, ?_, ⟨kw.t (M 62 (by decide)) (M 63 (by decide)) (M 64 (by decide)) rfl rfl, km.t (M 58 (by decide)) (M 59 (by decide)) rfl rfl rfl, kr.t (M 65 (by decide)) (M 66 (by decide)) rfl, ks.t (M 71 (by decide)) (M 72 (by decide)) rfl rfl, km5.t (M 73 (by decide)) rfl⟩, kp.t (M 79 (by decide)) (M 80 (by decide)) rfl rfl rfl, kl.t (M 82 (by decide)) (M 83 (by decide)) (M 84 (by decide)) rfl rfl rfl, ?_, kc.t (M 101 (by decide)) rfl rfl, kq.t (M 102 (by decide)) rfl⟩, O⟩
  · unfold s_X9_hear
    rw [g6, Option.bind_some, (ix2 t i).1, e1, Option.bind_some, g7, Option.bind_some, g4, Option.bind_some, e2, Option.bind_some, e3']
  · obtain ⟨o1, o2, o3, o4, o5, o6, o7⟩ := ok
    refine ⟨o1, o2, o3, fun j hj => ?_, o5, o6, o7⟩
    show upd (uT τ) (2 * t + i) (jI (uK τ)) j = -1 ∨ ∃ e, e ≤ uK τ ∧ upd (uT τ) (2 * t + i) (jI (uK τ)) j = jI e
    by_cases u : j = 2 * t + i
    · rw [u, upd_eq]
      exact Or.inr ⟨_, Nat.le_refl _, rfl⟩
    · rw [upd_ne u]
      exact o4 j hj
  · refine ⟨w1, w2, fun j hj => ?_, fun e x1 x2 => ?_, fun j hj => ?_, fun lane hl => ?_⟩
    · show upd (uT τ) (2 * t + i) (jI (uK τ)) j = -1 ∨ 0 ≤ upd (uT τ) (2 * t + i) (jI (uK τ)) j
      by_cases u : j = 2 * t + i
      · rw [u, upd_eq]
        exact Or.inr (i32_nlt.mp (jI_neg (by omega)))
      · rw [upd_ne u]
        exact w3 j hj
    · rw [M 94 (by decide)]
      exact w4 e x1 x2
    · show V3 96 j = upd (uT τ) (2 * t + i) (jI (uK τ)) j ∧ V3 95 j = upd (uV τ) (2 * t + i) v j
      rw [v96, v95]
      by_cases u : j = 2 * t + i
      · rw [u, upd_eq, upd_eq, upd_eq, upd_eq]
        exact ⟨rfl, rfl⟩
      · rw [upd_ne u, upd_ne u, upd_ne u, upd_ne u]
        exact w5 j hj
    · obtain ⟨r, r1, r2, r3, r4⟩ := w6 lane hl
      have r2' : r ≤ uK τ + 1 := r2
      refine ⟨min r t, ?_, ?_, fun z => r3 (by omega), fun e he => (r4 e (by omega)).cg (M 97 (by decide)) C.2.2.1 (fun _ _ _ => rfl) (fun e' i' y1 y2 => ?_)⟩
      · rw [v3 lane (by omega)]
        exact jmin_dec (by omega) (by omega) r1
      · show min r t ≤ uK τ + 1
        omega
      · have y2 : i' < uM τ 4 := y2
        have ne : 2 * e' + i' ≠ 2 * t + i := by omega
        exact ⟨(upd_ne ne).symm, (upd_ne ne).symm⟩
theorem RTx.hear {h : aH} {t2 : Nat} {γ : gSt} {τ : tSt} {S : Nat → Int32} {wd : Int64} {th f : Nat} {nv : Value} {V : Nat → Nat → Int32} {Z : Nat → Nat → Int64} {B : Nat → Nat → Int32} {W : Nat → Int64} {G : Nat → Nat} (R : RTx h t2 γ τ S wd th f nv V Z B W G) {t i : Nat} (ht : t ≤ uK τ) (hk : uK τ ≤ 30) (hi : i < uM τ 4) (v : Int32) :
    ∃ h1 h2 V', stI h (.ref 177) (jI (2 * t + i)) (jI (uK τ)) = some h1 ∧ gO h1 (.ref 104) 14 61 = some 176 ∧ stI h1 (.ref 176) (jI (2 * t + i)) v = some h2 ∧ RTx h2 t2 γ (uHear τ t i v) S wd th f nv V' Z B W G ∧ Ou h h2 := by
  have lm := R.lim.2.2.2.1.2.2.2.2
  obtain ⟨g, tp, C, ⟨Bf, Wf, Gf, Tf⟩, d, ld, gd, gl, cs, f1, f2, k1, k2, tr, cl, cn, cd⟩ := R
  obtain ⟨h1, e1, X1, O1⟩ := g.1.st (a := 177) (j := 2 * t + i) rfl rfl (show 2 * t + i < 62 by omega) (jI (uK τ))
  obtain ⟨h2, e2, X2, O2⟩ := X1.st (a := 176) (j := 2 * t + i) rfl rfl (show 2 * t + i < 62 by omega) v
  have O := O1.trans O2
  refine ⟨h1, h2, _, e1, gO_of (ltE (by decide)) X1.1 rfl, e2, ⟨g.t X2 O rfl rfl rfl (fun j hj => rfl), tp, C.to X2 O, ⟨Bf, Wf, Gf, Tf.ou O tp.ok.2.1⟩, d, ld.sm rfl, gd, gl, cs.ou O, f1, f2, k1, k2, fun j hj => ?_, cl, cn, cd⟩, O⟩
  show upd (V 177) (2 * t + i) (jI (uK τ)) j = upd (uT τ) (2 * t + i) (jI (uK τ)) j ∧ upd (V 176) (2 * t + i) v j = upd (uV τ) (2 * t + i) v j
  by_cases u : j = 2 * t + i
  · rw [u, upd_eq, upd_eq, upd_eq, upd_eq]
    exact ⟨rfl, rfl⟩
  · rw [upd_ne u, upd_ne u, upd_ne u, upd_ne u]
    exact tr j hj
theorem told_no {h h1 : aH} {a1 a2 a3 : Int32} (e1 : pF h (.ref 0) 11 3 (.int 1) = some h1) : s_X11_told_43 0 a1 a2 a3 h = some (.inl (some (.int 0)), h1) := by
  unfold s_X11_told_43 s_X11_told_44
  rw [if_pos rfl, e1, Option.bind_some]
  rfl
theorem lt_of_le1 {n : Nat} {x : Int32} (hn : n < 1000000) (h : jI (n + 1) ≤ x) : jI n < x := by
  have a := Int32.le_iff_toInt_le.mp h
  rw [jI_int (by omega)] at a
  exact Int32.lt_iff_toInt_lt.mpr (by rw [jI_int (by omega)]; omega)
theorem call_told (a1 a2 a3 : Int32) : cOK (fun h => wC 0 0 (s_X11_told 0 a1 a2 a3 h)) (s_X14_told 104 a1 a2 a3) := by
  refine cOK.of (fun γ _ => ⟨0, qTw γ 1, cN1.ref fun h h1 S V Z D Ln K e1 => ?_, rN1.denied fun h h1 h2 R e1 R1 e2 => ?_⟩) fun γ τ og ot lt => ?_
  · apply wC_of
    unfold s_X11_told
    rw [K.g2, Option.bind_some, if_pos rfl, told_no e1]
  · unfold s_X14_told
    rw [e1, Option.bind_some, R1.k0, cI_of (isSight_N R1 a2), if_pos rfl]
    unfold s_X14_told_25
    rw [R1.k0, cI_of e2]
    rfl
  · have k30 := ot.2.2.1
    have m4 := lt.2.2.2.1.2.2.2.2
    have gd : ((∃ t, t < uK τ + 1 ∧ a1 = jI t) ∧ ∃ i, i < uM τ 4 ∧ a2 = jI i) ∨ (a1 < 0 ∨ jI (uK τ + 1) ≤ a1) ∨ (a2 < 0 ∨ jI (uM τ 4) ≤ a2) := by
      rcases in_or a1 (show uK τ + 1 < 2147483648 by omega) with z | z
      · rcases in_or a2 (show uM τ 4 < 2147483648 by omega) with y | y
        · exact Or.inl ⟨z, y⟩
        · exact Or.inr (Or.inr y)
      · exact Or.inr (Or.inl z)
    rcases gd with ⟨⟨t, ht, rfl⟩, i, hi, rfl⟩ | gd
    · have o4 := ot.2.2.2.1 (2 * t + i) (by omega)
      have cls : ∀ h S V Z D Ln N, KT h S V Z D Ln 197 N γ τ → s_X11_told 0 (jI t) (jI i) a3 h = s_X11_told_44 0 (jI t) (jI i) a3 1 h ∧ gO h (.ref 0) 11 16 = some 92 ∧ kO h 92 9 (some ()) = some () ∧ s_X9_hasSight 92 (jI t) (jI i) h = some (.inl (some (.int (b01 (decide (uT τ (2 * t + i) ≠ -1))))), h) := by
        intro h S V Z D Ln N K
        have g16 : gO h (.ref 0) 11 16 = some 92 := gO_of (ltE (by decide)) (K.1.1.1 0 rfl) rfl
        have g4 : gI h (.ref 92) 9 4 = some (jI (uK τ)) := by rw [← K.2.2.2.2.2.2.2.2.1.2.1]; exact gI_of (ltE (by decide)) (K.1.1.1 92 rfl) rfl
        have l4 : ldI .int h (.ref 4) 4 = some (jI (uM τ 4)) := K.ldm (k := 4) (by decide)
        have g7 : gO h (.ref 92) 9 7 = some 96 := gO_of (ltE (by decide)) (K.1.1.1 92 rfl) rfl
        have l7 : ldI .int h (.ref 96) (jI (2 * t + i)) = some (V 96 (2 * t + i)) := K.1.1.ld rfl (show 2 * t + i < 62 by omega)
        rw [(K.2.2.2.2.2.2.2.2.1.2.2.2.2.1 (2 * t + i) (by omega)).1] at l7
        refine ⟨?_, g16, kO_of (ltE (by decide)) (K.1.1.1 92 rfl), ?_⟩
        · unfold s_X11_told
          rw [K.g2, Option.bind_some, if_neg (by decide), if_neg (jI_neg (by omega)), g16, Option.bind_some, g4, Option.bind_some, if_neg (fun z => by have := (jI_lt (by omega) (by omega)).mp z; omega), if_neg (jI_neg (by omega)), K.g7, Option.bind_some, K.mn, Option.bind_some, l4, Option.bind_some, if_neg (fun z => by have := (jI_le (by omega) (by omega)).mp z; omega)]
        · unfold s_X9_hasSight
          rw [g7, Option.bind_some, (ix2 t i).1, l7, Option.bind_some]
          rcases o4 with z | ⟨e, he, z⟩
          · rw [z, if_pos (by decide)]
            rfl
          · have ne : jI e ≠ -1 := fun y => by
              have : ¬ jI e < 0 := jI_neg (by omega)
              rw [y] at this
              exact this (by decide)
            rw [z, if_neg (jI_neg (by omega)), decide_eq_true ne]
            rfl
      have ref : ∀ h h1 t2 S wd th f nv V Z B W G, pF h (.ref 104) 14 0 (.int 0) = some h1 → RTx h1 t2 γ τ S wd th f nv V Z B W G → s_X14_told 104 (jI t) (jI i) a3 h = (if uT τ (2 * t + i) = (-1) then ((gO h1 (.ref 104) 14 62).bind fun x56 => (gI h1 (.ref 104) 14 59).bind fun x62 => (stI h1 (.ref x56) (jI (2 * t + i)) x62).bind fun h65 => (gO h65 (.ref 104) 14 61).bind fun x67 => (stI h65 (.ref x67) (jI (2 * t + i)) a3).bind fun h73 => kO h73 104 14 (cI (s_X14_granted 104 h73) fun x75 h75 => rtZ x75 h75)) else (kO h1 104 14 (cI (s_X14_denied 104 5 h1) fun x51 h51 => rtZ x51 h51))) ∧ gO h1 (.ref 104) 14 62 = some 177 ∧ gI h1 (.ref 104) 14 59 = some (jI (uK τ)) := by
        intro h h1 t2 S wd th f nv V Z B W G e1 R1
        have g59 : gI h1 (.ref 104) 14 59 = some (jI (uK τ)) := by rw [← R1.2.2.2.2.2.2.2.2.2.2.2.1]; exact R1.1.1.gS rfl
        have g62 : gO h1 (.ref 104) 14 62 = some 177 := gO_of (ltE (by decide)) R1.1.1.1 rfl
        have l : ldI .int h1 (.ref 177) (jI (2 * t + i)) = some (V 177 (2 * t + i)) := R1.1.1.ld (a := 177) rfl (show 2 * t + i < 62 by omega)
        rw [(R1.2.2.2.2.2.2.2.2.2.2.2.2.2.1 (2 * t + i) (by omega)).1] at l
        refine ⟨?_, g62, g59⟩
        unfold s_X14_told
        rw [e1, Option.bind_some, R1.k0, cI_of (isSight_in R1 hi), if_neg (by decide), g59, Option.bind_some, cI_of (inR_span (x := jI t) (lo := 0) (hi := jI (uK τ)) (i32_nlt.mp (jI_neg (by omega))) ((jI_le (by omega) (by omega)).mpr (by omega)) h1), if_neg (by decide), g62, Option.bind_some, (ix2 t i).2, l, Option.bind_some]
        simp only [g59, Option.bind_some]
      by_cases u : uT τ (2 * t + i) = -1
      · refine ⟨fun a => a = 1, qTw γ 0, uHear τ t i a3, one_x, ?_, rT1.th fun h h1 t2 S wd th f nv V Z B W G e1 R1 => ?_⟩
        · intro h S V Z D Ln N K
          obtain ⟨c1, c2, c3, c4⟩ := cls h S V Z D Ln N K
          obtain ⟨h1, e1, K1, O1⟩ := K.tw (w := 0) (by decide)
          obtain ⟨h2, S2, V2, e2, K2, O2⟩ := K1.hear (t := t) (i := i) (by omega) hi a3
          have g16' : gO h1 (.ref 0) 11 16 = some 92 := gO_of (ltE (by decide)) (K1.1.1.1 0 rfl) rfl
          refine ⟨_, h2, 0, 0, rfl, ?_, S2, V2, Z, D, Ln, K2, Oa.of (O1.trans O2), Gr.refl, Ct.z⟩
          apply wC_of
          rw [c1]
          unfold s_X11_told_44
          rw [if_neg (by decide), c2, Option.bind_some, kO_un c3, cI_of c4, decide_eq_false (fun z => z u), if_pos (by decide), e1, Option.bind_some, g16', Option.bind_some, kO_of (ltE (by decide)) (K1.1.1.1 92 rfl), cN_of e2]
          rfl
        · obtain ⟨r1, r2, r3⟩ := ref h h1 t2 S wd th f nv V Z B W G e1 R1
          obtain ⟨h2, h3, V3, e2, g61, e3, R3, O3⟩ := R1.hear (t := t) (i := i) (by omega) k30 hi a3
          obtain ⟨h4, S4, e4, R4, O4⟩ := R3.granted
          refine ⟨_, h4, rfl, ?_, R4.rt, (Rf.ou O3).trans (Rf.ou O4)⟩
          rw [r1, if_pos u, r2, Option.bind_some, r3, Option.bind_some, e2, Option.bind_some, g61, Option.bind_some, e3, Option.bind_some, R3.k0, cI_of e4]
          rfl
      · refine ⟨fun a => a = 0, qTw γ 5, τ, one_x, cT1.ref (by decide) fun h h1 S V Z D Ln N K e1 => ?_, rT1.denied (w := 5) fun h h1 h2 t2 S wd th f nv V Z B W G e1 R1 e2 => ?_⟩
        · obtain ⟨c1, c2, c3, c4⟩ := cls h S V Z D Ln N K
          apply wC_of
          rw [c1]
          unfold s_X11_told_44
          rw [if_neg (by decide), c2, Option.bind_some, kO_un c3, cI_of c4, decide_eq_true u, if_neg (by decide), e1, Option.bind_some]
          rfl
        · obtain ⟨r1, r2, r3⟩ := ref h h1 t2 S wd th f nv V Z B W G e1 R1
          rw [r1, if_neg u, R1.k0, cI_of e2]
          rfl
    · refine ⟨fun a => a = 0, qTw γ 1, τ, one_x, cT1.ref (by decide) fun h h1 S V Z D Ln N K e1 => ?_, rT1.denied (w := 1) fun h h1 h2 t2 S wd th f nv V Z B W G e1 R1 e2 => ?_⟩
      · have g16 : gO h (.ref 0) 11 16 = some 92 := gO_of (ltE (by decide)) (K.1.1.1 0 rfl) rfl
        have g4 : gI h (.ref 92) 9 4 = some (jI (uK τ)) := by rw [← K.2.2.2.2.2.2.2.2.1.2.1]; exact gI_of (ltE (by decide)) (K.1.1.1 92 rfl) rfl
        have l4 : ldI .int h (.ref 4) 4 = some (jI (uM τ 4)) := K.ldm (k := 4) (by decide)
        apply wC_of
        unfold s_X11_told
        rw [K.g2, Option.bind_some, if_neg (by decide)]
        by_cases z1 : a1 < 0
        · rw [if_pos z1, told_no e1]
        · rw [if_neg z1, g16, Option.bind_some, g4, Option.bind_some]
          by_cases z2 : jI (uK τ) < a1
          · rw [if_pos z2, told_no e1]
          · rw [if_neg z2]
            by_cases z3 : a2 < 0
            · rw [if_pos z3, told_no e1]
            · have z4 : jI (uM τ 4) ≤ a2 := by
                rcases gd with (y | y) | (y | y)
                · exact absurd y z1
                · exact absurd (lt_of_le1 (by omega) y) z2
                · exact absurd y z3
                · exact y
              rw [if_neg z3, K.g7, Option.bind_some, K.mn, Option.bind_some, l4, Option.bind_some, if_pos z4, told_no e1]
      · have tt : s_X14_told_25 104 h1 = some (.inl (some (.int 0)), h2) := by
          unfold s_X14_told_25
          rw [R1.k0, cI_of e2]
          rfl
        have g59 : gI h1 (.ref 104) 14 59 = some (jI (uK τ)) := by rw [← R1.2.2.2.2.2.2.2.2.2.2.2.1]; exact R1.1.1.gS rfl
        unfold s_X14_told
        rw [e1, Option.bind_some, R1.k0]
        rcases in_or a2 (show uM τ 4 < 2147483648 by omega) with ⟨i, hi, rfl⟩ | y
        · have z1 : a1 < 0 ∨ jI (uK τ + 1) ≤ a1 := by
            rcases gd with y | y
            · exact y
            · exact absurd rfl (fun e => isCell_ne y (by omega) hi e)
          have z2 : a1 < 0 ∨ jI (uK τ) < a1 := by
            rcases z1 with z | z
            · exact Or.inl z
            · exact Or.inr (lt_of_le1 (by omega) z)
          rw [cI_of (isSight_in R1 hi), if_neg (by decide), g59, Option.bind_some, cI_of (inR_spanN z2 h1), if_pos rfl, tt]
        · rw [cI_of (isSight_out R1 y), if_pos rfl, tt]
