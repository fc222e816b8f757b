/-! wishes, the class's side: read, and settled -/
section
variable {h h' : aH} {S V : Nat → Nat → Int32} {Z : Nat → Nat → Int64} {D Ln : Nat → Nat} {b : Nat} {N : Nat → Int64} {γ : gSt} {τ : tSt}
theorem KT.fine (K : KT h S V Z D Ln b N γ τ) (X : CW h' (upd2 S 0 (upd (upd (upd (upd (S 0) 1 0) 4 0) 5 (-1)) 3 0)) V Z D Ln b) (P : PSh h') (M : ∀ A0 N0 F0, isM h 3 A0 N0 F0 → isM h' 3 A0 N0 F0) : KT h' (upd2 S 0 (upd (upd (upd (upd (S 0) 1 0) 4 0) 5 (-1)) 3 0)) V Z D Ln b N (qOk γ) τ := by
  obtain ⟨kg, k02, C, kD, ok, ⟨kw, km, kr, ks, km5⟩, kp, kl, ka, kc, kq⟩ := id K
  have C' : CC h' (upd2 S 0 (upd (upd (upd (upd (S 0) 1 0) 4 0) 5 (-1)) 3 0)) V Z D Ln b (uA τ) N (uM τ) (uF τ) := ⟨X, M _ _ _ C.2.1, C.2.2.1, C.2.2.2.1, C.2.2.2.2⟩
  have kg' : KG h' (upd2 S 0 (upd (upd (upd (upd (S 0) 1 0) 4 0) 5 (-1)) 3 0)) V Z D Ln b (qOk γ) := by
    obtain ⟨X0, -, ⟨o1, o2, o3, o4⟩, g1, g3, g4, g5, g6, g7, g8⟩ := kg
    exact ⟨X, P, ⟨o1, Nat.zero_le _, o3, fun _ => rfl⟩, rfl, rfl, rfl, fun z => absurd z (by show ¬ (0 : Int32) = 4; decide), g6, g7, g8⟩
  exact ⟨kg', k02, C', kD, ok, ⟨kw.t rfl rfl rfl rfl rfl, km.t rfl rfl rfl rfl rfl, kr.t rfl rfl rfl, ks.t rfl rfl rfl rfl, km5.t rfl rfl⟩, kp.t rfl rfl rfl rfl rfl, kl.t rfl rfl rfl rfl rfl rfl, ka.t rfl rfl rfl rfl rfl rfl rfl, kc.t rfl rfl rfl, kq.t rfl rfl⟩
theorem FrP.oa {h h' : aH} (O : FrP h h') : Oa D h h' := Oa.fr O.1 (fun i hi => O.2 i (by omega))
/-- no good text: settled -/
theorem KT.sett0 {h2 : aH} (K : KT h S V Z D Ln b N γ τ) (P : PSh h2) {fa pl at' wh per : Int32} {mo fo : Nat} (R : RdW h2 fa pl at' wh per mo fo) (O : FrP h h2) : ∃ h3 S3, s_X11_settled 0 0 h2 = some (.inl (some (.int 0)), h3) ∧ KT h3 S3 V Z D Ln b N (qBd γ pl fa) τ ∧ Oa D h h3 := by
  have X2 := K.1.1.frm O.1 (fun i hi => O.2 i (by omega))
  obtain ⟨h3, e3, X3, O3⟩ := settled_at X2 R (q := 0) (Or.inl rfl)
  rw [if_pos rfl, if_pos rfl, if_pos rfl] at X3
  exact ⟨h3, _, e3, K.bad X3 (P.oc X2 O3) (fun A0 N0 F0 H => (H.of (fun i i1 i2 => O.2 i (by omega))).oc X2 O3 (Or.inl rfl)), O.oa.trans (Oa.of O3)⟩
theorem KT.sett1 {h2 : aH} (K : KT h S V Z D Ln b N γ τ) (P : PSh h2) (O : FrP h h2) : ∃ h3 S3, s_X11_settled 0 1 h2 = some (.inl (some (.int 1)), h3) ∧ KT h3 S3 V Z D Ln b N (qOk γ) τ ∧ Oa D h h3 ∧ CW h2 S V Z D Ln b ∧ Oc D h2 h3 := by
  have X2 := K.1.1.frm O.1 (fun i hi => O.2 i (by omega))
  obtain ⟨⟨fa, pl, at', wh, per, mo, fo, R2⟩, -⟩ := id P
  obtain ⟨h3, e3, X3, O3⟩ := settled_at X2 R2 (q := 1) (Or.inr rfl)
  have n1 : ¬ (1 : Int32) = 0 := by decide
  rw [if_neg n1, if_neg n1, if_neg n1] at X3
  exact ⟨h3, _, e3, K.fine X3 (P.oc X2 O3) (fun A0 N0 F0 H => (H.of (fun i i1 i2 => O.2 i (by omega))).oc X2 O3 (Or.inl rfl)), O.oa.trans (Oa.of O3), X2, O3⟩
/-- both kinds of text -/
theorem KT.test (K : KT h S V Z D Ln b N γ τ) {n : Nat} (hn : n ≤ qP γ) :
    (∀ x, wshT (qT γ) n (thN (uS τ)) (uM τ) = .inl x → ∃ h2 h3 S3, s_X6_readTest 51 1 (jI n) 3 43 h = some (.inl (some (.int 0)), h2) ∧ s_X11_settled 0 0 h2 = some (.inl (some (.int 0)), h3) ∧ KT h3 S3 V Z D Ln b N (qBd γ (jI (tokS (qT γ) n x.2).2.1) (jI x.1)) τ ∧ Oa D h h3 ∧ CW h2 S V Z D Ln b) ∧
    (∀ l, wshT (qT γ) n (thN (uS τ)) (uM τ) = .inr l → ∃ h2 h3 S3, s_X6_readTest 51 1 (jI n) 3 43 h = some (.inl (some (.int 1)), h2) ∧ s_X11_settled 0 1 h2 = some (.inl (some (.int 1)), h3) ∧ KT h3 S3 V Z D Ln b N (qOk γ) τ ∧ Oa D h h3 ∧ CW h2 S V Z D Ln b ∧ wTest h3 l) := by
  obtain ⟨a, c⟩ := readTestC_at K.1.2.2.1.1 (show n ≤ 400 by have := K.1.2.2.1.2.1; omega) K.1.2.1 K.1.tp (cD.nm K.2.2.1.2.1 K.2.2.2.1)
  refine ⟨fun x hx => ?_, fun l hl => ?_⟩
  · obtain ⟨h2, e2, P2, ⟨at', wh, R2⟩, O2⟩ := a x hx
    obtain ⟨h3, S3, e3, K3, O3⟩ := K.sett0 P2 R2 O2
    exact ⟨h2, h3, S3, e2, e3, K3, O3, K.1.1.frm O2.1 (fun i hi => O2.2 i (by omega))⟩
  · obtain ⟨h2, e2, P2, w2, O2⟩ := c l hl
    obtain ⟨h3, S3, e3, K3, O3, X2, O4⟩ := K.sett1 P2 O2
    exact ⟨h2, h3, S3, e2, e3, K3, O3, X2, w2.oc X2 O4⟩
theorem KT.sum (K : KT h S V Z D Ln b N γ τ) {n : Nat} (hn : n ≤ qP γ) :
    (∀ x, wshS (qT γ) n (thN (uS τ)) (uM τ) = .inl x → ∃ h2 h3 S3, s_X6_readSum 51 1 (jI n) 3 43 h = some (.inl (some (.int 0)), h2) ∧ s_X11_settled 0 0 h2 = some (.inl (some (.int 0)), h3) ∧ KT h3 S3 V Z D Ln b N (qBd γ (jI (tokS (qT γ) n x.2).2.1) (jI x.1)) τ ∧ Oa D h h3 ∧ CW h2 S V Z D Ln b) ∧
    (∀ l, wshS (qT γ) n (thN (uS τ)) (uM τ) = .inr l → ∃ h2 h3 S3, s_X6_readSum 51 1 (jI n) 3 43 h = some (.inl (some (.int 1)), h2) ∧ s_X11_settled 0 1 h2 = some (.inl (some (.int 1)), h3) ∧ KT h3 S3 V Z D Ln b N (qOk γ) τ ∧ Oa D h h3 ∧ CW h2 S V Z D Ln b ∧ wSum h3 l) := by
  obtain ⟨a, c⟩ := readSumC_at K.1.2.2.1.1 (show n ≤ 400 by have := K.1.2.2.1.2.1; omega) K.1.2.1 K.1.tp (cD.nm K.2.2.1.2.1 K.2.2.2.1)
  refine ⟨fun x hx => ?_, fun l hl => ?_⟩
  · obtain ⟨h2, e2, P2, ⟨at', wh, R2⟩, O2⟩ := a x hx
    obtain ⟨h3, S3, e3, K3, O3⟩ := K.sett0 P2 R2 O2
    exact ⟨h2, h3, S3, e2, e3, K3, O3, K.1.1.frm O2.1 (fun i hi => O2.2 i (by omega))⟩
  · obtain ⟨h2, e2, P2, w2, O2⟩ := c l hl
    obtain ⟨h3, S3, e3, K3, O3, X2, O4⟩ := K.sett1 P2 O2
    exact ⟨h2, h3, S3, e2, e3, K3, O3, X2, w2.oc X2 O4⟩
end
