/-! calls: good -/
theorem wshT_ok {T : Nat → Nat} {n : Nat} {nm : Nat → List Nat} {m : Nat → Nat} {l : List pOne} (h : wshT T n nm m = .inr l) : l ≠ [] ∧ okOz m l ∧ ∀ a ∈ l, okOB a := by
  unfold wshT at h
  cases e : teP T n nm m 3 31 0 0 with
  | inl x => rw [e] at h; cases h
  | inr x =>
    rw [e] at h
    dsimp only at h
    split at h
    · cases h
      obtain ⟨a, b⟩ := teP_ok _ _ _ _ e
      have z : ∀ l, okFc m 3 l → okLz m l := fun l hl a ha q => by
        obtain ⟨s, s3, ⟨k, k5, k1, k2⟩, e⟩ := hl.2 a ha q
        rw [e, jI_cl (by omega)]
        unfold bsN at k1 k2
        by_cases q0 : k = 0
        · subst q0
          rw [if_pos rfl] at k2
          omega
        · rw [if_neg q0] at k1
          omega
      exact ⟨a, fun o ho => ⟨z _ (b o ho).1, z _ (b o ho).2⟩, fun o ho => ⟨(b o ho).1.1, (b o ho).2.1⟩⟩
    · cases h
theorem wshS_ok {T : Nat → Nat} {n : Nat} {nm : Nat → List Nat} {m : Nat → Nat} {l : List pFa} (h : wshS T n nm m = .inr l) : okB l ∧ okL2 m l := by
  unfold wshS at h
  cases e : suP T n nm m 5 0 0 with
  | inl x => rw [e] at h; cases h
  | inr x =>
    rw [e] at h
    dsimp only at h
    split at h
    · cases h
      obtain ⟨a, b⟩ := suP_ok e
      refine ⟨a, fun o ho q => ?_⟩
      obtain ⟨s, s5, ⟨k, k5, k1, k2⟩, e⟩ := b o ho q
      rw [e, jI_cl (by omega)]
      unfold bsN at k1 k2
      by_cases q0 : k = 0
      · subst q0
        rw [if_pos rfl] at k2
        exact Or.inl (by omega)
      · rw [if_neg q0] at k1 k2
        have : k = 1 := by omega
        subst this
        exact Or.inr (by omega)
    · cases h
theorem forget9_at {h : aH} {S V : Nat → Nat → Int32} {Z : Nat → Nat → Int64} {D Ln : Nat → Nat} {b : Nat} (X : CW h S V Z D Ln b) : ∃ h', s_X9_forget 92 h = some (.inl none, h') ∧ CW h' S (upd2 V 98 (filF (V 98) 0 6 (-1))) Z D Ln b ∧ Oc D h h' := by
  have g2 : gO h (.ref 92) 9 9 = some 98 := gO_of (ltE (by decide)) (X.1 92 rfl) rfl
  obtain ⟨h3, e3, X3, O3⟩ := X.fill (a := 98) (n := 6) rfl rfl (-1)
  refine ⟨h3, ?_, X3, O3⟩
  unfold s_X9_forget
  rw [g2, Option.bind_some, cN_of e3]
section
variable {h : aH} {S V : Nat → Nat → Int32} {Z : Nat → Nat → Int64} {D Ln : Nat → Nat} {b : Nat} {N : Nat → Int64} {γ : gSt} {τ : tSt}
theorem KT.setGood (K : KT h S V Z D Ln b N γ τ) {l : List pOne} (hl : okOz (uM τ) l) (w : wTest h l) : ∃ h1 h2 h3 h4 S' V', s_X10_setGood 60 43 h = some (.inl none, h1) ∧ s_X7_forget 69 h1 = some (.inl none, h2) ∧ s_X4_forget 78 h2 = some (.inl none, h3) ∧ s_X9_forget 92 h3 = some (.inl none, h4) ∧ CW h1 (upd2 S 60 (upd (upd (S 60) 3 (jI (cntB (gdT (uA τ) (uM τ) (uF τ) l) (uF τ 12)))) 7 0)) V' Z D Ln b ∧ KT h4 S' (upd2 V' 98 (filF (V' 98) 0 6 (-1))) Z D Ln b N γ (uSetG τ (gdT (uA τ) (uM τ) (uF τ) l)) ∧ Oc D h h4 ∧ gO h1 (.ref 0) 11 13 = some 69 ∧ gO h2 (.ref 0) 11 14 = some 78 ∧ gO h3 (.ref 0) 11 16 = some 92 ∧ kO h1 69 7 (some ()) = some () ∧ kO h2 78 4 (some ()) = some () ∧ kO h3 92 9 (some ()) = some () ∧ S' 60 3 = jI (cntB (gdT (uA τ) (uM τ) (uF τ) l) (uF τ 12)) := by
  obtain ⟨kg, k02, C, kD, ok, ⟨kw, km, kr, ks, km5⟩, kp, kl, ka, kc, kq⟩ := id K
  obtain ⟨h1, V1, e1, C1, O1, M1, g1⟩ := C.setGood hl w
  obtain ⟨h2, e2, X2, O2⟩ := forget7_at C1.1
  obtain ⟨h3, e3, X3, O3⟩ := forget4_at X2
  obtain ⟨h4, e4, X4, O4⟩ := forget9_at X3
  have C4 := ((C1.to X2 O2 rfl).to X3 O3 rfl).to X4 O4 rfl
  have O : Oc D h h4 := ((O1.trans O2).trans O3).trans O4
  have fi : ∀ (g : Nat → Int32) (k j : Nat), j < k → filF g 0 k (-1) j = -1 := fun g k j hj => if_pos ⟨Nat.zero_le _, hj⟩
  have kg' := kg.t X4 (kg.2.1.oc C.1 O) rfl (show (upd2 V1 98 (filF (V1 98) 0 6 (-1))) 1 = V 1 by rw [upd2_ne (by decide), M1 1 (by decide)]) rfl rfl rfl
  have v : ∀ k, k ≠ 98 → k ≠ 61 → k ≠ 62 → (upd2 V1 98 (filF (V1 98) 0 6 (-1))) k = V k := fun k a b c => by rw [upd2_ne a, M1 k (by simp [b, c])]
  obtain ⟨ok1, ok2, ok3, ok4, ok5, ok6, ok7⟩ := ok
  obtain ⟨a1, a2, a3, a4, a5, a6⟩ := ka
  refine ⟨h1, h2, h3, h4, _, V1, e1, e2, e3, e4, C1.1, ⟨kg', k02, C4, kD, ⟨fun c hc => ?_, ok2, ok3, ok4, ok5, ok6, ok7⟩, ⟨⟨?_, ?_, rfl, ?_, kw.2.2.2.2⟩, km.t (v 58 (by decide) (by decide) (by decide)) (v 59 (by decide) (by decide) (by decide)) rfl rfl rfl, ⟨Or.inl rfl, fun z => absurd z (by show ¬ (0 : Int32) = 1; decide)⟩, ⟨Or.inl rfl, fun z => absurd z (by show ¬ (0 : Int32) = 1; decide)⟩, Or.inl rfl, fun z => absurd z (by show ¬ (0 : Int32) = 1; decide)⟩, ⟨0, Nat.zero_le _, (show (-1 : Int32) + 1 = jI 0 by decide), fun z => absurd z (Nat.lt_irrefl _), fun k d _ z => absurd z (by omega)⟩, kl.t (v 82 (by decide) (by decide) (by decide)) (v 83 (by decide) (by decide) (by decide)) (v 84 (by decide) (by decide) (by decide)) rfl rfl rfl, ⟨a1, a2, a3, ?_, ?_, fun lane hl => ⟨0, ?_, Nat.zero_le _, fun z => absurd z (Nat.lt_irrefl _), fun e he => absurd he (Nat.not_lt_zero _)⟩⟩, kc.t (v 101 (by decide) (by decide) (by decide)) rfl rfl, kq.t (v 102 (by decide) (by decide) (by decide)) rfl⟩, O, gO_of (ltE (by decide)) (C1.1.1 0 rfl) rfl, gO_of (ltE (by decide)) (X2.1 0 rfl) rfl, gO_of (ltE (by decide)) (X3.1 0 rfl) rfl, kO_of (ltE (by decide)) (C1.1.1 69 rfl), kO_of (ltE (by decide)) (X2.1 78 rfl), kO_of (ltE (by decide)) (X3.1 92 rfl), rfl⟩
  · show (decide (c < uF τ 12) && _) = false
    have hc' : uF τ 12 ≤ c := hc
    rw [decide_eq_false (Nat.not_lt.mpr hc')]
    rfl
  · show gdC _ (gdT (uA τ) (uM τ) (uF τ) l)
    unfold gdC
    rw [upd2_ne (by decide)]
    exact g1
  · show glC _ (uL τ)
    unfold glC
    rw [v 63 (by decide) (by decide) (by decide)]
    exact kw.2.1
  · show csC _ (uF τ) (uC τ)
    unfold csC
    rw [v 64 (by decide) (by decide) (by decide)]
    exact kw.2.2.2.1
  · rw [v 94 (by decide) (by decide) (by decide)]
    exact a4
  · show okTl _ (uT τ) (uV τ)
    exact a5.sm (v 96 (by decide) (by decide) (by decide)) (v 95 (by decide) (by decide) (by decide))
  · rw [upd2_eq, fi _ 6 lane (by omega)]
    rfl
end
