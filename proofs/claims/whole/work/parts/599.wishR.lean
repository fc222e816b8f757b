/-! wishes, the reference's side -/
section
variable {h h' : aH} {t2 : Nat} {γ γ' : gSt} {τ : tSt} {S S' : Nat → Int32} {wd wd' : Int64} {t f : Nat} {tv fv nv nv' : Value} {V V' : Nat → Nat → Int32} {Z : Nat → Nat → Int64} {B : Nat → Nat → Int32} {W : Nat → Int64} {G : Nat → Nat}
theorem RTx.wsh (R : RTx h t2 γ τ S wd t f nv V Z B W G) {tr w fa fr : Int32} (X : RW h' S' wd' (.ref t) (.ref f) nv' V Z) (aS : aftS S S' tr w fa fr) (O1 : FrR 120 h h') (T2 : ∃ B W G, isT h' 120 B W G) (P : shS h') (hfr : fr = S 25 ∨ fr = 0) (hγ : γ' = (qT γ, 0, tr, w, fa, qN γ, qA γ, qB γ)) : RTx h' t2 γ' τ S' wd' t f nv' V Z B W G := by
  obtain ⟨g, tp, C, ⟨Bf, Wf, Gf, Tf⟩, d, l, gd, gl, cs, f1, f2, k1, k2, tr', cl, cn, cd⟩ := R
  obtain ⟨t1, t22, t3, t4, -⟩ := tp.ff
  have O : Fq 120 h h' := Fq.rr O1
  have hf : f = 105 ∨ 183 < f := by obtain ⟨a, b, c⟩ := tp; omega
  have ht : t = 105 ∨ 183 < t := by obtain ⟨a, b, c⟩ := tp; omega
  obtain ⟨a1, a2, a3, a9, a25, aj⟩ := aS
  have s : ∀ j, j ≠ 1 → j ≠ 2 → j ≠ 3 → j ≠ 25 → 17 < j → S' j = S j := fun j j1 j2 j3 j4 j5 => aj j j1 j2 j3 j4 (Or.inr j5)
  have C' : RC h' S' wd' t (.ref f) nv' V Z (uA τ) (uM τ) (uF τ) B W G := by
    obtain ⟨-, c2, c3, c4, c5, c6, s0, s1, s2, s3⟩ := C
    exact ⟨X, c2.fq O t3 (by omega), c3, c4, c5, c6, (s 20 (by decide) (by decide) (by decide) (by decide) (by decide)).trans s0, (s 21 (by decide) (by decide) (by decide) (by decide) (by decide)).trans s1, (s 22 (by decide) (by decide) (by decide) (by decide) (by decide)).trans s2, (s 23 (by decide) (by decide) (by decide) (by decide) (by decide)).trans s3⟩
  have g' : RG h' S' wd' (.ref t) (.ref f) nv' V Z γ' := by
    obtain ⟨-, x2, x3, x4, x5, x6, x7, x8, x9, -, B2, W2, G2, x11⟩ := g
    subst hγ
    exact ⟨X, P, x3, a9, a1, a2, a3, (s 56 (by decide) (by decide) (by decide) (by decide) (by decide)).trans x8, x9, T2, B2, W2, G2, x11.fq O (by unfold okt; omega) (by omega)⟩
  refine ⟨g', tp, C', ⟨Bf, Wf, Gf, Tf.fq O t1 (by omega)⟩, d, l, gd, gl, ?_, ?_, ?_, (s 59 (by decide) (by decide) (by decide) (by decide) (by decide)).trans k1, k2, tr', cl, (s 32 (by decide) (by decide) (by decide) (by decide) (by decide)).trans cn, cd.1, (s 67 (by decide) (by decide) (by decide) (by decide) (by decide)).trans cd.2.1, (s 68 (by decide) (by decide) (by decide) (by decide) (by decide)).trans cd.2.2⟩
  · have s24 := s 24 (by decide) (by decide) (by decide) (by decide) (by decide)
    rcases cs with ⟨z, e⟩ | ⟨Bc, Wc, Gc, l, k, h1, h2⟩
    · exact Or.inl ⟨s24.trans z, e⟩
    · exact Or.inr ⟨Bc, Wc, Gc, l, k, h1.fq O (by unfold okt; omega) (by omega), by rw [s24]; exact h2⟩
  · rw [a25]
    rcases hfr with z | z
    · rw [z]; exact f1
    · exact Or.inl z
  · rw [a25]
    intro q
    rcases hfr with z | z
    · exact f2 (z ▸ q)
    · rw [z] at q
      exact absurd q (by decide)
theorem RTx.test (R : RTx h t2 γ τ S wd t f nv V Z B W G) (oT : okTp (qT γ)) (o4 : qP γ ≤ 400) {n : Nat} (hn : n ≤ qP γ) :
    (∀ x, wshT (qT γ) n (thN (uS τ)) (uM τ) = .inl x → ∃ h', s_X14_reads 104 (jI n) 1 h = some (.inl (some (.int (-1))), h') ∧ RT h' t2 (qBd γ (jI (tokS (qT γ) n x.2).2.1) (jI x.1)) τ ∧ Rf t2 h h') ∧
    (∀ l, wshT (qT γ) n (thN (uS τ)) (uM τ) = .inr l → ∃ h' S' wd', s_X14_reads 104 (jI n) 1 h = some (.inl (some (.int 0)), h') ∧ RTx h' t2 (qOk γ) τ S' wd' t f (.ref 120) V Z B W G ∧ S' 25 = 0 ∧ Rf t2 h h' ∧ rTest h' l) := by
  have ht : t = 105 ∨ 183 < t := by obtain ⟨a, b, c⟩ := R.2.1; omega
  obtain ⟨B1, W1, G1, T1⟩ := R.1.2.2.2.2.2.2.2.2.2.1
  obtain ⟨a, c⟩ := readsT_at R.1.1 R.2.2.1.2.1 T1 (by omega) R.1.2.1 R.1.2.2.1 oT (rD.nm R.2.2.2.2.1) R.1.2.2.2.1 hn o4
  refine ⟨fun x hx => ?_, fun l hl => ?_⟩
  · obtain ⟨h1, S1, wd1, e1, X1, aS, O1, T2, P⟩ := a x hx
    exact ⟨h1, e1, (R.wsh X1 aS O1 T2 P (Or.inl rfl) rfl).rt, Rf.fq (Fq.rr O1) R.2.1.lt (Or.inr (Or.inl rfl))⟩
  · obtain ⟨h1, S1, wd1, e1, X1, aS, O1, rT, P⟩ := c l hl
    have T2 : ∃ B W G, isT h1 120 B W G := by
      obtain ⟨B, W, G, q, -⟩ := rT
      exact ⟨B, W, G, q⟩
    exact ⟨h1, S1, wd1, e1, R.wsh X1 aS O1 T2 P (Or.inr rfl) rfl, aS.2.2.2.2.1, Rf.fq (Fq.rr O1) R.2.1.lt (Or.inr (Or.inl rfl)), rT⟩
theorem RTx.sum (R : RTx h t2 γ τ S wd t f nv V Z B W G) (oT : okTp (qT γ)) (o4 : qP γ ≤ 400) {n : Nat} (hn : n ≤ qP γ) :
    (∀ x, wshS (qT γ) n (thN (uS τ)) (uM τ) = .inl x → ∃ h', s_X14_reads 104 (jI n) 0 h = some (.inl (some (.int (-1))), h') ∧ RT h' t2 (qBd γ (jI (tokS (qT γ) n x.2).2.1) (jI x.1)) τ ∧ Rf t2 h h') ∧
    (∀ l, wshS (qT γ) n (thN (uS τ)) (uM τ) = .inr l → ∃ h' S' wd', s_X14_reads 104 (jI n) 0 h = some (.inl (some (.int 0)), h') ∧ RTx h' t2 (qOk γ) τ S' wd' t f (.ref 120) V Z B W G ∧ S' 25 = 0 ∧ Rf t2 h h' ∧ rSum h' l) := by
  have ht : t = 105 ∨ 183 < t := by obtain ⟨a, b, c⟩ := R.2.1; omega
  obtain ⟨B1, W1, G1, T1⟩ := R.1.2.2.2.2.2.2.2.2.2.1
  obtain ⟨a, c⟩ := readsS_at R.1.1 R.2.2.1.2.1 T1 (by omega) R.1.2.1 R.1.2.2.1 oT (rD.nm R.2.2.2.2.1) R.1.2.2.2.1 hn o4
  refine ⟨fun x hx => ?_, fun l hl => ?_⟩
  · obtain ⟨h1, S1, wd1, e1, X1, aS, O1, T2, P⟩ := a x hx
    exact ⟨h1, e1, (R.wsh X1 aS O1 T2 P (Or.inl rfl) rfl).rt, Rf.fq (Fq.rr O1) R.2.1.lt (Or.inr (Or.inl rfl))⟩
  · obtain ⟨h1, S1, wd1, e1, X1, aS, O1, rT, P⟩ := c l hl
    have T2 : ∃ B W G, isT h1 120 B W G := by
      obtain ⟨B, W, G, q, -⟩ := rT
      exact ⟨B, W, G, q⟩
    exact ⟨h1, S1, wd1, e1, R.wsh X1 aS O1 T2 P (Or.inr rfl) rfl, aS.2.2.2.2.1, Rf.fq (Fq.rr O1) R.2.1.lt (Or.inr (Or.inl rfl)), rT⟩
/-- marks -/
theorem RTx.setG (R : RTx h t2 γ τ S wd t f nv V Z B W G) (f0 : S 25 = 0) {g : Nat → Bool} (C : RC h' S wd t (.ref f) nv V' Z (uA τ) (uM τ) (uF τ) B W G) (O : Ou h h') (M : Sm [148, 149, 146] V V') (hg : ∀ d, d < uF τ 12 → V' 146 d = b01 (g d)) : RTx h' t2 γ (uSetG τ g) S wd t f nv V' Z B W G := by
  obtain ⟨gg, tp, -, ⟨Bf, Wf, Gf, Tf⟩, d, l, gd, gl, cs, f1, f2, k1, k2, tr, cl, cn, cd⟩ := R
  refine ⟨gg.t C.1 O (M 119 (by decide)) rfl rfl (fun j hj => rfl), tp, C, ⟨Bf, Wf, Gf, Tf.ou O tp.ok.2.1⟩, d, l.sm (M 151 (by decide)), hg, ?_, cs.ou O, f1, fun z => absurd (f0.symm.trans z) (by decide), k1, ?_, tr.sm (M 177 (by decide)) (M 176 (by decide)), ?_, cn, ?_⟩
  · show glR V' (uF τ 12) (uL τ)
    unfold glR
    rw [M 147 (by decide)]
    exact gl
  · rw [M 175 (by decide)]
    exact k2
  · rw [M 150 (by decide)]
    exact cl
  · obtain ⟨d1, d2, d3⟩ := cd
    exact ⟨by rw [M 181 (by decide)]; exact d1, d2, d3⟩
theorem RTx.setL (R : RTx h t2 γ τ S wd t f nv V Z B W G) (f0 : S 25 = 0) {g : Nat → Bool} (C : RC h' S wd t (.ref f) nv V' Z (uA τ) (uM τ) (uF τ) B W G) (O : Ou h h') (M : Sm [148, 149, 147] V V') (hg : ∀ d, d < uF τ 12 → V' 147 d = b01 (g d)) : RTx h' t2 γ (uSetL τ g) S wd t f nv V' Z B W G := by
  obtain ⟨gg, tp, -, ⟨Bf, Wf, Gf, Tf⟩, d, l, gd, gl, cs, f1, f2, k1, k2, tr, cl, cn, cd⟩ := R
  refine ⟨gg.t C.1 O (M 119 (by decide)) rfl rfl (fun j hj => rfl), tp, C, ⟨Bf, Wf, Gf, Tf.ou O tp.ok.2.1⟩, d, l.sm (M 151 (by decide)), ?_, hg, cs.ou O, f1, fun z => absurd (f0.symm.trans z) (by decide), k1, ?_, tr.sm (M 177 (by decide)) (M 176 (by decide)), ?_, cn, ?_⟩
  · show gdR V' (uF τ 12) (uG τ)
    unfold gdR
    rw [M 146 (by decide)]
    exact gd
  · rw [M 175 (by decide)]
    exact k2
  · rw [M 150 (by decide)]
    exact cl
  · obtain ⟨d1, d2, d3⟩ := cd
    exact ⟨by rw [M 181 (by decide)]; exact d1, d2, d3⟩
end
