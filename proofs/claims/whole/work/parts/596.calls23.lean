/-! calls: thing, the reference's side -/
section
variable {h h' : aH} {t2 : Nat} {γ : gSt} {τ : tSt} {S S' : Nat → Int32} {wd wd' : Int64} {t f : Nat} {tv fv nv nv' : Value} {V V' : Nat → Nat → Int32} {Z : Nat → Nat → Int64} {B : Nat → Nat → Int32} {W : Nat → Int64} {G : Nat → Nat}
theorem thP2.ff {t f t2 : Nat} (H : thP2 t f t2) : okt f ∧ okt2 f ∧ okt t ∧ (t + 12 < f ∨ f + 12 < t) ∧ (f = 105 ∨ f = 120 ∨ f = 133 ∨ f = t2) := by
  obtain ⟨a, b, ⟨rfl, rfl⟩ | ⟨rfl, rfl⟩⟩ := H
  · exact ⟨Or.inr (Or.inr (Or.inr a)), Or.inr (Or.inr ⟨a, b⟩), Or.inl rfl, by omega, by omega⟩
  · exact ⟨Or.inl rfl, Or.inl rfl, Or.inr (Or.inr (Or.inr a)), by omega, by omega⟩
theorem thP2.swap {t f t2 : Nat} (H : thP2 t f t2) : thP2 f t t2 := by
  obtain ⟨a, b, ⟨rfl, rfl⟩ | ⟨rfl, rfl⟩⟩ := H
  · exact ⟨a, b, Or.inr ⟨rfl, rfl⟩⟩
  · exact ⟨a, b, Or.inl ⟨rfl, rfl⟩⟩
theorem isT.fq2 {o : Nat} (H : isT h o B W G) (O : Fq f h h') (hf : f = 105 ∨ 183 < f) (ho : o = 120 ∨ o = 133) : isT h' o B W G := H.fq O (by unfold okt; omega) (by omega)
theorem RG.bad (R : RG h S wd tv fv nv V Z γ) {w fa fr : Int32} (X : RW h' S' wd' tv fv nv' V Z) (aS : aftS (upd S 0 0) S' 4 w fa fr) (O : Fq f h h') (hf : f = 105 ∨ 183 < f) (P : shS h') : RG h' S' wd' tv fv nv' V Z (qBd γ w fa) := by
  obtain ⟨-, x2, x3, x4, x5, x6, x7, x8, x9, ⟨B1, W1, G1, x10⟩, B2, W2, G2, x11⟩ := R
  obtain ⟨a1, a2, a3, a9, a25, aj⟩ := aS
  exact ⟨X, P, x3, a9, a1, a2, a3, (aj 56 (by decide) (by decide) (by decide) (by decide) (by decide)).trans x8, x9, ⟨B1, W1, G1, x10.fq2 O hf (Or.inl rfl)⟩, B2, W2, G2, x11.fq2 O hf (Or.inr rfl)⟩
theorem RTx.bad (R : RTx h t2 γ τ S wd t f nv V Z B W G) {w fa : Int32} (X : RW h' S' wd' (.ref t) (.ref f) nv' V Z) (aS : aftS (upd S 0 0) S' 4 w fa (S 25)) (O : Fq f h h') (Tf : ∃ B W G, isT h' f B W G) (P : shS h') : RTx h' t2 (qBd γ w fa) τ S' wd' t f nv' V Z B W G := by
  obtain ⟨g, tp, C, -, d, l, gd, gl, cs, f1, f2, k1, k2, tr, cl, cn, cd⟩ := R
  obtain ⟨t1, t22, t3, t4, -⟩ := tp.ff
  have hf : f = 105 ∨ 183 < f := by obtain ⟨a, b, c⟩ := tp; omega
  have s : ∀ j, j ≠ 1 → j ≠ 2 → j ≠ 3 → j ≠ 25 → 17 < j → S' j = S j := fun j j1 j2 j3 j4 j5 => (aS.2.2.2.2.2 j j1 j2 j3 j4 (Or.inr j5)).trans (upd_ne (by omega))
  have s25 : S' 25 = S 25 := aS.2.2.2.2.1
  have C' : RC h' S' wd' t (.ref f) nv' V Z (uA τ) (uM τ) (uF τ) B W G := by
    obtain ⟨-, c2, c3, c4, c5, c6, s0, s1, s2, s3⟩ := C
    exact ⟨X, c2.fq O t3 (by omega), c3, c4, c5, c6, (s 20 (by decide) (by decide) (by decide) (by decide) (by decide)).trans s0, (s 21 (by decide) (by decide) (by decide) (by decide) (by decide)).trans s1, (s 22 (by decide) (by decide) (by decide) (by decide) (by decide)).trans s2, (s 23 (by decide) (by decide) (by decide) (by decide) (by decide)).trans s3⟩
  refine ⟨g.bad X aS O hf P, tp, C', Tf, d, l, gd, gl, ?_, by rw [s25]; exact f1, fun z => f2 (s25 ▸ z), (s 59 (by decide) (by decide) (by decide) (by decide) (by decide)).trans k1, k2, tr, cl, (s 32 (by decide) (by decide) (by decide) (by decide) (by decide)).trans cn, cd.1, (s 67 (by decide) (by decide) (by decide) (by decide) (by decide)).trans cd.2.1, (s 68 (by decide) (by decide) (by decide) (by decide) (by decide)).trans cd.2.2⟩
  have s24 := s 24 (by decide) (by decide) (by decide) (by decide) (by decide)
  rcases cs with ⟨z, e⟩ | ⟨Bc, Wc, Gc, l, k, h1, h2⟩
  · exact Or.inl ⟨s24.trans z, e⟩
  · exact Or.inr ⟨Bc, Wc, Gc, l, k, h1.fq2 O hf (Or.inr rfl), by rw [s24]; exact h2⟩
/-- what a thing leaves -/
theorem RG.nw (R : RG h S wd tv fv nv V Z γ) {tv' fv' : Value} {A : Nat → Nat → Int32} {F : Nat → Nat} {σ : pTh} (X : RW h' S' wd' tv' fv' nv' V' Z) (tS : thnS S S') (tV : thnV V V' A (thM σ) F) (O : ∀ o B W G, o = 120 ∨ o = 133 → isT h o B W G → isT h' o B W G) (P : shS h') : RG h' S' wd' tv' fv' nv' V' Z (qOk γ) := by
  obtain ⟨-, x2, x3, x4, x5, x6, x7, x8, x9, ⟨B1, W1, G1, x10⟩, B2, W2, G2, x11⟩ := R
  obtain ⟨⟨a1, a2, a3, a9, a24, a25, a32⟩, a59, a67, a68, a56⟩ := tS
  refine ⟨X, P, ?_, a9, a1, a2, a3, a56.trans x8, x9, ⟨B1, W1, G1, O 120 _ _ _ (Or.inl rfl) x10⟩, B2, W2, G2, O 133 _ _ _ (Or.inr rfl) x11⟩
  unfold TPr
  rw [tV.1 119 (by decide)]
  exact x3
theorem RTx.nw {A : Nat → Nat → Int32} {F : Nat → Nat} {σ : pTh} {tv : Nat → Int32} (g : RG h' S' wd' (.ref t) (.ref f) nv' V' Z γ) (tp : thP2 t f t2) (C : RC h' S' wd' t (.ref f) nv' V' Z A (thM σ) F B W G) (d : rD B W G σ) (Tf : ∃ B W G, isT h' f B W G) (tS : thnS S S') (tV : thnV V V' A (thM σ) F) (h176 : ∀ j, j < 62 → V 176 j = tv j) : RTx h' t2 γ (nwT A F σ tv) S' wd' t f nv' V' Z B W G := by
  obtain ⟨⟨a1, a2, a3, a9, a24, a25, a32⟩, a59, a67, a68, a56⟩ := tS
  obtain ⟨M, l, v181, v177, v3⟩ := tV
  refine ⟨g, tp, C, Tf, d, l, fun c hc => ?_, fun c hc => (v3 c hc).2.1, Or.inl ⟨a24, fun _ _ => rfl⟩, Or.inl a25, fun z => ?_, a59, fun e h1 h2 => absurd (Nat.le_trans h1 h2) (by show ¬ 1 ≤ 0; decide), fun j hj => ⟨v177 j hj, ?_⟩, fun c hc => (v3 c hc).2.2, a32, v181, a67, a68⟩
  · rw [(v3 c hc).1]
    show 1 = b01 (decide (c < F 12))
    have hc' : c < F 12 := hc
    rw [decide_eq_true hc']
    rfl
  · rw [a25] at z
    exact absurd z (by decide)
  · rw [M 176 (by decide)]
    exact h176 j hj
end
/-- the reference's 13 new cells -/
def Nw (h h' : aH) : Prop := h'.length = h.length + 13 ∧ ∀ k, k < h.length → rfC k = false → k ≠ 118 → (k < 105 ∨ 117 < k) → h'[k]? = h[k]?
section
variable {h h' : aH} {S V : Nat → Nat → Int32} {Z : Nat → Nat → Int64} {D Ln : Nat → Nat} {N : Nat → Int64} {γ : gSt} {τ : tSt}
theorem CW.nw (X : CW h S V Z D Ln 184) (O : Nw h h') : CW h' S V Z D Ln 197 := by
  obtain ⟨d1, d2, d3, d4, d5, d6⟩ := X.2.2.2.2
  have lo : ∀ a, a < 104 → h'[a]? = h[a]? := fun a ha => O.2 a (by omega) (rfC_out (Or.inl ha)) (by omega) (by omega)
  refine ⟨fun a ha => ?_, fun k hk => ?_, fun k hk => ?_, fun i hi => ?_, d1, d2, d3, by decide, by rw [O.1]; omega, by rw [O.1]; omega⟩
  · rw [lo a (obC_lt ha).1]
    exact X.1 a ha
  · rw [lo k (inC_lt hk).1]
    exact X.2.1 k hk
  · rw [lo k (loC_lt hk).1]
    exact X.2.2.1 k hk
  · have e := X.2.2.2.1 i hi
    have l := (List.getElem?_eq_some_iff.mp e).1
    have q : D i < 104 ∨ 183 < D i := by
      rcases d1 i hi with ⟨z, -⟩ | z
      · left
        rw [z]
        exact (dyC_lt hi).1
      · exact Or.inr z
    rw [O.2 (D i) l (rfC_out q) (by omega) (by omega)]
    exact e
theorem KT.nw (K : KT h S V Z D Ln 184 N γ τ) (O : Nw h h') : KT h' S V Z D Ln 197 N γ τ := by
  obtain ⟨⟨g1, g2, g3⟩, k2, ⟨c1, c2, c3⟩, k4⟩ := K
  have l := g1.2.2.2.2.2.2.2.2.1
  have lo : ∀ a, a < 104 → h'[a]? = h[a]? := fun a ha => O.2 a (by omega) (rfC_out (Or.inl ha)) (by omega) (by omega)
  exact ⟨⟨g1.nw O, g2.fr (fun i _ i2 => lo i (by omega)), g3⟩, k2, ⟨c1.nw O, c2.of (fun k _ k2 => lo k (by omega)), c3⟩, k4⟩
end
