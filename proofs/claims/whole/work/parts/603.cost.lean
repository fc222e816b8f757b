/-! calls: cost, the reference copies what was read -/
def Fc (h h' : aH) : Prop := h'.length = h.length ∧ ∀ i, rfC i = false → (i < 133 ∨ 145 < i) → h'[i]? = h[i]?
theorem Fc.trans {h1 h2 h3 : aH} (p : Fc h1 h2) (q : Fc h2 h3) : Fc h1 h3 := ⟨q.1.trans p.1, fun k a b => (q.2 k a b).trans (p.2 k a b)⟩
theorem Fc.ou {h h' : aH} (O : Ou h h') : Fc h h' := ⟨O.1, fun k a _ => O.2 k a⟩
theorem Fc.row {h h' : aH} {k : Nat} (hk : k = 11 ∨ k = 12) (e : h'.length = h.length) (f : ∀ i, i ≠ 133 + k → h'[i]? = h[i]?) : Fc h h' := ⟨e, fun i _ b => f i (by omega)⟩
theorem Fc.fq {h h' : aH} (O : Fc h h') : Fq 133 h h' := ⟨O.1, fun k a _ c => O.2 k a (by omega)⟩
section
variable {wd : Int64} {tv fv nv : Value} {V : Nat → Nat → Int32} {Z : Nat → Nat → Int64} {B : Nat → Nat → Int32} {W : Nat → Int64} {G : Nat → Nat} {Wc : Nat → Int64} {Gc : Nat → Nat} {S : Nat → Int32}
theorem RW.row133 {h h' : aH} (X : RW h S wd tv fv nv V Z) {k : Nat} (hk : k = 11 ∨ k = 12) (f : ∀ i, i ≠ 133 + k → h'[i]? = h[i]?) : RW h' S wd tv fv nv V Z := X.of fun i hi => f i (fun e => by
  rcases hk with rfl | rfl
  · rw [e] at hi
    exact absurd hi (by decide)
  · rw [e] at hi
    exact absurd hi (by decide))
theorem cost21_go {k : Nat} (hk : k ≤ 400) (gk : G 7 = k) : ∀ (n j f : Nat) (h : aH) (Bc : Nat → Nat → Int32), j + n = k → n < f → RW h S wd tv fv nv V Z → isT h 120 B W G → isT h 133 Bc Wc Gc → (∀ i, i < j → Bc 11 i = B 11 i ∧ Bc 12 i = B 12 i) →
    ∃ h' Bc', s_X14_cost_21 f 104 (jI j) h = some (.inl (some (.int 0)), h') ∧ RW h' (upd S 24 (jI k)) wd tv fv nv V Z ∧ isT h' 133 Bc' Wc Gc ∧ isT h' 120 B W G ∧ (∀ i, i < k → Bc' 11 i = B 11 i ∧ Bc' 12 i = B 12 i) ∧ Fc h h'
  | _, _, 0, _, _, _, hf, _, _, _, _ => absurd hf (Nat.not_lt_zero _)
  | 0, j, f + 1, h, Bc, hj, _, X, T, Tc, ag => by
    have hj : j = k := by omega
    subst hj
    obtain ⟨h1, e1, X1, O1⟩ := X.pS (k := 24) rfl (jI j)
    have g19 : gO h (.ref 104) 14 19 = some 120 := gO_of (ltE (by decide)) X.1 rfl
    have g7 : gI h (.ref 120) 13 7 = some (jI (G 7)) := gI_of (ltE (by decide)) T.2.1 rfl
    rw [gk] at g7
    refine ⟨h1, Bc, ?_, X1, Tc.ou O1 (Or.inr (Or.inr (Or.inl rfl))), T.ou O1 (Or.inr (Or.inl rfl)), ag, Fc.ou O1⟩
    show s_X14_cost_21_b (s_X14_cost_21 f) 104 (jI j) h = _
    unfold s_X14_cost_21_b
    rw [g19, Option.bind_some, g7, Option.bind_some, if_pos ((jI_le (by omega) (by omega)).mpr (Nat.le_refl j)), Option.bind_some, g7, Option.bind_some, e1, Option.bind_some]
  | n + 1, j, f + 1, h, Bc, hj, hf, X, T, Tc, ag => by
    have g19 : gO h (.ref 104) 14 19 = some 120 := gO_of (ltE (by decide)) X.1 rfl
    have g26 : gO h (.ref 104) 14 26 = some 133 := gO_of (ltE (by decide)) X.1 rfl
    have g7 : gI h (.ref 120) 13 7 = some (jI (G 7)) := gI_of (ltE (by decide)) T.2.1 rfl
    rw [gk] at g7
    have c12 : gO h (.ref 133) 13 12 = some 144 := gO_of (ltE (by decide)) Tc.2.1 rfl
    have t12 : gO h (.ref 120) 13 12 = some 131 := gO_of (ltE (by decide)) T.2.1 rfl
    have l1 : ldI .int h (.ref 131) (jI j) = some (B 11 j) := T.ld (k := 11) (by decide) (by decide) (by decide) (show j < 400 by omega)
    obtain ⟨h1, e1, Tc1, q1, f1⟩ := Tc.row (k := 11) (j := j) (x := B 11 j) (by decide) (by decide) (by decide) (show j < 400 by omega)
    have X1 := X.row133 (k := 11) (Or.inl rfl) f1
    have T1 : isT h1 120 B W G := T.of (fun i i1 i2 => f1 i (by omega))
    have g26' : gO h1 (.ref 104) 14 26 = some 133 := gO_of (ltE (by decide)) X1.1 rfl
    have g19' : gO h1 (.ref 104) 14 19 = some 120 := gO_of (ltE (by decide)) X1.1 rfl
    have c13 : gO h1 (.ref 133) 13 13 = some 145 := gO_of (ltE (by decide)) Tc1.2.1 rfl
    have t13 : gO h1 (.ref 120) 13 13 = some 132 := gO_of (ltE (by decide)) T1.2.1 rfl
    have l2 : ldI .int h1 (.ref 132) (jI j) = some (B 12 j) := T1.ld (k := 12) (by decide) (by decide) (by decide) (show j < 400 by omega)
    obtain ⟨h2, e2, Tc2, q2, f2⟩ := Tc1.row (k := 12) (j := j) (x := B 12 j) (by decide) (by decide) (by decide) (show j < 400 by omega)
    have X2 := X1.row133 (k := 12) (Or.inr rfl) f2
    have T2 : isT h2 120 B W G := T1.of (fun i i1 i2 => f2 i (by omega))
    obtain ⟨h3, Bc3, e3, X3, Tc3, T3, ag3, F3⟩ := cost21_go hk gk n (j + 1) f h2 _ (by omega) (by omega) X2 T2 Tc2 (fun i hi => by
      rw [upd2_ne (show 11 ≠ 12 by decide), upd2_eq, upd2_eq, upd2_ne (show 12 ≠ 11 by decide)]
      by_cases q : i = j
      · subst q
        rw [upd_eq, upd_eq]
        exact ⟨rfl, rfl⟩
      · rw [upd_ne q, upd_ne q]
        exact ag i (by omega))
    refine ⟨h3, Bc3, ?_, X3, Tc3, T3, ag3, ((Fc.row (Or.inl rfl) q1 f1).trans (Fc.row (Or.inr rfl) q2 f2)).trans F3⟩
    have e1' : stI h (.ref 144) (jI j) (B 11 j) = some h1 := e1
    have e2' : stI h1 (.ref 145) (jI j) (B 12 j) = some h2 := e2
    show s_X14_cost_21_b (s_X14_cost_21 f) 104 (jI j) h = _
    unfold s_X14_cost_21_b
    rw [g19, Option.bind_some, g7, Option.bind_some, if_neg (fun z => by have := (jI_le (by omega) (by omega)).mp z; omega), g26, Option.bind_some, c12, Option.bind_some, Option.bind_some, t12, Option.bind_some, l1, Option.bind_some, e1', Option.bind_some, g26', Option.bind_some, c13, Option.bind_some, g19', Option.bind_some, t13, Option.bind_some, l2, Option.bind_some, e2', Option.bind_some, jI_inc, e3]
end
section
variable {h h' : aH} {t2 : Nat} {γ : gSt} {τ : tSt} {S : Nat → Int32} {wd : Int64} {t f : Nat} {nv : Value} {V : Nat → Nat → Int32} {Z : Nat → Nat → Int64} {B : Nat → Nat → Int32} {W : Nat → Int64} {G : Nat → Nat}
theorem RTx.setC (R : RTx h t2 γ τ S wd t f nv V Z B W G) (f0 : S 25 = 0) {cs : Nat → Nat → Int32} {x : Int32} (X : RW h' (upd S 24 x) wd (.ref t) (.ref f) nv V Z) (O : Fc h h') (T2 : ∃ B W G, isT h' 120 B W G) (T3 : ∃ B W G, isT h' 133 B W G) (hc : okCs h' (upd S 24 x) (uA τ) (uM τ) cs) : RTx h' t2 γ (uSetC τ cs) (upd S 24 x) wd t f nv V Z B W G := by
  obtain ⟨g, tp, C, ⟨Bf, Wf, Gf, Tf⟩, d, l, gd, gl, -, f1, f2, k1, k2, tr', cl, cn, cd⟩ := R
  obtain ⟨t1, t22, t3, t4, -⟩ := tp.ff
  have hf : f = 105 ∨ 183 < f := by obtain ⟨a, b, c⟩ := tp; omega
  have ht : t = 105 ∨ 183 < t := by obtain ⟨a, b, c⟩ := tp; omega
  have C' : RC h' (upd S 24 x) wd t (.ref f) nv V Z (uA τ) (uM τ) (uF τ) B W G := by
    obtain ⟨-, c2, c3, c4, c5, c6, s0, s1, s2, s3⟩ := C
    exact ⟨X, c2.fq O.fq t3 (by omega), c3, c4, c5, c6, s0, s1, s2, s3⟩
  have g' : RG h' (upd S 24 x) wd (.ref t) (.ref f) nv V Z γ := by
    obtain ⟨-, x2, x3, x4, x5, x6, x7, x8, x9, -, -⟩ := g
    exact ⟨X, x2.of (O.2 118 (by decide) (by decide)), x3, x4, x5, x6, x7, x8, x9, T2, T3⟩
  exact ⟨g', tp, C', ⟨Bf, Wf, Gf, Tf.fq O.fq t1 (by omega)⟩, d, l, gd, gl, hc, f1, fun z => absurd (f0.symm.trans z) (by decide), k1, k2, tr', cl, cn, cd⟩
end
