/-! the reference reads a wish -/
theorem gW_ref {h : aH} {a ci k x : Nat} {fs : List Value} (ha : a < aE) (hc : h[a]? = some (.inr (ci, fs))) (hk : fs[k]? = some (.ref x)) : gW h (.ref a) ci k = some (.ref x) := by
  simp [gW, gF_of ha hc, hk]
theorem gW_null {h : aH} {a ci k : Nat} {fs : List Value} (ha : a < aE) (hc : h[a]? = some (.inr (ci, fs))) (hk : fs[k]? = some .null) : gW h (.ref a) ci k = some .null := by
  simp [gW, gF_of ha hc, hk]
section
variable {h : aH} {S : Nat → Int32} {wd : Int64} {fv nv : Value} {t : Nat} {V : Nat → Nat → Int32} {Z : Nat → Nat → Int64} {B : Nat → Nat → Int32} {W : Nat → Int64} {G : Nat → Nat} {T : Nat → Nat} {n : Nat} {m : Nat → Nat} {nm : Nat → List Nat}
/-- the scalars once a text was read -/
def aftS (S S' : Nat → Int32) (tr wh fa fr : Int32) : Prop := S' 1 = tr ∧ S' 2 = wh ∧ S' 3 = fa ∧ S' 9 = 0 ∧ S' 25 = fr ∧ ∀ j, j ≠ 1 → j ≠ 2 → j ≠ 3 → j ≠ 25 → (j < 9 ∨ 17 < j) → S' j = S j
/-- the end of a wish's text -/
theorem rd143_at {k : Nat} {S0 : Nat → Int32} {Bw : Nat → Nat → Int32} {Ww : Nat → Int64} {Gw : Nat → Nat} (X : RPw h S wd (.ref t) fv 120 V Z T n k) (HT : isT h 120 Bw Ww Gw) (s3 : S 3 = 0) (s9 : S 9 = 0) (k0 : ∀ j, j ≠ 1 → j ≠ 2 → j ≠ 3 → (j < 9 ∨ 17 < j) → S j = S0 j) :
    ((tokS T n k).1 = 0 → ∃ h' S', s_X14_reads_143 104 h = some (.inl (some (.int 0)), h') ∧ RW h' S' wd (.ref t) fv (.ref 120) V Z ∧ aftS S0 S' 0 (-1) 0 0 ∧ FrR 120 h h' ∧ isT h' 120 Bw Ww Gw ∧ shS h') ∧
    ((tokS T n k).1 ≠ 0 → ∃ h' S', s_X14_reads_143 104 h = some (.inl (some (.int (-1))), h') ∧ RW h' S' wd (.ref t) fv (.ref 120) V Z ∧ aftS S0 S' 4 (jI (tokS T n k).2.1) 1 (S0 25) ∧ FrR 120 h h' ∧ isT h' 120 Bw Ww Gw ∧ shS h') := by
  constructor
  · intro q
    have e1 : pZ h (.ref 104) 14 25 0 = pF h (.ref 104) 14 25 (.int 0) := by unfold pZ; rw [if_pos (Or.inl rfl)]
    obtain ⟨h1, p1, X1, l1, o1⟩ := X.1.pSo (i := 25) rfl 0
    obtain ⟨h2, d2, X2, O2⟩ := X1.done 0
    have o2 : ∀ i, i ≠ 104 → h2[i]? = h1[i]? := fun i hi => by
      by_cases q : inR i = true
      · rw [X2.2.1 i q, X1.2.1 i q]
      · by_cases q2 : loR i = true
        · rw [X2.2.2 i q2, X1.2.2 i q2]
        · exact O2.2 i (decide_eq_false (fun z => z.elim hi (fun z => z.elim q q2)))
    have oo : ∀ i, i ≠ 104 → h2[i]? = h[i]? := fun i hi => by rw [o2 i hi, o1 i hi]
    refine ⟨h2, _, ?_, X2, ⟨?_, ?_, ?_, ?_, ?_, fun j j1 j2 j3 j4 j5 => ?_⟩, ⟨by rw [O2.1, l1], fun i i1 _ _ => oo i i1⟩, HT.of (fun i i1 i2 => oo i (by omega)), ?_⟩
    · unfold s_X14_reads_143
      rw [X.s12, Option.bind_some, if_pos (srt_1.mpr q), e1, p1, Option.bind_some, X1.kO, cI_of d2]
    · unfold twS; rw [upd_ne (by decide), upd_eq]
    · unfold twS; rw [upd_eq]
    · rw [twS_20 (by decide) (by decide), upd_ne (by decide)]; exact s3
    · rw [twS_20 (by decide) (by decide), upd_ne (by decide)]; exact s9
    · rw [twS_20 (by decide) (by decide), upd_eq]
    · rw [twS_20 j1 j2, upd_ne j4]; exact k0 j j1 j2 j3 j5
    · obtain ⟨fs, f0, f1⟩ := X.2.2.2.2.2.2.2
      exact ⟨fs, by rw [oo 118 (by decide)]; exact f0, f1⟩
  · intro q
    obtain ⟨h1, e, s9', l9, o9⟩ := stopAt_at X.1 X.2.2.2.2.2.2.2 1 (jI (tokS T n k).2.1)
    have X1 : RW h1 S wd (.ref t) fv (.ref 120) V Z := X.1.of (fun i hi => o9 i (rfC_118 hi))
    obtain ⟨h2, e2, X2, O2⟩ := faulty_at X1 s9'
    have o2 : ∀ i, i ≠ 104 → h2[i]? = h1[i]? := fun i hi => by
      by_cases q : inR i = true
      · rw [X2.2.1 i q, X1.2.1 i q]
      · by_cases q2 : loR i = true
        · rw [X2.2.2 i q2, X1.2.2 i q2]
        · exact O2.2 i (decide_eq_false (fun z => z.elim hi (fun z => z.elim q q2)))
    obtain ⟨fs, f0, f1, -⟩ := s9'
    refine ⟨h2, _, ?_, X2, ⟨?_, ?_, ?_, ?_, ?_, fun j j1 j2 j3 j4 j5 => ?_⟩, ⟨by rw [O2.1, l9], fun i i1 i2 _ => by rw [o2 i i1, o9 i i2]⟩, HT.of (fun i i1 i2 => by rw [o2 i (by omega), o9 i (by omega)]), ⟨fs, by rw [o2 118 (by decide)]; exact f0, f1⟩⟩
    · unfold s_X14_reads_143
      have st : s_X14_stop 104 1 h = some (.inl (some (.ref 118)), h1) := by
        unfold s_X14_stop
        rw [X.1.gS (k := 13) rfl, Option.bind_some, X.2.2.2.2.2.1.1, X.kO, e]
        rfl
      rw [X.s12, Option.bind_some, if_neg (fun z => q (srt_1.mp z)), X.kO, st]
      simp only [cR]
      rw [kO_of (ltE (by decide)) f0, X1.kO, cI_of e2]
    · rw [upd_ne (by decide), upd_eq]
    · rw [upd_eq]
    · rw [upd_ne (by decide), upd_ne (by decide), upd_eq]
    · rw [upd_ne (by decide), upd_ne (by decide), upd_ne (by decide)]; exact s9
    · rw [upd_ne (by decide), upd_ne (by decide), upd_ne (by decide)]; exact k0 25 (by decide) (by decide) (by decide) (by omega)
    · rw [upd_ne j2, upd_ne j1, upd_ne j3]; exact k0 j j1 j2 j3 j5
end
