/-! one thing: what the class and the reference have read -/
theorem fitB_iff {σ : pTh} (h : fitB σ = true) : 0 < thM σ 0 ∧ prtN (rwL σ) 0 0 (thM σ 0) ≤ 400 ∧ prtN (rwL σ) 0 3 (thM σ 1) ≤ 9 ∧ prtN (rwL σ) 0 5 (thM σ 2) * prtN (rwL σ) 0 7 (thM σ 3) ≤ 27 := by
  unfold fitB at h
  rw [Bool.and_eq_true, Bool.and_eq_true, Bool.and_eq_true] at h
  exact ⟨of_decide_eq_true h.1, of_decide_eq_true h.2.1, of_decide_eq_true h.2.2.1, of_decide_eq_true h.2.2.2⟩
theorem okFc.L {m : Nat → Nat} {l : List pFa} (h : okFc m 9 l) : okL m l := fun a ha h0 => by
  obtain ⟨s, s1, s2, s3⟩ := h.2 a ha h0
  rw [s3, jI_cl (by omega)]
  exact dcl5_4 s2 s1
section
variable {A : Nat → Nat → Int32} {N : Nat → Int64} {F : Nat → Nat} {σ : pTh}
theorem cD.okM (D : cD A N F σ) : okM A (thM σ) F := by
  obtain ⟨d1, d2, d3, d4, d5, d6, d7, d8⟩ := id D
  refine ⟨D.okm, fun k hk => (d1 k hk).1, d4.2.1, by rw [d4.2.2.1]; exact d4.2.2.2.1, by have := d4.2.2.2.2.1; have := d4.2.2.2.1; omega, d5, fun i hi => ?_, fun i hi => ?_, fun i hi => ?_⟩
  · obtain ⟨a, b, c, e1, e2, e3, e4⟩ := d6 i hi
    exact ⟨a, b, c, e1, e2, e3, by have := d4.2.2.2.1; omega⟩
  · rw [d4.1] at hi
    obtain ⟨x, hx⟩ : ∃ x, (thS σ)[i]? = some x := ⟨_, List.getElem?_eq_getElem hi⟩
    obtain ⟨-, -, e3, -, e5, -⟩ := d7 i x hx
    rw [d4.2.2.1]
    exact ⟨e3, e5⟩
  · rw [← d4.2.2.2.2.2] at hi
    obtain ⟨x, hx⟩ : ∃ x, (thG σ)[i]? = some x := ⟨_, List.getElem?_eq_getElem hi⟩
    rw [d4.2.2.1]
    exact (d8 i x hx).1
theorem cD.okW (D : cD A N F σ) (hN : okN A (thM σ) F) : okW A (thM σ) F := by
  obtain ⟨d1, d2, d3, d4, d5, d6, d7, d8⟩ := id D
  refine ⟨D.okM, hN, fun s hs => D.oR hs, fun i hi => ?_, fun i hi => ?_⟩
  · rw [d4.1] at hi
    obtain ⟨x, hx⟩ : ∃ x, (thS σ)[i]? = some x := ⟨_, List.getElem?_eq_getElem hi⟩
    obtain ⟨-, -, -, e4, -, e6, e7, e8⟩ := d7 i x hx
    rw [e4, e6]
    exact ⟨e7.1, fun o ho => ⟨(e8 o ho).1.1, (e8 o ho).2.1⟩⟩
  · rw [← d4.2.2.2.2.2] at hi
    obtain ⟨x, hx⟩ : ∃ x, (thG σ)[i]? = some x := ⟨_, List.getElem?_eq_getElem hi⟩
    obtain ⟨-, e2, e3⟩ := d8 i x hx
    rw [e2]
    exact e3.1
theorem cD.okSt (D : cD A N F σ) : okSt A (thM σ) F := fun i hi => by
  rw [D.2.2.2.1.1] at hi
  obtain ⟨x, hx⟩ : ∃ x, (thS σ)[i]? = some x := ⟨_, List.getElem?_eq_getElem hi⟩
  obtain ⟨e1, e2, -⟩ := D.2.2.2.2.2.2.1 i x hx
  exact ⟨x.1, e2, e1⟩
theorem cD.okC (D : cD A N (meas A (thM σ) F) σ) (hf : fitB σ = true) : okC A (thM σ) (meas A (thM σ) F) := by
  obtain ⟨f0, f1, f2, f3⟩ := fitB_iff hf
  obtain ⟨p0, p1, p2, p3, -⟩ := D.prt
  refine ⟨rfl, rfl, rfl, rfl, ?_, ?_, ?_, f0⟩
  · show prtN A 0 0 (thM σ 0) ≤ 400
    rw [p0]; exact f1
  · show prtN A 0 3 (thM σ 1) ≤ 9
    rw [p1]; exact f2
  · show prtN A 0 5 (thM σ 2) * prtN A 0 7 (thM σ 3) ≤ 27
    rw [p2, p3]; exact f3
theorem one_thing {B : Nat → Nat → Int32} {W : Nat → Int64} {G : Nat → Nat} (D : cD A N F σ) (R : rD B W G σ) (hg : G 7 ≤ 400) : simT A (thM σ) F B G := by
  obtain ⟨d1, d2, d3, d4, d5, d6, d7, d8⟩ := id D
  obtain ⟨r1, r2, r3, r4, r5, r6⟩ := id R
  refine ⟨fun k hk => (r1 k hk).1, fun s hs => ⟨by rw [(r3 s hs).1, (d3 s hs).1], by rw [(r3 s hs).2.1, (d3 s hs).2.1]⟩, by rw [r4.1, d4.1], fun i hi => ?_, fun i hi => ?_⟩
  · rw [d4.1] at hi
    obtain ⟨x, hx⟩ : ∃ x, (thS σ)[i]? = some x := ⟨_, List.getElem?_eq_getElem hi⟩
    obtain ⟨e1, -, -, e4, -, e6, -⟩ := d7 i x hx
    obtain ⟨q1, a, b, c, q2, q3, q4, q5, q6, q7⟩ := r5 i x hx
    exact ⟨by rw [q1, e1], a, b, c, q2, q3, q4, by omega, by rw [e4]; exact q6, by rw [e6]; exact q7⟩
  · rw [← d4.2.2.2.2.2] at hi
    obtain ⟨x, hx⟩ : ∃ x, (thG σ)[i]? = some x := ⟨_, List.getElem?_eq_getElem hi⟩
    obtain ⟨-, e2, -⟩ := d8 i x hx
    obtain ⟨a, b, q1, q2, q3, q4⟩ := r6 i x hx
    exact ⟨a, b, q1, q2, by omega, by rw [e2]; exact q4⟩
end
