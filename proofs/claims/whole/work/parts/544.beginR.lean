/-! the reference begins a text -/
theorem cD.okN {A : Nat → Nat → Int32} {N : Nat → Int64} {F : Nat → Nat} {σ : pTh} (D : cD A N F σ) : okN A (thM σ) F := by
  obtain ⟨d1, d2, d3, d4, d5, d6, d7, d8⟩ := id D
  refine ⟨fun i hi => ?_, fun i hi => ?_⟩
  · rw [d4.1] at hi
    obtain ⟨x, hx⟩ : ∃ x, (thS σ)[i]? = some x := ⟨_, List.getElem?_eq_getElem hi⟩
    obtain ⟨-, -, -, e4, -, e6, e7, e8⟩ := d7 i x hx
    rw [e4, e6]
    exact ⟨e7.L, fun o ho => ⟨(e8 o ho).1.L, (e8 o ho).2.L⟩⟩
  · rw [← d4.2.2.2.2.2] at hi
    obtain ⟨x, hx⟩ : ∃ x, (thG σ)[i]? = some x := ⟨_, List.getElem?_eq_getElem hi⟩
    obtain ⟨-, e2, e3⟩ := d8 i x hx
    rw [e2]
    exact e3.L
section
variable {tv fv : Value} {t : Nat} {V : Nat → Nat → Int32} {Z : Nat → Nat → Int64} {T : Nat → Nat} {n : Nat}
theorem clr2_go {W : Nat → Int64} : ∀ (c i f : Nat) (h : aH) (B : Nat → Nat → Int32) (G : Nat → Nat), i + c = 5 → c < f → isT h t B W G → (∀ j, j < i → B 1 j = 0) →
    ∃ h' B', s_X13_clear_2 f t (jI i) h = some (.inl none, h') ∧ isT h' t B' W (upd2 (upd2 G 6 0) 7 0) ∧ (∀ j, j < 5 → B' 1 j = 0) ∧ h'.length = h.length ∧ ∀ i, (i < t ∨ t + 12 < i) → h'[i]? = h[i]?
  | _, _, 0, _, _, _, _, hf, _, _ => by omega
  | 0, i, f + 1, h, B, G, hi, hf, HT, hz => by
    obtain ⟨h1, e1, T1, l1, o1⟩ := HT.num (k := 6) (Or.inl rfl) 0
    obtain ⟨h2, e2, T2, l2, o2⟩ := T1.num (k := 7) (Or.inr rfl) 0
    refine ⟨h2, B, ?_, T2, fun j hj => hz j (by omega), by rw [l2, l1], fun i hi => by rw [o2 i (by omega), o1 i (by omega)]⟩
    have e1' : pF h (.ref t) 13 6 (.int 0) = some h1 := e1
    have e2' : pF h1 (.ref t) 13 7 (.int 0) = some h2 := e2
    show s_X13_clear_2_b (s_X13_clear_2 f) t (jI i) h = _
    unfold s_X13_clear_2_b
    rw [if_pos (show (5 : Int32) ≤ jI i from (jI_le (j := 5) (by omega) (by omega)).mpr (by omega)), e1', Option.bind_some, e2', Option.bind_some]
  | c + 1, i, f + 1, h, B, G, hi, hf, HT, hz => by
    have ht := HT.1
    obtain ⟨h1, e1, T1, l1, o1⟩ := HT.row (k := 1) (j := i) (x := 0) (by decide) (by decide) (by decide) (show i < 5 by omega)
    obtain ⟨h', B', a, b, d, e, g⟩ := clr2_go c (i + 1) f h1 _ G (by omega) (by omega) T1 (fun j hj => by
      rw [upd2_eq]
      by_cases u : j = i
      · rw [u, upd_eq]
      · rw [upd_ne u]; exact hz j (by omega))
    refine ⟨h', B', ?_, b, d, by rw [e, l1], fun i hi => by rw [g i hi, o1 i (by omega)]⟩
    have g0 : gO h (.ref t) 13 0 = some (t + 1) := gO_of (by omega) HT.2.1 rfl
    show s_X13_clear_2_b (s_X13_clear_2 f) t (jI i) h = _
    unfold s_X13_clear_2_b
    rw [if_neg (show ¬ (5 : Int32) ≤ jI i from fun z => by have := (jI_le (j := 5) (by omega) (by omega)).mp z; omega), g0, Option.bind_some, e1, Option.bind_some, jI_inc]
    exact a
/-- the scalars as a text begins -/
def begS (S S' : Nat → Int32) : Prop := S' 9 = 0 ∧ S' 3 = 0 ∧ S' 16 = 0 ∧ ∀ j, j ≠ 3 → j ≠ 9 → j ≠ 10 → (j < 11 ∨ 16 < j) → S' j = S j
theorem begins_at {h : aH} {S : Nat → Int32} {wd : Int64} (X : RW h S wd tv fv (.ref t) V Z) (hs : shS h) (XT : TPr V T) (hT : okTp T) (hn : n ≤ 400) (ht : okt2 t) : ∃ h' S' wd', s_X14_begins 104 (jI n) h = some (.inl none, h') ∧ RPw h' S' wd' tv fv t V Z T n 0 ∧ begS S S' ∧ h'.length = h.length ∧ ∀ i, i ≠ 104 → h'[i]? = h[i]? := by
  obtain ⟨h1, e1, X1, l1, o1⟩ := X.pSo (i := 10) rfl (jI n)
  obtain ⟨h2, e2, X2, l2, o2⟩ := X1.pSo (i := 9) rfl 0
  obtain ⟨h3, e3, X3, l3, o3⟩ := X2.pSo (i := 11) rfl 0
  obtain ⟨h4, e4, X4, l4, o4⟩ := X3.pSo (i := 3) rfl 0
  obtain ⟨h5, e5, X5, l5, o5⟩ := X4.pSo (i := 16) rfl 0
  obtain ⟨S5, hS5⟩ : ∃ S5, S5 = upd (upd (upd (upd (upd S 10 (jI n)) 9 0) 11 0) 3 0) 16 0 := ⟨_, rfl⟩
  rw [← hS5] at X5
  have a10 : S5 10 = jI n := by rw [hS5, upd_ne (by decide), upd_ne (by decide), upd_ne (by decide), upd_ne (by decide), upd_eq]
  have a9 : S5 9 = 0 := by rw [hS5, upd_ne (by decide), upd_ne (by decide), upd_ne (by decide), upd_eq]
  have a11 : S5 11 = jI 0 := by rw [hS5, upd_ne (by decide), upd_ne (by decide), upd_eq]; rfl
  have a3 : S5 3 = 0 := by rw [hS5, upd_ne (by decide), upd_eq]
  have a16 : S5 16 = 0 := by rw [hS5, upd_eq]
  have oth : ∀ j, j ≠ 3 → j ≠ 9 → j ≠ 10 → j ≠ 11 → j ≠ 16 → S5 j = S j := fun j b1 b2 b3 b4 b5 => by rw [hS5, upd_ne b5, upd_ne b1, upd_ne b4, upd_ne b2, upd_ne b3]
  have o05 : ∀ i, i ≠ 104 → h5[i]? = h[i]? := fun i hi => by rw [o5 i hi, o4 i hi, o3 i hi, o2 i hi, o1 i hi]
  obtain ⟨h6, S6, wd6, e6, X6, O6, s6, t6⟩ := next_at hT XT (n := n) (i := 0) hn (Nat.zero_le n) X5 a10 a11
  have o6 : ∀ i, i ≠ 104 → h6[i]? = h5[i]? := fun i hi => by
    by_cases q : inR i = true
    · rw [X6.2.1 i q, X5.2.1 i q]
    · by_cases q2 : loR i = true
      · rw [X6.2.2 i q2, X5.2.2 i q2]
      · exact O6.2 i (decide_eq_false (fun z => z.elim hi (fun z => z.elim q q2)))
  refine ⟨h6, S6, wd6, ?_, ⟨X6, XT, hT, hn, by rw [s6 10 (by omega)]; exact a10, t6, ht, ?_⟩, ⟨by rw [s6 9 (by omega)]; exact a9, by rw [s6 3 (by omega)]; exact a3, by rw [s6 16 (by omega)]; exact a16, fun j b1 b2 b3 b4 => by rw [s6 j (by omega)]; exact oth j b1 b2 b3 (by omega) (by omega)⟩, by rw [O6.1, l5, l4, l3, l2, l1], fun i hi => by rw [o6 i hi, o05 i hi]⟩
  · unfold s_X14_begins
    rw [e1, Option.bind_some, e2, Option.bind_some, e3, Option.bind_some, e4, Option.bind_some, e5, Option.bind_some, X5.kO, cN_of e6]
  · obtain ⟨fs, f0, f1⟩ := hs
    exact ⟨fs, by rw [o6 118 (by decide), o05 118 (by decide)]; exact f0, f1⟩
theorem readThingR_at {h : aH} {S : Nat → Int32} {wd : Int64} {B : Nat → Nat → Int32} {W : Nat → Int64} {G : Nat → Nat} (X : RPw h S wd tv fv t V Z T n 0) (HT : isT h t B W G) (hz : ∀ j, j < 5 → B 1 j = 0) (g6 : G 6 = 0) (g7 : G 7 = 0) (s16 : S 16 = 0) :
    (∀ e, thP T n 401 th0 0 = .inl e → ∃ h', s_X14_readThing 104 h = some (.inr (RX12, 118), h') ∧ FaR h h' S tv fv t V Z T n e) ∧
    (∀ τ, thP T n 401 th0 0 = .inr τ → fitB τ = true ∧ ∃ h' S' wd' B' W' G' k', s_X14_readThing 104 h = some (.inl none, h') ∧ RSx h' S' wd' tv fv t V Z T n k' B' W' G' (thF τ) ∧ rD B' W' G' τ ∧ FrR t h h' ∧ ∀ j, (j < 11 ∨ 17 < j) → S' j = S j) := by
  have D0 : rD B W G th0 := by
    refine ⟨fun k hk => ⟨hz k hk, Nat.zero_le _⟩, fun s hs => ?_, fun s hs => ?_, ⟨g6, by omega, rfl⟩, fun i x hx => ?_, fun i l hl => ?_⟩
    · obtain ⟨k, hk, q1, q2⟩ := hs
      have q2 : s < bsN k + 0 := q2
      omega
    · have hs : s < 0 ∨ (3 ≤ s ∧ s < 3 + 0) ∨ (5 ≤ s ∧ s < 5 + 0) ∨ (7 ≤ s ∧ s < 7 + 0) := hs
      omega
    · have hx : ([] : List (Nat × List pFa × List pOne))[i]? = some x := hx
      simp at hx
    · have hl : ([] : List (List pFa))[i]? = some l := hl
      simp at hl
  have R0 : RSx h S wd tv fv t V Z T n 0 B W G (thF th0) := ⟨X, HT, s16, by decide, by rw [g7]; exact Nat.zero_le _⟩
  unfold s_X14_readThing
  exact rtR_go 401 FU 0 h S wd B W G th0 (by decide) (by omega) (Or.inl rfl) R0 D0
end
