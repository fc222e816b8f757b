/-! the class reads a whole number with its sign, a span -/
section
variable {h : aH} {T : Nat → Nat} {n e k : Nat} {wh : Int32} {A : Nat → Nat → Int32} {N : Nat → Int64} {F : Nat → Nat} {σ : pTh}
theorem tkN_32 {x : Nat} (h : x < 1000) : (jL x).toInt32 = jI x ∧ (-(jL x)).toInt32 = -(jI x) := by
  have e : (jL x).toInt32 = jI x := by
    apply Int32.toInt_inj.mp
    rw [jI_int (by omega), Int64.toInt_toInt32, jL_int (by omega)]
    exact Int.bmod_eq_of_le (by omega) (by omega)
  exact ⟨e, by rw [Int64.toInt32_neg, e]⟩
theorem int60_at (X : CLw h T n e k wh A N F) (hne : (tokS T n k).1 ≠ 0) (v : Int64) : ∃ h', s_X6_integer_60 51 v 51 h = some (.inl (some (.int 1)), h') ∧ CLw h' T n e (k + 1) v.toInt32 A N F ∧ FrL h h' := by
  obtain ⟨⟨fa, pl, P⟩, H⟩ := X
  have e1 := P.1.set (i := 3) (x := v.toInt32) (by decide)
  obtain ⟨h1, hh1⟩ : ∃ h1, h1 = h.set 51 (.inr (6, [.int (if 3 = 0 then v.toInt32 else fa), .int (if 3 = 1 then v.toInt32 else pl), .int (if 3 = 2 then v.toInt32 else jI k), .int (if 3 = 3 then v.toInt32 else wh), .int (if 3 = 4 then v.toInt32 else jI 9), .ref 23, .ref 35, .ref 52])) := ⟨_, rfl⟩
  rw [← hh1] at e1
  have o1 : ∀ i, i ≠ 51 → h1[i]? = h[i]? := fun i hi => by rw [hh1, set_ne (fun z => hi z.symm)]
  have X1 : CLw h1 T n e k v.toInt32 A N F := ⟨⟨fa, pl, by rw [hh1]; exact set_eq P.1, P.2.1.of (fun i i1 i2 => o1 i (by omega)), P.2.2⟩, H.of (fun i i1 i2 => o1 i (by omega))⟩
  obtain ⟨h2, x, g2, p2, X2, f2, -⟩ := X1.adv hne
  refine ⟨h2, ?_, X2, FrL.trans (show FrL h h1 from ⟨by rw [hh1, List.length_set], fun i i1 _ => o1 i i1⟩) f2⟩
  unfold s_X6_integer_60
  rw [e1, Option.bind_some, g2, Option.bind_some, p2, Option.bind_some]
  rfl
theorem integer_at (X : CLw h T n e k wh A N F) (hS : okS (A 14)) :
    (∀ x, itP T n k = .inl x → ∃ h', s_X6_integer 51 h = some (.inl (some (.int 0)), h') ∧ FaL h h' T n x) ∧
    (∀ x, itP T n k = .inr x → ∃ h', s_X6_integer 51 h = some (.inl (some (.int 1)), h') ∧ CLw h' T n e x.2 x.1 A N F ∧ FrL h h') := by
  have f29 : ∀ {h : aH} {k : Nat} (q : Bool), CLw h T n e k wh A N F → ((tokS T n k).1 ≠ 2 → ∃ h', s_X6_integer_29 51 (b01 q) h = some (.inl (some (.int 0)), h') ∧ FaL h h' T n (1, k)) ∧ ((tokS T n k).1 = 2 → ∃ h', s_X6_integer_29 51 (b01 q) h = some (.inl (some (.int 1)), h') ∧ CLw h' T n e (k + 1) (if q = true then -(jI (tkN T (tokS T n k))) else jI (tkN T (tokS T n k))) A N F ∧ FrL h h') := by
    intro h k q X
    constructor
    · intro u
      obtain ⟨h', a, b⟩ := X.failL hS 1
      refine ⟨h', ?_, b⟩
      have a' : s_X6_fail 51 1 h = _ := a
      unfold s_X6_integer_29
      rw [X.kO, X.kind]
      simp only [cI]
      rw [if_neg (show ¬ jI (tokS T n k).1 = 2 from fun z => u ((X.kd 2 (by decide)).mp z)), X.kO, a']
      rfl
    · intro u
      obtain ⟨w1, w2, -⟩ := tok_whole u
      obtain ⟨t1, t2⟩ := tkN_32 w1
      have hd : ∀ {y : aO}, (if b01 q = 0 then (kO h 51 6 (cJ (s_X6_meaning 51 h) fun x57 h57 => s_X6_integer_60 51 x57 51 h57)) else (kO h 51 6 (cJ (s_X6_meaning 51 h) fun x49 h49 => s_X6_integer_60 51 (-x49) 51 h49))) = y → s_X6_integer_29 51 (b01 q) h = y := by
        intro y hy
        unfold s_X6_integer_29
        rw [X.kO, X.kind]
        simp only [cI]
        rw [if_pos (show jI (tokS T n k).1 = 2 from (X.kd 2 (by decide)).mpr u)]
        exact hy
      cases q with
      | false =>
        obtain ⟨h', a, b, c⟩ := int60_at X (by omega) (mnI T (tokS T n k))
        rw [w2, t1] at b
        refine ⟨h', hd ?_, b, c⟩
        rw [if_pos (show b01 false = 0 by decide), X.kO, X.mean]
        exact a
      | true =>
        obtain ⟨h', a, b, c⟩ := int60_at X (by omega) (-(mnI T (tokS T n k)))
        rw [w2, t2] at b
        refine ⟨h', hd ?_, b, c⟩
        rw [if_neg (show ¬ b01 true = 0 by decide), X.kO, X.mean]
        exact a
  unfold itP
  by_cases q : (tokS T n k).1 = 45
  · rw [if_pos q]
    obtain ⟨h1, x, g1, p1, X1, f1, -⟩ := X.adv (by omega)
    obtain ⟨c1, c2⟩ := f29 true X1
    have head : ∀ {y : aO}, s_X6_integer_29 51 (b01 true) h1 = y → s_X6_integer 51 h = y := by
      intro y hy
      unfold s_X6_integer
      rw [X.kO, X.kind]
      simp only [cI]
      rw [if_pos (show jI (tokS T n k).1 = 45 from (X.kd 45 (by decide)).mpr q)]
      unfold s_X6_integer_14
      rw [if_neg (show ¬ (1 : Int32) = 0 by decide), g1, Option.bind_some, p1, Option.bind_some]
      exact hy
    by_cases u : (tokS T n (k + 1)).1 = 2
    · rw [if_pos u]
      refine ⟨fun x hx => (by cases hx), fun x hx => ?_⟩
      cases hx
      obtain ⟨h', a, b, c⟩ := c2 u
      exact ⟨h', head a, b, f1.trans c⟩
    · rw [if_neg u]
      refine ⟨fun x hx => ?_, fun x hx => by cases hx⟩
      cases hx
      obtain ⟨h', a, b⟩ := c1 u
      exact ⟨h', head a, FaL.trans f1 b⟩
  · rw [if_neg q]
    obtain ⟨c1, c2⟩ := f29 false X
    have head : ∀ {y : aO}, s_X6_integer_29 51 (b01 false) h = y → s_X6_integer 51 h = y := by
      intro y hy
      unfold s_X6_integer
      rw [X.kO, X.kind]
      simp only [cI]
      rw [if_neg (show ¬ jI (tokS T n k).1 = 45 from fun z => q ((X.kd 45 (by decide)).mp z))]
      unfold s_X6_integer_14
      rw [if_pos (show (0 : Int32) = 0 from rfl)]
      exact hy
    by_cases u : (tokS T n k).1 = 2
    · rw [if_pos u]
      refine ⟨fun x hx => (by cases hx), fun x hx => ?_⟩
      cases hx
      obtain ⟨h', a, b, c⟩ := c2 u
      exact ⟨h', head a, b, c⟩
    · rw [if_neg u]
      refine ⟨fun x hx => ?_, fun x hx => by cases hx⟩
      cases hx
      obtain ⟨h', a, b⟩ := c1 u
      exact ⟨h', head a, b⟩
end
