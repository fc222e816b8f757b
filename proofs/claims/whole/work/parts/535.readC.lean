/-! the class reads a text anew -/
theorem clearF_at {h : aH} {o nf no : Nat} {jn sl ww st mi en re : Nat → Int32} (H : isF h o nf jn sl ww no st mi en re) : ∃ h', s_X0_clear o h = some (.inl none, h') ∧ isF h' o 0 jn sl ww 0 st mi en re ∧ h'.length = h.length ∧ ∀ i, i ≠ o → h'[i]? = h[i]? := by
  obtain ⟨q, h0, h1, h2, h3, h4, h5, h6, h7⟩ := H
  have e1 : pF h (.ref o) 0 0 (.int 0) = some (h.set o (.inr (0, [.int (jI 0), .ref (o + 1), .ref (o + 2), .ref (o + 3), .int (jI no), .ref (o + 4), .ref (o + 5), .ref (o + 6), .ref (o + 7)]))) := by
    rw [pF_of (by omega) h0 (show 0 < 9 by decide)]; rfl
  have k1 : (h.set o (.inr (0, [.int (jI 0), .ref (o + 1), .ref (o + 2), .ref (o + 3), .int (jI no), .ref (o + 4), .ref (o + 5), .ref (o + 6), .ref (o + 7)])))[o]? = some (.inr (0, [.int (jI 0), .ref (o + 1), .ref (o + 2), .ref (o + 3), .int (jI no), .ref (o + 4), .ref (o + 5), .ref (o + 6), .ref (o + 7)])) := set_eq h0
  have e2 : pF (h.set o (.inr (0, [.int (jI 0), .ref (o + 1), .ref (o + 2), .ref (o + 3), .int (jI no), .ref (o + 4), .ref (o + 5), .ref (o + 6), .ref (o + 7)]))) (.ref o) 0 4 (.int 0) = some ((h.set o (.inr (0, [.int (jI 0), .ref (o + 1), .ref (o + 2), .ref (o + 3), .int (jI no), .ref (o + 4), .ref (o + 5), .ref (o + 6), .ref (o + 7)]))).set o (.inr (0, [.int (jI 0), .ref (o + 1), .ref (o + 2), .ref (o + 3), .int (jI 0), .ref (o + 4), .ref (o + 5), .ref (o + 6), .ref (o + 7)]))) := by
    rw [pF_of (by omega) k1 (show 4 < 9 by decide)]; rfl
  rw [set_set] at e2
  refine ⟨_, ?_, ⟨q, set_eq h0, by rw [set_ne (by omega)]; exact h1, by rw [set_ne (by omega)]; exact h2, by rw [set_ne (by omega)]; exact h3, by rw [set_ne (by omega)]; exact h4, by rw [set_ne (by omega)]; exact h5, by rw [set_ne (by omega)]; exact h6, by rw [set_ne (by omega)]; exact h7⟩, List.length_set .., fun i hi => set_ne (fun z => hi z.symm)⟩
  unfold s_X0_clear
  rw [e1, Option.bind_some, e2, Option.bind_some]
theorem begin_at {h : aH} {T : Nat → Nat} {n cnt : Nat} {K P : Nat → Int32} {M : Nat → Int64} {fa pl at' wh per : Int32} {mo fo : Nat} (hT : okTp T) (hn : n ≤ 400) (R : RdW h fa pl at' wh per mo fo) (X : TW h cnt K P M) (XT : TPw h T) (mo' fo' : Nat) : ∃ h' e, s_X6_begin 51 1 (jI n) mo' fo' h = some (.inl none, h') ∧ PCw h' T n e 0 (-1) 0 wh per mo' fo' ∧ Fr 51 55 h h' := by
  obtain ⟨h1, e, e1, K1, f1⟩ := cut_at hT hn X XT
  have R1 : RdW h1 fa pl at' wh per mo fo := by unfold RdW; rw [f1.2 51 (by omega)]; exact R
  have g7 : gO h (.ref 51) 6 7 = some 52 := gO_of (ltE (by decide)) R rfl
  have k0 : ∀ {x : Int32}, pF h1 (.ref 51) 6 2 (.int x) = some (h1.set 51 (.inr (6, [.int fa, .int pl, .int x, .int wh, .int per, .ref mo, .ref fo, .ref 52]))) := by intro x; rw [pF_of (ltE (by decide)) R1 (show 2 < 8 by decide)]; rfl
  obtain ⟨h2, hh2⟩ : ∃ h2, h2 = h1.set 51 (.inr (6, [.int fa, .int pl, .int 0, .int wh, .int per, .ref mo, .ref fo, .ref 52])) := ⟨_, rfl⟩
  have R2 : h2[51]? = some (.inr (6, [.int fa, .int pl, .int 0, .int wh, .int per, .ref mo, .ref fo, .ref 52])) := by rw [hh2]; exact set_eq R1
  have p3 : pF h2 (.ref 51) 6 0 (.int 0) = some (h2.set 51 (.inr (6, [.int 0, .int pl, .int 0, .int wh, .int per, .ref mo, .ref fo, .ref 52]))) := by rw [pF_of (ltE (by decide)) R2 (show 0 < 8 by decide)]; rfl
  obtain ⟨h3, hh3⟩ : ∃ h3, h3 = h2.set 51 (.inr (6, [.int 0, .int pl, .int 0, .int wh, .int per, .ref mo, .ref fo, .ref 52])) := ⟨_, rfl⟩
  have R3 : h3[51]? = some (.inr (6, [.int 0, .int pl, .int 0, .int wh, .int per, .ref mo, .ref fo, .ref 52])) := by rw [hh3]; exact set_eq R2
  have p4 : pF h3 (.ref 51) 6 1 (.int (-1)) = some (h3.set 51 (.inr (6, [.int 0, .int (-1), .int 0, .int wh, .int per, .ref mo, .ref fo, .ref 52]))) := by rw [pF_of (ltE (by decide)) R3 (show 1 < 8 by decide)]; rfl
  obtain ⟨h4, hh4⟩ : ∃ h4, h4 = h3.set 51 (.inr (6, [.int 0, .int (-1), .int 0, .int wh, .int per, .ref mo, .ref fo, .ref 52])) := ⟨_, rfl⟩
  have R4 : h4[51]? = some (.inr (6, [.int 0, .int (-1), .int 0, .int wh, .int per, .ref mo, .ref fo, .ref 52])) := by rw [hh4]; exact set_eq R3
  have p5 : pF h4 (.ref 51) 6 5 (.ref mo') = some (h4.set 51 (.inr (6, [.int 0, .int (-1), .int 0, .int wh, .int per, .ref mo', .ref fo, .ref 52]))) := by rw [pF_of (ltE (by decide)) R4 (show 5 < 8 by decide)]; rfl
  obtain ⟨h5, hh5⟩ : ∃ h5, h5 = h4.set 51 (.inr (6, [.int 0, .int (-1), .int 0, .int wh, .int per, .ref mo', .ref fo, .ref 52])) := ⟨_, rfl⟩
  have R5 : h5[51]? = some (.inr (6, [.int 0, .int (-1), .int 0, .int wh, .int per, .ref mo', .ref fo, .ref 52])) := by rw [hh5]; exact set_eq R4
  have p6 : pF h5 (.ref 51) 6 6 (.ref fo') = some (h5.set 51 (.inr (6, [.int 0, .int (-1), .int 0, .int wh, .int per, .ref mo', .ref fo', .ref 52]))) := by rw [pF_of (ltE (by decide)) R5 (show 6 < 8 by decide)]; rfl
  have oo : ∀ i, i ≠ 51 → (h5.set 51 (.inr (6, [.int 0, .int (-1), .int 0, .int wh, .int per, .ref mo', .ref fo', .ref 52])))[i]? = h1[i]? := fun i hi => by
    rw [set_ne (fun z => hi z.symm), hh5, set_ne (fun z => hi z.symm), hh4, set_ne (fun z => hi z.symm), hh3, set_ne (fun z => hi z.symm), hh2, set_ne (fun z => hi z.symm)]
  refine ⟨h5.set 51 (.inr (6, [.int 0, .int (-1), .int 0, .int wh, .int per, .ref mo', .ref fo', .ref 52])), e, ?_, ⟨set_eq R5, K1.of (fun i h1 h2 => oo i (by omega)), Nat.zero_le e, hT, hn⟩, ⟨?_, fun i hi => ?_⟩⟩
  · unfold s_X6_begin
    rw [g7, Option.bind_some, X.kO, e1]
    simp only [cN]
    rw [k0, Option.bind_some, ← hh2, p3, Option.bind_some, ← hh3, p4, Option.bind_some, ← hh4, p5, Option.bind_some, ← hh5, p6, Option.bind_some]
  · rw [List.length_set, hh5, List.length_set, hh4, List.length_set, hh3, List.length_set, hh2, List.length_set]
    exact f1.1
  · rw [oo i (by omega)]
    exact f1.2 i (by omega)
/-- the cells of the reading, whatever stands in them -/
def PSh (h : aH) : Prop := (∃ fa pl at' wh per mo fo, RdW h fa pl at' wh per mo fo) ∧ (∃ cnt K P M, TW h cnt K P M) ∧ (∃ A N F, isM h 23 A N F ∧ okS (A 14)) ∧ shF h 43
/-- only the reading's own cells are touched -/
def FrP (h h' : aH) : Prop := h'.length = h.length ∧ ∀ i, (i < 23 ∨ 55 < i) → h'[i]? = h[i]?
theorem FrP.trans {h1 h2 h3 : aH} (p : FrP h1 h2) (q : FrP h2 h3) : FrP h1 h3 := ⟨q.1.trans p.1, fun k a => (q.2 k a).trans (p.2 k a)⟩
theorem clearM_at {h : aH} {A : Nat → Nat → Int32} {N : Nat → Int64} {F : Nat → Nat} (H : isM h 23 A N F) : ∃ h' A', s_X2_clear 23 h = some (.inl none, h') ∧ isM h' 23 A' N (upd2 (upd2 (upd2 F 4 0) 20 0) 24 0) ∧ (∀ k, k < 5 → A' 1 k = 0) ∧ A' 14 = A 14 ∧ h'.length = h.length ∧ ∀ i, (i < 23 ∨ 42 < i) → h'[i]? = h[i]? := by
  have f1 := fill_at (h := h) (a := 24) (n := 5) (x := 0) (g := A 1) (ltE (by decide)) (by decide) H.2.2.1
  obtain ⟨h1, hh1⟩ : ∃ h1, h1 = h.set 24 (.inl (.int, 5, .inl (filF (A 1) 0 5 0))) := ⟨_, rfl⟩
  rw [← hh1] at f1
  have o1 : ∀ i, i ≠ 24 → h1[i]? = h[i]? := fun i hi => by rw [hh1, set_ne (fun z => hi z.symm)]
  have H1 : isM h1 23 (upd2 A 1 (filF (A 1) 0 5 0)) N F := by
    obtain ⟨a, b0, b1, b2, b3, b4⟩ := H
    refine ⟨a, by rw [o1 _ (by decide)]; exact b0, by rw [hh1, set_eq b1, upd2_eq], by rw [o1 _ (by decide)]; exact b2, fun i i1 i2 => by rw [o1 _ (by omega), upd2_ne (by omega)]; exact b3 i i1 i2, ?_⟩
    rw [upd2_ne (by decide), upd2_ne (by decide), upd2_ne (by decide), upd2_ne (by decide), upd2_ne (by decide), upd2_ne (by decide), upd2_ne (by decide)]
    exact b4.of (fun i i1 i2 => o1 i (by omega))
  obtain ⟨h2, e2, H2, l2, o2⟩ := H1.num (k := 4) (Or.inl rfl) 0
  have e2' : pF h1 (.ref 23) 2 4 (.int 0) = some h2 := e2
  obtain ⟨h3, e3, F3, l3, o3⟩ := clearF_at H2.2.2.2.2.2
  have H3 := H2.formulas (h' := h3) (fun i i1 i2 => o3 i (by omega)) F3
  refine ⟨h3, _, ?_, H3, fun k hk => ?_, ?_, by rw [l3, l2, hh1, List.length_set], fun i hi => by rw [o3 i (by omega), o2 i (by omega), o1 i (by omega)]⟩
  · unfold s_X2_clear
    have k35 : ∀ {β : Type} {y : Option β}, kO h2 35 0 y = y := kO_of (ltE (by decide)) H2.2.2.2.2.2.2.1
    have g16 : gO h2 (.ref 23) 2 16 = some 35 := gO_of (ltE (by decide)) H2.2.1 rfl
    have e3' : s_X0_clear 35 h2 = some (.inl none, h3) := e3
    rw [H.mn, Option.bind_some, f1]
    simp only [cN]
    rw [e2', Option.bind_some, g16, Option.bind_some, k35, e3']
  · rw [aFm_lt (by decide), upd2_eq]
    exact if_pos ⟨Nat.zero_le k, hk⟩
  · show upd2 A 1 (filF (A 1) 0 5 0) 14 = A 14
    rw [upd2_ne (by decide)]
theorem readThing_at {h : aH} {T : Nat → Nat} {n : Nat} (hT : okTp T) (hn : n ≤ 400) (X : PSh h) (XT : TPw h T) :
    (∀ x, thP T n 401 th0 0 = .inl x → ∃ h', s_X6_readThing 51 1 (jI n) 23 h = some (.inl (some (.int 0)), h') ∧ PSh h' ∧ (∃ at' wh, RdW h' (jI x.1) (jI (tokS T n x.2).2.1) at' wh (jI 9) 23 35) ∧ FrP h h') ∧
    (∀ τ, thP T n 401 th0 0 = .inr τ → fitB τ = true ∧ ∃ h' A N F, s_X6_readThing 51 1 (jI n) 23 h = some (.inl (some (.int 1)), h') ∧ PSh h' ∧ isM h' 23 A N (meas A (thM τ) F) ∧ cD A N (meas A (thM τ) F) τ ∧ FrP h h') := by
  obtain ⟨⟨fa, pl, at', wh, per, mo, fo, R⟩, ⟨cnt, K, P, M, TT⟩, ⟨A, N, F, H, hS⟩, s43⟩ := X
  obtain ⟨h1, A1, e1, H1, z1, a14, l1, o1⟩ := clearM_at H
  have R1 : RdW h1 fa pl at' wh per mo fo := by unfold RdW; rw [o1 51 (by omega)]; exact R
  have T1 := TT.of (h' := h1) (fun i i1 i2 => o1 i (by omega))
  have XT1 : TPw h1 T := by
    obtain ⟨g, a, b⟩ := XT
    exact ⟨g, by rw [o1 1 (by omega)]; exact a, b⟩
  obtain ⟨h2, e, e2, X2, f2⟩ := begin_at hT hn R1 T1 XT1 23 35
  have p3 := X2.1.set (i := 4) (x := 9) (by decide)
  obtain ⟨h3, hh3⟩ : ∃ h3, h3 = h2.set 51 (.inr (6, [.int (if 4 = 0 then 9 else 0), .int (if 4 = 1 then 9 else -1), .int (if 4 = 2 then 9 else jI 0), .int (if 4 = 3 then 9 else wh), .int (if 4 = 4 then 9 else per), .ref 23, .ref 35, .ref 52])) := ⟨_, rfl⟩
  rw [← hh3] at p3
  have o3 : ∀ i, i ≠ 51 → h3[i]? = h2[i]? := fun i hi => by rw [hh3, set_ne (fun z => hi z.symm)]
  have H3 : isM h3 23 A1 N (upd2 (upd2 (upd2 F 4 0) 20 0) 24 0) := (H1.of (h' := h2) (fun i i1 i2 => f2.2 i (by omega))).of (fun i i1 i2 => o3 i (by omega))
  have X3 : CLw h3 T n e 0 wh A1 N (upd2 (upd2 (upd2 F 4 0) 20 0) 24 0) := ⟨⟨0, -1, by rw [hh3]; exact set_eq X2.1, X2.2.1.of (fun i i1 i2 => o3 i (by omega)), X2.2.2⟩, H3⟩
  have D3 : cD A1 N (upd2 (upd2 (upd2 F 4 0) 20 0) 24 0) th0 := by
    refine ⟨fun k hk => ⟨z1 k hk, Nat.zero_le _⟩, fun s hs => ?_, fun s hs => ?_, ⟨?_, ?_, ?_, by decide, ?_, rfl⟩, by rw [a14]; exact hS, fun i hi => ?_, fun i x hx => ?_, fun i l hl => ?_⟩
    · obtain ⟨k, hk, q1, q2⟩ := hs
      have q2 : s < bsN k + 0 := q2
      omega
    · have hs : s < 0 ∨ (3 ≤ s ∧ s < 3 + 0) ∨ (5 ≤ s ∧ s < 5 + 0) ∨ (7 ≤ s ∧ s < 7 + 0) := hs
      omega
    · rw [upd2_ne (by decide), upd2_ne (by decide), upd2_eq]; rfl
    · rw [upd2_ne (by decide), upd2_ne (by decide), upd2_eq]; decide
    · rw [upd2_ne (by decide), upd2_eq]; rfl
    · rw [upd2_eq]; decide
    · rw [upd2_eq] at hi; omega
    · have hx : ([] : List (Nat × List pFa × List pOne))[i]? = some x := hx
      simp at hx
    · have hl : ([] : List (List pFa))[i]? = some l := hl
      simp at hl
  have f03 : FrP h h3 := ⟨by rw [hh3, List.length_set, f2.1, l1], fun i hi => by rw [o3 i (by omega), f2.2 i (by omega), o1 i (by omega)]⟩
  have s43' : ∀ {h' : aH}, FrL h3 h' → shF h' 43 := fun {h'} f => by
    obtain ⟨nf, jn, sl, ww, no, st, mi, en, re, FF, q⟩ := s43
    exact ⟨nf, jn, sl, ww, no, st, mi, en, re, FF.of (fun i i1 i2 => by rw [f.2 i (by omega) (by omega), o3 i (by omega), f2.2 i (by omega), o1 i (by omega)]), q⟩
  have tw' : ∀ {h' : aH}, FrL h3 h' → ∃ cnt K P M, TW h' cnt K P M := fun {h'} f => by
    obtain ⟨⟨_, _, PP⟩, -⟩ := X3
    obtain ⟨K9, P9, M9, a, -⟩ := PP.2.1
    exact ⟨_, _, _, _, a.of (fun i i1 i2 => f.2 i (by omega) (by omega))⟩
  obtain ⟨c1, c2⟩ := rt24_go (T := T) (n := n) (e := e) 401 0 FU 0 h3 wh A1 N _ th0 (by omega) (by decide) X3 D3
  have head : ∀ {y : aO}, s_X6_readThing_24 FU 51 23 (jI 0) h3 = y → s_X6_readThing 51 1 (jI n) 23 h = y := by
    intro y hy
    unfold s_X6_readThing
    have g16 : gO h1 (.ref 23) 2 16 = some 35 := gO_of (ltE (by decide)) H1.2.1 rfl
    have k51 : ∀ {β : Type} {y : Option β}, kO h1 51 6 y = y := kO_of (ltE (by decide)) R1
    rw [H.kO, e1]
    simp only [cN]
    rw [g16, Option.bind_some, k51, e2]
    simp only []
    rw [p3, Option.bind_some]
    exact hy
  refine ⟨fun x hx => ?_, fun τ hτ => ?_⟩
  · obtain ⟨h', a, ⟨r1, ⟨A', N', F', H', S'⟩, f'⟩⟩ := c1 x hx
    obtain ⟨at9, wh9, r1⟩ := r1
    exact ⟨h', head a, ⟨⟨_, _, _, _, _, _, _, r1⟩, tw' f', ⟨A', N', F', H', S'⟩, s43' f'⟩, ⟨at9, wh9, r1⟩, f03.trans ⟨f'.1, fun i hi => f'.2 i (by omega) (by omega)⟩⟩
  · obtain ⟨ft, h', k', wh', A', N', F', a, X', D', f'⟩ := c2 τ hτ
    have X9 := X'
    obtain ⟨⟨_, _, PP⟩, H'⟩ := X9
    exact ⟨ft, h', A', N', F', head a, ⟨⟨_, _, _, _, _, _, _, PP.1⟩, tw' f', ⟨A', N', _, H', D'.2.2.2.2.1⟩, s43' f'⟩, H', D', f03.trans ⟨f'.1, fun i hi => f'.2 i (by omega) (by omega)⟩⟩
