/-! the reference reads a test, a sum, as a wish -/
section
variable {h : aH} {S : Nat → Int32} {wd : Int64} {fv nv : Value} {t : Nat} {V : Nat → Nat → Int32} {Z : Nat → Nat → Int64} {B : Nat → Nat → Int32} {W : Nat → Int64} {G : Nat → Nat} {T : Nat → Nat} {n : Nat} {m : Nat → Nat} {nm : Nat → List Nat}
theorem readsT_at (X : RW h S wd (.ref t) fv nv V Z) (H1 : isT h t B W G) {Bw : Nat → Nat → Int32} {Ww : Nat → Int64} {Gw : Nat → Nat} (H2 : isT h 120 Bw Ww Gw) (sep : t + 12 < 120 ∨ 132 < t) (hs : shS h) (XT : TPr V T) (hT : okTp T) (NM : NmR B W m nm) {tp : Nat} (s9 : S 9 = jI tp) (hn : n ≤ tp) (h4 : tp ≤ 400) :
    (∀ e, wshT T n nm m = .inl e → ∃ h' S' wd', s_X14_reads 104 (jI n) 1 h = some (.inl (some (.int (-1))), h') ∧ RW h' S' wd' (.ref t) fv (.ref 120) V Z ∧ aftS S S' 4 (jI (tokS T n e.2).2.1) (jI e.1) (S 25) ∧ FrR 120 h h' ∧ (∃ B W G, isT h' 120 B W G) ∧ shS h') ∧
    (∀ l, wshT T n nm m = .inr l → ∃ h' S' wd', s_X14_reads 104 (jI n) 1 h = some (.inl (some (.int 0)), h') ∧ RW h' S' wd' (.ref t) fv (.ref 120) V Z ∧ aftS S S' 0 (-1) 0 0 ∧ FrR 120 h h' ∧ rTest h' l ∧ shS h') := by
  obtain ⟨h2, S2, wd2, B2, W2, G2, e2, R2, g7, NM2, s17, c9, c3, cc, f2⟩ := reads_begin X H1 H2 sep hs XT hT NM s9 hn h4 true
  rw [if_neg (show ¬ b01 true = 0 by decide)] at s17
  have e2' : s_X14_reads 104 (jI n) 1 h = kO h2 104 14 (xN (s_X14_readTest 104 h2) (fun h133 => s_X14_reads_143 104 h133) (fun E133 i133 g133 => if E133 = RX12 then (kO g133 104 14 (cI (s_X14_faulty 104 i133 g133) fun x163 h163 => some (.inl (some (.int x163)), h163))) else none)) := by
    rw [if_neg (show ¬ b01 true = 0 by decide)] at e2
    exact e2
  rw [R2.1.kO] at e2'
  obtain ⟨d1, d2⟩ := readTest_at (kd := 0) (pr := 3) (by decide) rfl R2 NM2 s17
  unfold wshT
  cases q : teP T n nm m 3 31 0 0 with
  | inl z =>
    refine ⟨fun e he => ?_, fun l hl => by cases hl⟩
    cases he
    obtain ⟨h3, a, F⟩ := d1 z q
    obtain ⟨h', S', wd', a2, b, c, d, g, i⟩ := caught_at (S0 := S) F c9 (fun j j1 j2 j3 jj => cc j j3 jj)
    refine ⟨h', S', wd', ?_, b, c, f2.trans d, g, i⟩
    rw [e2', a]
    show (if RX12 = RX12 then _ else none) = _
    rw [if_pos rfl]
    exact a2
  | inr z =>
    obtain ⟨h3, S3, wd3, B3, G3, a3, R3, g36, g37, A3, f3, k3⟩ := d2 z q
    obtain ⟨m1, m2⟩ := rd143_at (S0 := S) R3.1 R3.2.1 (by rw [k3 3 (by omega)]; exact c3) (by rw [k3 9 (by omega)]; exact c9) (fun j j1 j2 j3 jj => by rw [k3 j (by omega)]; exact cc j j3 jj)
    dsimp only
    by_cases u : (tokS T n z.2).1 = 0
    · rw [if_pos u]
      refine ⟨fun e he => (by cases he), fun l hl => ?_⟩
      cases hl
      obtain ⟨h', S', a, b, c, d, g, i⟩ := m1 u
      refine ⟨h', S', wd3, ?_, b, c, (f2.trans f3).trans d, ⟨B3, W2, G3, g, by have := R3.2.2.2.2; have := R3.2.2.2.1; omega, ?_⟩, i⟩
      · rw [e2', xN_of a3]
        exact a
      · rw [g7, Nat.zero_add] at g37
        rw [g37, ← g7]
        exact A3.2.2
    · rw [if_neg u]
      refine ⟨fun e he => ?_, fun l hl => by cases hl⟩
      cases he
      obtain ⟨h', S', a, b, c, d, g, i⟩ := m2 u
      refine ⟨h', S', wd3, ?_, b, c, (f2.trans f3).trans d, ⟨_, _, _, g⟩, i⟩
      rw [e2', xN_of a3]
      exact a
theorem readsS_at (X : RW h S wd (.ref t) fv nv V Z) (H1 : isT h t B W G) {Bw : Nat → Nat → Int32} {Ww : Nat → Int64} {Gw : Nat → Nat} (H2 : isT h 120 Bw Ww Gw) (sep : t + 12 < 120 ∨ 132 < t) (hs : shS h) (XT : TPr V T) (hT : okTp T) (NM : NmR B W m nm) {tp : Nat} (s9 : S 9 = jI tp) (hn : n ≤ tp) (h4 : tp ≤ 400) :
    (∀ e, wshS T n nm m = .inl e → ∃ h' S' wd', s_X14_reads 104 (jI n) 0 h = some (.inl (some (.int (-1))), h') ∧ RW h' S' wd' (.ref t) fv (.ref 120) V Z ∧ aftS S S' 4 (jI (tokS T n e.2).2.1) (jI e.1) (S 25) ∧ FrR 120 h h' ∧ (∃ B W G, isT h' 120 B W G) ∧ shS h') ∧
    (∀ l, wshS T n nm m = .inr l → ∃ h' S' wd', s_X14_reads 104 (jI n) 0 h = some (.inl (some (.int 0)), h') ∧ RW h' S' wd' (.ref t) fv (.ref 120) V Z ∧ aftS S S' 0 (-1) 0 0 ∧ FrR 120 h h' ∧ rSum h' l ∧ shS h') := by
  obtain ⟨h2, S2, wd2, B2, W2, G2, e2, R2, g7, NM2, s17, c9, c3, cc, f2⟩ := reads_begin X H1 H2 sep hs XT hT NM s9 hn h4 false
  rw [if_pos (show b01 false = 0 by decide)] at s17
  have e2' : s_X14_reads 104 (jI n) 0 h = kO h2 104 14 (xN (s_X14_readSum 104 h2) (fun h140 => s_X14_reads_143 104 h140) (fun E140 i140 g140 => if E140 = RX12 then (kO g140 104 14 (cI (s_X14_faulty 104 i140 g140) fun x163 h163 => some (.inl (some (.int x163)), h163))) else none)) := by
    rw [if_pos (show b01 false = 0 by decide)] at e2
    exact e2
  rw [R2.1.kO] at e2'
  obtain ⟨d1, d2⟩ := readSum_at (kd := 1) (pr := 5) (by decide) rfl R2 NM2 s17
  unfold wshS
  cases q : suP T n nm m 5 0 0 with
  | inl z =>
    refine ⟨fun e he => ?_, fun l hl => by cases hl⟩
    cases he
    obtain ⟨h3, a, F⟩ := d1 z q
    obtain ⟨h', S', wd', a2, b, c, d, g, i⟩ := caught_at (S0 := S) F c9 (fun j j1 j2 j3 jj => cc j j3 jj)
    refine ⟨h', S', wd', ?_, b, c, f2.trans d, g, i⟩
    rw [e2', a]
    show (if RX12 = RX12 then _ else none) = _
    rw [if_pos rfl]
    exact a2
  | inr z =>
    obtain ⟨h3, S3, wd3, B3, G3, a3, R3, g36, g37, p3, A3, f3, k3⟩ := d2 z q
    obtain ⟨m1, m2⟩ := rd143_at (S0 := S) R3.1 R3.2.1 (by rw [k3 3 (by omega)]; exact c3) (by rw [k3 9 (by omega)]; exact c9) (fun j j1 j2 j3 jj => by rw [k3 j (by omega)]; exact cc j j3 jj)
    dsimp only
    by_cases u : (tokS T n z.2).1 = 0
    · rw [if_pos u]
      refine ⟨fun e he => (by cases he), fun l hl => ?_⟩
      cases hl
      obtain ⟨h', S', a, b, c, d, g, i⟩ := m1 u
      refine ⟨h', S', wd3, ?_, b, c, (f2.trans f3).trans d, ⟨B3, W2, G3, g, by have := R3.2.2.2.2; have := R3.2.2.2.1; omega, ?_⟩, i⟩
      · rw [e2', xN_of a3]
        exact a
      · rw [g7, Nat.zero_add] at g37
        rw [g37, ← g7]
        exact A3.2.2
    · rw [if_neg u]
      refine ⟨fun e he => ?_, fun l hl => by cases hl⟩
      cases he
      obtain ⟨h', S', a, b, c, d, g, i⟩ := m2 u
      refine ⟨h', S', wd3, ?_, b, c, (f2.trans f3).trans d, ⟨_, _, _, g⟩, i⟩
      rw [e2', xN_of a3]
      exact a
end
