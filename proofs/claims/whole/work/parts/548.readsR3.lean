/-! the reference reads a wish, from its first word to its last -/
section
variable {h : aH} {S : Nat → Int32} {wd : Int64} {fv nv : Value} {t : Nat} {V : Nat → Nat → Int32} {Z : Nat → Nat → Int64} {B : Nat → Nat → Int32} {W : Nat → Int64} {G : Nat → Nat} {T : Nat → Nat} {n : Nat} {m : Nat → Nat} {nm : Nat → List Nat}
theorem NmR.copy {B' : Nat → Nat → Int32} {W' : Nat → Int64} (NM : NmR B W m nm) (h1 : ∀ j, j < 5 → B' 1 j = B 1 j) (hw : ∀ j, j < 11 → W' j = W j) : NmR B' W' m nm := by
  refine ⟨fun k hk => by rw [h1 k hk]; exact NM.1 k hk, fun s hs => ?_⟩
  have s11 : s < 11 := by
    obtain ⟨k, hk, -, h2⟩ := hs
    have := (NM.1 k hk).2
    omega
  rw [hw s s11]
  exact NM.2 s hs
/-- a stop within a wish's text, caught -/
theorem caught_at {h0 : aH} {S0 S1 : Nat → Int32} {e : Nat × Nat} (F : FaR h0 h S1 (.ref t) fv 120 V Z T n e) (s9 : S1 9 = 0) (k0 : ∀ j, j ≠ 1 → j ≠ 2 → j ≠ 3 → (j < 9 ∨ 17 < j) → S1 j = S0 j) : ∃ h' S' wd', (kO h 104 14 (cI (s_X14_faulty 104 118 h) fun x163 h163 => some ((.inl (some (.int x163)) : aR), h163))) = some ((.inl (some (.int (-1))) : aR), h') ∧ RW h' S' wd' (.ref t) fv (.ref 120) V Z ∧ aftS S0 S' 4 (jI (tokS T n e.2).2.1) (jI e.1) (S0 25) ∧ FrR 120 h0 h' ∧ (∃ B W G, isT h' 120 B W G) ∧ shS h' := by
  obtain ⟨st, ⟨S2, wd2, X2, k2⟩, ⟨Bw, Ww, Gw, HT⟩, f⟩ := F
  obtain ⟨h3, e3, X3, O3⟩ := faulty_at X2 st
  have o3 : ∀ i, i ≠ 104 → h3[i]? = h[i]? := fun i hi => by
    by_cases q : inR i = true
    · rw [X3.2.1 i q, X2.2.1 i q]
    · by_cases q2 : loR i = true
      · rw [X3.2.2 i q2, X2.2.2 i q2]
      · exact O3.2 i (decide_eq_false (fun z => z.elim hi (fun z => z.elim q q2)))
  obtain ⟨fs, f0, f1, -⟩ := st
  refine ⟨h3, _, wd2, ?_, X3, ⟨?_, ?_, ?_, ?_, ?_, fun j j1 j2 j3 j4 j5 => ?_⟩, f.trans ⟨O3.1, fun i i1 _ _ => o3 i i1⟩, ⟨Bw, Ww, Gw, HT.of (fun i i1 i2 => o3 i (by omega))⟩, ⟨fs, by rw [o3 118 (by decide)]; exact f0, f1⟩⟩
  · rw [X2.kO, cI_of e3]
  · rw [upd_ne (by decide), upd_eq]
  · rw [upd_eq]
  · rw [upd_ne (by decide), upd_ne (by decide), upd_eq]
  · rw [upd_ne (by decide), upd_ne (by decide), upd_ne (by decide), k2 9 (by omega)]; exact s9
  · rw [upd_ne (by decide), upd_ne (by decide), upd_ne (by decide), k2 25 (by omega)]; exact k0 25 (by decide) (by decide) (by decide) (by omega)
  · rw [upd_ne j2, upd_ne j1, upd_ne j3, k2 j (by omega)]; exact k0 j j1 j2 j3 j5
/-- up to the text's first token -/
theorem reads_begin (X : RW h S wd (.ref t) fv nv V Z) (H1 : isT h t B W G) {Bw : Nat → Nat → Int32} {Ww : Nat → Int64} {Gw : Nat → Nat} (H2 : isT h 120 Bw Ww Gw) (sep : t + 12 < 120 ∨ 132 < t) (hs : shS h) (XT : TPr V T) (hT : okTp T) (NM : NmR B W m nm) {tp : Nat} (s9 : S 9 = jI tp) (hn : n ≤ tp) (h4 : tp ≤ 400) (q : Bool) :
    ∃ h2 S2 wd2 B2 W2 G2, s_X14_reads 104 (jI n) (b01 q) h = (if b01 q = 0 then (kO h2 104 14 (xN (s_X14_readSum 104 h2) (fun h140 => s_X14_reads_143 104 h140) (fun E140 i140 g140 => if E140 = RX12 then (kO g140 104 14 (cI (s_X14_faulty 104 i140 g140) fun x163 h163 => some (.inl (some (.int x163)), h163))) else none))) else (kO h2 104 14 (xN (s_X14_readTest 104 h2) (fun h133 => s_X14_reads_143 104 h133) (fun E133 i133 g133 => if E133 = RX12 then (kO g133 104 14 (cI (s_X14_faulty 104 i133 g133) fun x163 h163 => some (.inl (some (.int x163)), h163))) else none)))) ∧ RSx h2 S2 wd2 (.ref t) fv 120 V Z T n 0 B2 W2 G2 0 ∧ G2 7 = 0 ∧ NmR B2 W2 m nm ∧ S2 17 = (if b01 q = 0 then 1 else 0) ∧ S2 9 = 0 ∧ S2 3 = 0 ∧ (∀ j, j ≠ 3 → (j < 9 ∨ 17 < j) → S2 j = S j) ∧ FrR 120 h h2 := by
  have g9 := X.gS (k := 9) rfl
  rw [s9] at g9
  have g4 : gW h (.ref 104) 14 4 = some (.ref t) := gW_ref (ltE (by decide)) X.1 rfl
  have g19 : gO h (.ref 104) 14 19 = some 120 := gO_of (ltE (by decide)) X.1 rfl
  have r := X.obj (S' := S) (wd' := wd) (t' := .ref t) (f' := fv) (n' := .ref 120)
  obtain ⟨h1, hh1⟩ : ∃ h1, h1 = h.set 104 (.inr (14, xFs S wd (.ref t) fv (.ref 120))) := ⟨_, rfl⟩
  have e1 : pF h (.ref 104) 14 6 (.ref 120) = some h1 := by
    rw [pF_of (ltE (by decide)) X.1 (show 6 < 70 by decide), hh1]
    rfl
  rw [← hh1] at r
  have X1 := r.1
  have o1 : ∀ i, i ≠ 104 → h1[i]? = h[i]? := fun i hi => by rw [hh1, set_ne (fun z => hi z.symm)]
  have tne : ∀ i, t ≤ i → i ≤ t + 12 → i ≠ 104 := fun i i1 i2 e => by
    have := H1.2.1
    rcases sep with z | z
    · have h104 := X.1
      by_cases u : i = t
      · rw [← u, e, h104] at this
        cases this
      · obtain ⟨j, hj⟩ : ∃ j, i = t + j := ⟨i - t, by omega⟩
        by_cases v : j = 6
        · have := H1.2.2.1
          rw [← v, ← hj, e, h104] at this
          cases this
        · have := H1.2.2.2 j (by omega) (by omega) v
          rw [← hj, e, h104] at this
          cases this
    · omega
  have H1' := H1.of (h' := h1) (fun i i1 i2 => o1 i (tne i i1 i2))
  have H2' := H2.of (h' := h1) (fun i i1 i2 => o1 i (by omega))
  obtain ⟨h2, e2, T2, l2, o2⟩ := H2'.num (k := 7) (Or.inr rfl) 0
  have e2' : pF h1 (.ref 120) 13 7 (.int 0) = some h2 := e2
  have X2 : RW h2 S wd (.ref t) fv (.ref 120) V Z := X1.of (fun k hk => o2 k (by
    have := rfC_okt2 (t := 120) (Or.inr (Or.inl rfl)) hk
    omega))
  obtain ⟨h3, B3, e3, X3, T3, b3, l3, o3⟩ := rd49_go (x := jI n) (y := b01 q) 5 0 FU h2 Bw Ww _ (by omega) (by decide) X2 ⟨H1'.of (fun i i1 i2 => o2 i (by omega)), T2, sep⟩ (fun j hj => absurd hj (Nat.not_lt_zero j))
  obtain ⟨h4', W4, e4, X4, T4, w4, l4, o4⟩ := rd80_go (x := jI n) (y := b01 q) 11 0 FU h3 B3 Ww _ (by omega) (by decide) X3 T3 (fun j hj => absurd hj (Nat.not_lt_zero j))
  obtain ⟨h5, e5, X5, l5, o5⟩ := X4.pSo (i := 17) rfl (if b01 q = 0 then 1 else 0)
  have s5 : shS h5 := by
    obtain ⟨fs, f0, f1⟩ := hs
    exact ⟨fs, by rw [o5 118 (by decide), o4 118 (by omega), o3 118 (by omega), o2 118 (by decide), o1 118 (by decide)]; exact f0, f1⟩
  obtain ⟨h6, S6, wd6, e6, X6, ⟨c9, c3, c16, cc⟩, l6, o6⟩ := begins_at X5 s5 XT hT (n := n) (by omega) (Or.inr (Or.inl rfl))
  have T6 : isT h6 120 B3 W4 (upd2 Gw 7 0) := T4.2.1.of (fun i i1 i2 => by rw [o6 i (by omega), o5 i (by omega)])
  refine ⟨h6, S6, wd6, B3, W4, _, ?_, ⟨X6, T6, c16, by decide, by rw [upd2_eq]; decide⟩, upd2_eq, NM.copy b3 w4, ?_, c9, c3, fun j j3 jj => ?_, ⟨by rw [l6, l5, l4, l3, l2, hh1, List.length_set], fun i i1 _ i3 => by rw [o6 i i1, o5 i i1, o4 i (by omega), o3 i (by omega), o2 i (by omega), o1 i i1]⟩⟩
  · have e3' : s_X14_reads_49 FU 104 (jI n) (b01 q) 0 h2 = _ := e3
    have e4' : s_X14_reads_80 FU 104 (jI n) (b01 q) 0 h3 = _ := e4
    have g6 : gO h1 (.ref 104) 14 6 = some 120 := gO_of (ltE (by decide)) X1.1 rfl
    unfold s_X14_reads
    rw [g4, Option.bind_some]
    dsimp only
    rw [if_neg (jI_neg (by omega)), g9, Option.bind_some, if_pos ((jI_le (by omega) (by omega)).mpr hn), g19, Option.bind_some, e1, Option.bind_some, g6, Option.bind_some, e2', Option.bind_some, e3', e4']
    have t120 : ∀ z : Int32, z = (if b01 q = 0 then 1 else 0) → s_X14_reads_120 104 (jI n) (b01 q) z 104 h4' = (if b01 q = 0 then (kO h6 104 14 (xN (s_X14_readSum 104 h6) (fun h140 => s_X14_reads_143 104 h140) (fun E140 i140 g140 => if E140 = RX12 then (kO g140 104 14 (cI (s_X14_faulty 104 i140 g140) fun x163 h163 => some (.inl (some (.int x163)), h163))) else none))) else (kO h6 104 14 (xN (s_X14_readTest 104 h6) (fun h133 => s_X14_reads_143 104 h133) (fun E133 i133 g133 => if E133 = RX12 then (kO g133 104 14 (cI (s_X14_faulty 104 i133 g133) fun x163 h163 => some (.inl (some (.int x163)), h163))) else none)))) := by
      intro z hz
      subst hz
      unfold s_X14_reads_120
      rw [e5, Option.bind_some, X5.kO, cN_of e6]
    by_cases u : b01 q = 0
    · rw [if_pos u]
      exact t120 1 (by rw [if_pos u])
    · rw [if_neg u]
      exact t120 0 (by rw [if_neg u])
  · rw [cc 17 (by decide) (by decide) (by decide) (by omega), upd_eq]
  · rw [cc j j3 (by omega) (by omega) (by omega), upd_ne (by omega)]
end
