/-! the reference's thing(): refused, faulty, read -/
theorem dN_of {β : Type} {o : aP} {h : aH} {a b : Nat} {f : aH → Nat → Nat → Option β} (e : o = some (.inl none, h, a, b)) : dN o f = f h a b := by rw [e]; rfl
theorem dI_of {β : Type} {o : aP} {x : Int32} {h : aH} {a b : Nat} {f : Int32 → aH → Nat → Nat → Option β} (e : o = some (.inl (some (.int x)), h, a, b)) : dI o f = f x h a b := by rw [e]; rfl
theorem dR_of {β : Type} {o : aP} {x : Nat} {h : aH} {a b : Nat} {f : Nat → aH → Nat → Nat → Option β} (e : o = some (.inl (some (.ref x)), h, a, b)) : dR o f = f x h a b := by rw [e]; rfl
theorem wC_of {c s : Nat} {o : aO} {r : aR} {h : aH} (e : o = some (r, h)) : wC c s o = some (r, h, c, s) := by rw [e]; rfl
/-- what a thing leaves of the scalars, of the rows -/
def thnS (S S' : Nat → Int32) : Prop := (S' 1 = 0 ∧ S' 2 = -1 ∧ S' 3 = 0 ∧ S' 9 = 0 ∧ S' 24 = 0 ∧ S' 25 = 0 ∧ S' 32 = 0) ∧ S' 59 = 0 ∧ S' 67 = 0 ∧ S' 68 = 0 ∧ S' 56 = S 56
def thnV (V V' : Nat → Nat → Int32) (A : Nat → Nat → Int32) (m F : Nat → Nat) : Prop := Sm [146, 147, 148, 149, 150, 151, 177, 181] V V' ∧ okLd V' A m F ∧ (∀ j, j < 3 → V' 181 j = 0) ∧ (∀ j, j < 62 → V' 177 j = -1) ∧ ∀ j, j < F 12 → V' 146 j = 1 ∧ V' 147 j = 0 ∧ V' 150 j = -1
theorem shS.of {h h' : aH} (H : shS h) (e : h'[118]? = h[118]?) : shS h' := by
  obtain ⟨fs, a, b⟩ := H
  exact ⟨fs, by rw [e]; exact a, b⟩
section
variable {wd : Int64} {nv : Value} {Z : Nat → Nat → Int64} {tv : Value} {tf n t : Nat} {T : Nat → Nat} {h : aH} {S : Nat → Int32} {V : Nat → Nat → Int32} {B0 : Nat → Nat → Int32} {W0 : Nat → Int64} {G0 : Nat → Nat}
theorem thingR_bad (X : RW h S wd tv (.ref tf) nv V Z) (H : isT h tf B0 W0 G0) (h2 : okt2 tf) (hf : okt tf) (hs : shS h) (XT : TPr V T) (hT : okTp T) (s9 : S 9 = jI t) (hn : n ≤ t) (h4 : t ≤ 400) {e : Nat × Nat} (he : thP T n 401 th0 0 = .inl e) :
    ∃ h' S' wd', s_X14_thing 104 (jI n) h = some (.inl (some (.int (-1))), h', 0, 0) ∧ RW h' S' wd' tv (.ref tf) (.ref tf) V Z ∧ aftS (upd S 0 0) S' 4 (jI (tokS T n e.2).2.1) (jI e.1) (S 25) ∧ Fq tf h h' ∧ (∃ B W G, isT h' tf B W G) ∧ shS h' := by
  obtain ⟨h5, S4, wd4, B4, G4, R4, T4, z4, g6, g7, b4, f4, ee, -, -⟩ := thingR_begin X H h2 hf hs XT hT s9 hn h4
  obtain ⟨h6, e6, st, ⟨S6, wd6, X6, k6⟩, ⟨B6, W6, G6, T6⟩, f6⟩ := (readThingR_at R4 T4 z4 g6 g7 b4.2.2.1).1 e he
  obtain ⟨h7, e7, X7, O7⟩ := faulty_at X6 st
  refine ⟨h7, _, wd6, ?_, X7, ⟨?_, rfl, ?_, ?_, ?_, fun j j1 j2 j3 j4 j5 => ?_⟩, (f4.trans (Fq.rr f6)).trans (Fq.ou O7), ⟨B6, W6, G6, T6.ou O7 hf⟩, ?_⟩
  · rw [ee 118 h6 e6, X6.kO, cI_of e7]
    rfl
  · rfl
  · rfl
  · rw [upd_ne (by decide), upd_ne (by decide), upd_ne (by decide), k6 9 (by decide)]
    exact b4.1
  · rw [upd_ne (by decide), upd_ne (by decide), upd_ne (by decide), k6 25 (by decide), b4.2.2.2 25 (by decide) (by decide) (by decide) (by decide)]
    rfl
  · rw [upd_ne j2, upd_ne j1, upd_ne j3, k6 j (by omega)]
    exact b4.2.2.2 j j3 (by omega) (by omega) (by omega)
  · obtain ⟨fs, a1, a2, -⟩ := st
    exact ⟨fs, by rw [O7.2 118 rfl]; exact a1, a2⟩
variable {A : Nat → Nat → Int32} {N : Nat → Int64} {F : Nat → Nat} {σ : pTh}
/-- read, up to the change of the standing Thing -/
theorem thingR_read (X : RW h S wd tv (.ref tf) nv V Z) (H : isT h tf B0 W0 G0) (h2 : okt2 tf) (hf : okt tf) (hs : shS h) (XT : TPr V T) (hT : okTp T) (s9 : S 9 = jI t) (hn : n ≤ t) (h4 : t ≤ 400) (he : thP T n 401 th0 0 = .inr σ) :
    ∃ h6 S6 wd6 B6 W6 G6, RW h6 S6 wd6 (.ref tf) (.ref tf) (.ref tf) V Z ∧ isT h6 tf B6 W6 G6 ∧ rD B6 W6 G6 σ ∧ G6 7 ≤ 400 ∧ Fq tf h h6 ∧ shS h6 ∧ fitB σ = true ∧ (S6 9 = 0 ∧ S6 3 = 0 ∧ ∀ j, j ≠ 0 → j ≠ 3 → (j < 9 ∨ 17 < j) → S6 j = S j) ∧
      (∀ t', tv = .ref t' → s_X14_thing 104 (jI n) h = ck 0 0 (ck 0 0 (ck 0 0 (wC 0 0 (s_X14_thing_86 104 t' 104 h6))))) ∧
      (tv = .null → s_X14_thing 104 (jI n) h = ck 0 0 (ck 0 0 (ck 0 0 (bP (nwO dfX13 13 h6) fun o75 h75 => ck (0 + 1) (0 + 14) (dN (s_X13_init o75 h75) fun h79 n79 y79 => ck (0 + 1 + n79) (0 + 14 + y79) (wC (0 + 1 + n79) (0 + 14 + y79) (s_X14_thing_86 104 o75 104 h79))))))) := by
  obtain ⟨h5, S4, wd4, B4, G4, R4, T4, z4, g6, g7, b4, f4, -, ee, en⟩ := thingR_begin X H h2 hf hs XT hT s9 hn h4
  obtain ⟨hfit, h6, S6, wd6, B6, W6, G6, k', e6, ⟨R6, T6, s16, n60, g60⟩, D6, f6, k6⟩ := (readThingR_at R4 T4 z4 g6 g7 b4.2.2.1).2 σ he
  have X6 := R6.1
  have r7 := X6.obj (S' := S6) (wd' := wd6) (t' := .ref tf) (f' := .ref tf) (n' := .ref tf)
  obtain ⟨h7, hh7⟩ : ∃ h7, h7 = h6.set 104 (.inr (14, xFs S6 wd6 (.ref tf) (.ref tf) (.ref tf))) := ⟨_, rfl⟩
  rw [← hh7] at r7
  obtain ⟨X7, O7⟩ := r7
  have e7 : pF h6 (.ref 104) 14 4 (.ref tf) = some h7 := by
    rw [hh7]
    exact pF_of (ltE (by decide)) X6.1 (show 4 < 70 by decide)
  have q5 : gO h6 (.ref 104) 14 5 = some tf := gO_of (ltE (by decide)) X6.1 rfl
  refine ⟨h7, S6, wd6, B6, W6, G6, X7, T6.ou O7 hf, D6, by omega, (f4.trans (Fq.rr f6)).trans (Fq.ou O7), ?_, hfit, ⟨?_, ?_, fun j j0 j1 j2 => ?_⟩, fun t' ht => ?_, fun ht => ?_⟩
  · obtain ⟨-, -, -, -, -, -, -, st⟩ := R6
    exact st.of (O7.2 118 rfl)
  · rw [k6 9 (by decide)]
    exact b4.1
  · rw [k6 3 (by decide)]
    exact b4.2.1
  · rw [k6 j (by omega), b4.2.2.2 j j1 (by omega) (by omega) (by omega), upd_ne j0]
  · subst ht
    exact ee h6 h7 tf t' e6 q5 e7 (gW_ref (ltE (by decide)) X6.1 rfl)
  · subst ht
    exact en h6 h7 tf e6 q5 e7 (gW_null (ltE (by decide)) X6.1 rfl)
theorem thingR_old {t' : Nat} (X : RW h S wd (.ref t') (.ref tf) nv V Z) (H : isT h tf B0 W0 G0) (h2 : okt2 tf) (hf : okt tf) (hs : shS h) (XT : TPr V T) (hT : okTp T) (s9 : S 9 = jI t) (hn : n ≤ t) (h4 : t ≤ 400) (he : thP T n 401 th0 0 = .inr σ) (D : cD A N F σ) (KW : okW A (thM σ) F) (KC : okC A (thM σ) F) :
    ∃ h' S' wd' V' B W G, s_X14_thing 104 (jI n) h = some (.inl (some (.int (jI (F 12)))), h', 0, 0) ∧ RC h' S' wd' tf (.ref t') (.ref tf) V' Z A (thM σ) F B W G ∧ rD B W G σ ∧ Fq tf h h' ∧ shS h' ∧ thnS S S' ∧ thnV V V' A (thM σ) F := by
  obtain ⟨h6, S6, wd6, B6, W6, G6, X6, T6, D6, g400, f6, hs6, hfit, ⟨s69, s63, s6⟩, ee, -⟩ := thingR_read X H h2 hf hs XT hT s9 hn h4 he
  obtain ⟨c12, c13, c15, c14, -⟩ := id KC
  obtain ⟨p1, p2, p3, p4, -⟩ := D.prt
  obtain ⟨h7, S7, V7, e7, C7, O7, M7, l7, a7, b7, c7, ⟨d1, d2, d24, d25, d32, d59, d67, d68⟩, k7⟩ := th86_at X6 T6 hf D6 (one_thing D D6 g400) KW KC (by rw [c12, p1]) (by rw [c13, p2]) (by rw [c15, p4]) (by rw [c14, c15, p3, p4]) t'
  refine ⟨h7, S7, wd6, V7, B6, W6, G6, ?_, C7, D6, f6.trans (Fq.ou O7), hs6.of (O7.2 118 rfl), ⟨⟨d1, d2, ?_, ?_, d24, d25, d32⟩, d59, d67, d68, ?_⟩, M7, l7, a7, b7, c7⟩
  · rw [ee t' rfl, wC_of e7, ck_of (Nat.le_refl _) (Nat.le_refl _), ck_of (Nat.le_refl _) (Nat.le_refl _), ck_of (Nat.le_refl _) (Nat.le_refl _)]
  · rw [k7 3 (by decide) (by decide) (by decide) (by decide) (by decide) (by decide) (by decide)]
    exact s63
  · rw [k7 9 (by decide) (by decide) (by decide) (by decide) (by decide) (by decide) (by decide)]
    exact s69
  · rw [k7 56 (by decide) (by decide) (by decide) (by decide) (by decide) (by decide) (by decide)]
    exact s6 56 (by decide) (by decide) (by decide)
theorem thingR_new (X : RW h S wd .null (.ref tf) nv V Z) (H : isT h tf B0 W0 G0) (h2 : okt2 tf) (hf : okt tf) (hs : shS h) (XT : TPr V T) (hT : okTp T) (s9 : S 9 = jI t) (hn : n ≤ t) (h4 : t ≤ 400) (he : thP T n 401 th0 0 = .inr σ) (D : cD A N F σ) (KW : okW A (thM σ) F) (KC : okC A (thM σ) F) (hl : h.length + 14 < aE) (hl2 : 184 ≤ h.length) (hft : tf + 12 < h.length) :
    ∃ h' S' wd' V' B W G, s_X14_thing 104 (jI n) h = some (.inl (some (.int (jI (F 12)))), h', 13, 906) ∧ RC h' S' wd' tf (.ref h.length) (.ref tf) V' Z A (thM σ) F B W G ∧ rD B W G σ ∧ isT h' h.length (fun _ _ => 0) (fun _ => 0) (fun _ => 0) ∧ (h'.length = h.length + 13 ∧ ∀ k, k < h.length → rfC k = false → k ≠ 118 → (k < tf ∨ tf + 12 < k) → h'[k]? = h[k]?) ∧ shS h' ∧ thnS S S' ∧ thnV V V' A (thM σ) F := by
  obtain ⟨h6, S6, wd6, B6, W6, G6, X6, T6, D6, g400, f6, hs6, hfit, ⟨s69, s63, s6⟩, -, ee⟩ := thingR_read X H h2 hf hs XT hT s9 hn h4 he
  have el : h6.length = h.length := f6.1
  obtain ⟨o, ho⟩ : ∃ o, o = h.length := ⟨_, rfl⟩
  rw [← ho] at el hl hl2 hft ⊢
  have e7 : nwO dfX13 13 h6 = some (o, h6 ++ [.inr (13, dfX13)]) := by rw [nwO_of (by omega), el]
  have a7 : (h6 ++ [.inr (13, dfX13)])[o]? = some (.inr (13, dfX13)) := by
    rw [List.getElem?_append_right (by omega), el, Nat.sub_self]
    rfl
  obtain ⟨h8, e8, T8, l8, f8⟩ := init13_at (h := h6 ++ [.inr (13, dfX13)]) (o := o) (by rw [List.length_append, el]; rfl) (by omega) a7
  have g8 : ∀ i, i < o → h8[i]? = h6[i]? := fun i hi => by rw [f8 i hi, List.getElem?_append_left (by omega)]
  have X8 : RW h8 S6 wd6 (.ref tf) (.ref tf) (.ref tf) V Z := X6.of (fun k hk => g8 k (by
    have := of_decide_eq_true hk
    rcases this with z | z | z
    · omega
    · have := inR_lt z; omega
    · have := loR_lt z; omega))
  have T8f : isT h8 tf B6 W6 G6 := by
    obtain ⟨a, a0, a1, a2⟩ := T6
    exact ⟨a, by rw [g8 _ (by omega)]; exact a0, by rw [g8 _ (by omega)]; exact a1, fun j j1 j2 j3 => by rw [g8 _ (by omega)]; exact a2 j j1 j2 j3⟩
  obtain ⟨c12, c13, c15, c14, -⟩ := id KC
  obtain ⟨p1, p2, p3, p4, -⟩ := D.prt
  obtain ⟨h9, S9, V9, e9, C9, O9, M9, l9, a9, b9, c9, ⟨d1, d2, d24, d25, d32, d59, d67, d68⟩, k9⟩ := th86_at X8 T8f hf D6 (one_thing D D6 g400) KW KC (by rw [c12, p1]) (by rw [c13, p2]) (by rw [c15, p4]) (by rw [c14, c15, p3, p4]) o
  refine ⟨h9, S9, wd6, V9, B6, W6, G6, ?_, C9, D6, T8.ou O9 (Or.inr (Or.inr (Or.inr (by omega)))), ⟨by rw [O9.1, l8], fun k k1 k2 k3 k4 => by rw [O9.2 k k2, g8 k k1]; exact f6.2 k k2 k3 k4⟩, hs6.of (by rw [O9.2 118 rfl, g8 118 (by omega)]), ⟨⟨d1, d2, ?_, ?_, d24, d25, d32⟩, d59, d67, d68, ?_⟩, M9, l9, a9, b9, c9⟩
  · rw [ee rfl]
    rw [bP_of e7, dN_of e8, wC_of e9]
    rw [ck_of (by decide) (by decide), ck_of (by decide) (by decide), ck_of (by decide) (by decide), ck_of (by decide) (by decide), ck_of (by decide) (by decide)]
  · rw [k9 3 (by decide) (by decide) (by decide) (by decide) (by decide) (by decide) (by decide)]
    exact s63
  · rw [k9 9 (by decide) (by decide) (by decide) (by decide) (by decide) (by decide) (by decide)]
    exact s69
  · rw [k9 56 (by decide) (by decide) (by decide) (by decide) (by decide) (by decide) (by decide)]
    exact s6 56 (by decide) (by decide) (by decide)
end
