/-! the reference's thing() -/
/-- only the reference's cells, its Stop and the Thing at t are touched -/
def Fq (t : Nat) (h h' : aH) : Prop := h'.length = h.length ∧ ∀ k, rfC k = false → k ≠ 118 → (k < t ∨ t + 12 < k) → h'[k]? = h[k]?
theorem Fq.trans {t : Nat} {h1 h2 h3 : aH} (p : Fq t h1 h2) (q : Fq t h2 h3) : Fq t h1 h3 := ⟨q.1.trans p.1, fun k a b c => (q.2 k a b c).trans (p.2 k a b c)⟩
theorem Fq.ou {t : Nat} {h h' : aH} (O : Ou h h') : Fq t h h' := ⟨O.1, fun k a _ _ => O.2 k a⟩
theorem Fq.rr {t : Nat} {h h' : aH} (O : FrR t h h') : Fq t h h' := ⟨O.1, fun k a b c => O.2 k (fun e => by rw [e] at a; exact absurd a (by decide)) b c⟩
theorem Fq.ob {t : Nat} {h h' : aH} (hl : h'.length = h.length) (f : ∀ i, i ≠ 104 → h'[i]? = h[i]?) : Fq t h h' := ⟨hl, fun k a _ _ => f k (fun e => by rw [e] at a; exact absurd a (by decide))⟩
theorem Fq.th {t : Nat} {h h' : aH} (hl : h'.length = h.length) (f : ∀ i, (i < t ∨ t + 12 < i) → h'[i]? = h[i]?) : Fq t h h' := ⟨hl, fun k _ _ c => f k c⟩
/-- a Thing beside the one that is touched -/
theorem isT.fq {h h' : aH} {t o : Nat} {B : Nat → Nat → Int32} {W : Nat → Int64} {G : Nat → Nat} (H : isT h o B W G) (O : Fq t h h') (ho : okt o) (sep : o + 12 < t ∨ t + 12 < o) : isT h' o B W G := by
  have z : ∀ k, k ≤ 12 → h'[o + k]? = h[o + k]? := fun k hk => O.2 _ (okt_cell ho hk) (fun e => by rcases ho with rfl | rfl | rfl | g <;> omega) (by omega)
  obtain ⟨a, h0, h1, h2⟩ := H
  exact ⟨a, by rw [show o = o + 0 from rfl, z 0 (by decide)]; exact h0, by rw [z 6 (by decide)]; exact h1, fun j j1 j2 j3 => by rw [z j j2]; exact h2 j j1 j2 j3⟩
section
variable {wd : Int64} {nv : Value} {Z : Nat → Nat → Int64}
theorem th86_at {h : aH} {S : Nat → Int32} {fv : Value} {V : Nat → Nat → Int32} {t : Nat} {A : Nat → Nat → Int32} {F : Nat → Nat} {B : Nat → Nat → Int32} {W : Nat → Int64} {G : Nat → Nat} {σ : pTh} (X : RW h S wd (.ref t) fv nv V Z) (HT : isT h t B W G) (ht : okt t) (D : rD B W G σ) (sim : simT A (thM σ) F B G) (KW : okW A (thM σ) F) (KC : okC A (thM σ) F) (p12 : prtN (rwL σ) 0 0 (thM σ 0) = F 12) (p13 : prtN (rwL σ) 0 3 (thM σ 1) = F 13) (p15 : prtN (rwL σ) 0 7 (thM σ 3) = F 15) (p14 : prtN (rwL σ) 0 5 (thM σ 2) * prtN (rwL σ) 0 7 (thM σ 3) = F 14) (f : Nat) :
    ∃ h' S' V', s_X14_thing_86 104 f 104 h = some (.inl (some (.int (jI (F 12)))), h') ∧ RC h' S' wd t (.ref f) nv V' Z A (thM σ) F B W G ∧ Ou h h' ∧ Sm [146, 147, 148, 149, 150, 151, 177, 181] V V' ∧ okLd V' A (thM σ) F ∧ (∀ j, j < 3 → V' 181 j = 0) ∧ (∀ j, j < 62 → V' 177 j = -1) ∧ (∀ j, j < F 12 → V' 146 j = 1 ∧ V' 147 j = 0 ∧ V' 150 j = -1) ∧ (S' 1 = 0 ∧ S' 2 = -1 ∧ S' 24 = 0 ∧ S' 25 = 0 ∧ S' 32 = 0 ∧ S' 59 = 0 ∧ S' 67 = 0 ∧ S' 68 = 0) ∧ ∀ j, j ≠ 1 → j ≠ 2 → (j < 20 ∨ 25 < j) → j ≠ 32 → j ≠ 59 → j ≠ 67 → j ≠ 68 → S' j = S j := by
  have r0 := X.obj (S' := S) (wd' := wd) (t' := .ref t) (f' := .ref f) (n' := nv)
  obtain ⟨h0, hh0⟩ : ∃ h0, h0 = h.set 104 (.inr (14, xFs S wd (.ref t) (.ref f) nv)) := ⟨_, rfl⟩
  rw [← hh0] at r0
  obtain ⟨X0, O0⟩ := r0
  have e0 : pF h (.ref 104) 14 5 (.ref f) = some h0 := by
    rw [hh0]
    exact pF_of (ltE (by decide)) X.1 (show 5 < 70 by decide)
  have T0 := HT.ou O0 ht
  have q0 : gO h0 (.ref 104) 14 4 = some t := gO_of (ltE (by decide)) X0.1 rfl
  have u1 := product1_at T0 D (kd := 0) (by decide)
  rw [show bsN 0 = 0 from rfl, p12] at u1
  obtain ⟨h1, e1, X1, O1⟩ := X0.pS (k := 20) rfl (jI (F 12))
  have T1 := T0.ou O1 ht
  have q1 : gO h1 (.ref 104) 14 4 = some t := gO_of (ltE (by decide)) X1.1 rfl
  have u2 := product1_at T1 D (kd := 1) (by decide)
  rw [show bsN 1 = 3 from rfl, p13] at u2
  obtain ⟨h2, e2, X2, O2⟩ := X1.pS (k := 21) rfl (jI (F 13))
  have T2 := T1.ou O2 ht
  have q2 : gO h2 (.ref 104) 14 4 = some t := gO_of (ltE (by decide)) X2.1 rfl
  have u3 := product1_at T2 D (kd := 3) (by decide)
  rw [show bsN 3 = 7 from rfl, p15] at u3
  obtain ⟨h3, e3, X3, O3⟩ := X2.pS (k := 23) rfl (jI (F 15))
  have T3 := T2.ou O3 ht
  have q3 : gO h3 (.ref 104) 14 4 = some t := gO_of (ltE (by decide)) X3.1 rfl
  have u4 := product2_at T3 D
  rw [p14] at u4
  obtain ⟨h4, e4, X4, O4⟩ := X3.pS (k := 22) rfl (jI (F 14))
  have T4 := T3.ou O4 ht
  have C4 : RC h4 _ wd t (.ref f) nv V Z A (thM σ) F B W G := ⟨X4, T4, ht, sim, KW, KC, rfl, rfl, rfl, rfl⟩
  obtain ⟨h5, S5, V5, e5, C5, O5, M5, l5, a5, b5, c5, d5, k5⟩ := th143_at C4
  refine ⟨h5, S5, V5, ?_, C5, ((((O0.trans O1).trans O2).trans O3).trans O4).trans O5, M5, l5, a5, b5, c5, d5, fun j j1 j2 j3 j4 j5 j6 j7 => ?_⟩
  · have u1' : s_X14_product t 0 0 h0 = some (.inl (some (.int (jI (F 12)))), h0) := u1
    have u2' : s_X14_product t 1 1 h1 = some (.inl (some (.int (jI (F 13)))), h1) := u2
    have u3' : s_X14_product t 3 3 h2 = some (.inl (some (.int (jI (F 15)))), h2) := u3
    unfold s_X14_thing_86
    rw [e0, Option.bind_some, q0, Option.bind_some, cI_of u1', e1, Option.bind_some, q1, Option.bind_some, cI_of u2', e2, Option.bind_some, q2, Option.bind_some, cI_of u3', e3, Option.bind_some, q3, Option.bind_some, cI_of u4, e4, Option.bind_some, e5]
  · rw [k5 j j1 j2 (by omega) (by omega) j4 j5 j6 j7, upd_ne (by omega), upd_ne (by omega), upd_ne (by omega), upd_ne (by omega)]
theorem thingR_no {tv fv : Value} {h : aH} {S : Nat → Int32} {V : Nat → Nat → Int32} (X : RW h S wd tv fv nv V Z) {n : Int32} (hn : n < 0 ∨ ¬ n ≤ S 9) : ∃ h', s_X14_thing 104 n h = some (.inl (some (.int (-1))), h', 0, 0) ∧ RW h' (twS (upd S 0 0) 2) wd tv fv nv V Z ∧ Ou h h' := by
  obtain ⟨h1, e1, X1, O1⟩ := X.pS (k := 0) rfl 0
  obtain ⟨h2, e2, X2, O2⟩ := X1.refused 2
  have g9 : gI h1 (.ref 104) 14 9 = some (S 9) := X1.gS (k := 9) rfl
  have tt : s_X14_thing_17 104 h1 0 0 = some (.inl (some (.int (-1))), h2, 0, 0) := by
    unfold s_X14_thing_17
    rw [X1.kO, cI_of e2]
    rfl
  refine ⟨h2, ?_, X2, O1.trans O2⟩
  unfold s_X14_thing
  rw [e1, Option.bind_some]
  by_cases q : n < 0
  · rw [if_pos q]
    exact tt
  · rw [if_neg q, g9, Option.bind_some, if_neg (hn.resolve_left q)]
    exact tt
theorem yN_n {β : Type} {o : aO} {h : aH} {f : aH → Option β} {g : String → Nat → aH → Option β} (e : o = some (.inl none, h)) : yN o f g = f h := by rw [e]; rfl
theorem yN_x {β : Type} {o : aO} {h : aH} {E : String} {i : Nat} {f : aH → Option β} {g : String → Nat → aH → Option β} (e : o = some (.inr (E, i), h)) : yN o f g = g E i h := by rw [e]; rfl
/-- up to the reading of the text -/
theorem thingR_begin {tv : Value} {tf n t : Nat} {T : Nat → Nat} {h : aH} {S : Nat → Int32} {V : Nat → Nat → Int32} {B0 : Nat → Nat → Int32} {W0 : Nat → Int64} {G0 : Nat → Nat} (X : RW h S wd tv (.ref tf) nv V Z) (H : isT h tf B0 W0 G0) (h2 : okt2 tf) (hf : okt tf) (hs : shS h) (XT : TPr V T) (hT : okTp T) (s9 : S 9 = jI t) (hn : n ≤ t) (h4 : t ≤ 400) :
    ∃ h4 S4 wd4 B4 G4, RPw h4 S4 wd4 tv (.ref tf) tf V Z T n 0 ∧ isT h4 tf B4 W0 G4 ∧ (∀ j, j < 5 → B4 1 j = 0) ∧ G4 6 = 0 ∧ G4 7 = 0 ∧ begS (upd S 0 0) S4 ∧ Fq tf h h4 ∧
      (∀ i g, s_X14_readThing 104 h4 = some (.inr (RX12, i), g) → s_X14_thing 104 (jI n) h = ck 0 0 (ck 0 0 (ck 0 0 (wC 0 0 (kO g 104 14 (cI (s_X14_faulty 104 i g) fun x53 h53 => some (.inl (some (.int x53)), h53))))))) ∧
      (∀ h44 h67 x64 t', s_X14_readThing 104 h4 = some (.inl none, h44) → gO h44 (.ref 104) 14 5 = some x64 → pF h44 (.ref 104) 14 4 (.ref x64) = some h67 → gW h44 (.ref 104) 14 4 = some (.ref t') → s_X14_thing 104 (jI n) h = ck 0 0 (ck 0 0 (ck 0 0 (wC 0 0 (s_X14_thing_86 104 t' 104 h67))))) ∧
      (∀ h44 h67 x64, s_X14_readThing 104 h4 = some (.inl none, h44) → gO h44 (.ref 104) 14 5 = some x64 → pF h44 (.ref 104) 14 4 (.ref x64) = some h67 → gW h44 (.ref 104) 14 4 = some .null → s_X14_thing 104 (jI n) h = ck 0 0 (ck 0 0 (ck 0 0 (bP (nwO dfX13 13 h67) fun o75 h75 => ck (0 + 1) (0 + 14) (dN (s_X13_init o75 h75) fun h79 n79 y79 => ck (0 + 1 + n79) (0 + 14 + y79) (wC (0 + 1 + n79) (0 + 14 + y79) (s_X14_thing_86 104 o75 104 h79))))))) := by
  obtain ⟨h1, e1, X1, O1⟩ := X.pS (k := 0) rfl 0
  have T1 := H.ou O1 hf
  have g9 : gI h1 (.ref 104) 14 9 = some (jI t) := by rw [← s9]; exact X1.gS (k := 9) rfl
  have q5 : gO h1 (.ref 104) 14 5 = some tf := gO_of (ltE (by decide)) X1.1 rfl
  have r2 := X1.obj (S' := upd S 0 0) (wd' := wd) (t' := tv) (f' := .ref tf) (n' := .ref tf)
  obtain ⟨g2, hg2⟩ : ∃ g2, g2 = h1.set 104 (.inr (14, xFs (upd S 0 0) wd tv (.ref tf) (.ref tf))) := ⟨_, rfl⟩
  rw [← hg2] at r2
  obtain ⟨X2, O2⟩ := r2
  have e2 : pF h1 (.ref 104) 14 6 (.ref tf) = some g2 := by
    rw [hg2]
    exact pF_of (ltE (by decide)) X1.1 (show 6 < 70 by decide)
  have T2 := T1.ou O2 hf
  have q6 : gO g2 (.ref 104) 14 6 = some tf := gO_of (ltE (by decide)) X2.1 rfl
  have htf : tf + 13 ≤ aE := T2.1
  obtain ⟨h3, B3, e3, T3, z3, l3, f3⟩ := clr2_go (W := W0) 5 0 FU g2 B0 G0 rfl (by unfold FU; omega) T2 (fun j hj => absurd hj (Nat.not_lt_zero _))
  have e3' : s_X13_clear tf g2 = some (.inl none, h3) := e3
  have X3 : RW h3 (upd S 0 0) wd tv (.ref tf) (.ref tf) V Z := X2.of (fun k hk => f3 k (by
    by_cases z : k < tf ∨ tf + 12 < k
    · exact z
    · exfalso
      have := okt_cell (k := k - tf) hf (by omega)
      rw [show tf + (k - tf) = k by omega, hk] at this
      cases this))
  have hs3 : shS h3 := by
    obtain ⟨fs, a1, a2⟩ := hs
    refine ⟨fs, ?_, a2⟩
    rw [f3 118 (by rcases hf with rfl | rfl | rfl | g <;> omega), O2.2 118 rfl, O1.2 118 rfl]
    exact a1
  obtain ⟨h5, S5, wd5, e5, X5, b5, l5, f5⟩ := begins_at X3 hs3 XT hT (show n ≤ 400 by omega) h2
  refine ⟨h5, S5, wd5, B3, upd2 (upd2 G0 6 0) 7 0, X5, ?_, z3, ?_, upd2_eq, b5, (((Fq.ou O1).trans (Fq.ou O2)).trans (Fq.th l3 f3)).trans (Fq.ob l5 f5), ?_⟩
  · obtain ⟨a, a0, a1, a2⟩ := T3
    have z : ∀ k, k ≤ 12 → h5[tf + k]? = h3[tf + k]? := fun k hk => f5 _ (fun e => by rcases hf with rfl | rfl | rfl | g <;> omega)
    exact ⟨a, by rw [show tf = tf + 0 from rfl, z 0 (by decide)]; exact a0, by rw [z 6 (by decide)]; exact a1, fun j j1 j2 j3 => by rw [z j j2]; exact a2 j j1 j2 j3⟩
  · rw [upd2_ne (by decide), upd2_eq]
  · refine ⟨fun i g e => ?_, fun h44 h67 x64 t' e a5 a4 aw => ?_, fun h44 h67 x64 e a5 a4 aw => ?_⟩
    · unfold s_X14_thing
      rw [e1, Option.bind_some, if_neg (jI_neg (by omega)), g9, Option.bind_some, if_pos ((jI_le (by omega) (by omega)).mpr hn), q5, Option.bind_some, e2, Option.bind_some, q6, Option.bind_some, T2.kO, cN_of e3', X3.kO, cN_of e5, X5.1.kO, yN_x e, if_pos rfl]
    · unfold s_X14_thing
      rw [e1, Option.bind_some, if_neg (jI_neg (by omega)), g9, Option.bind_some, if_pos ((jI_le (by omega) (by omega)).mpr hn), q5, Option.bind_some, e2, Option.bind_some, q6, Option.bind_some, T2.kO, cN_of e3', X3.kO, cN_of e5, X5.1.kO, yN_n e, aw, Option.bind_some, a5, Option.bind_some, a4, Option.bind_some]
    · unfold s_X14_thing
      rw [e1, Option.bind_some, if_neg (jI_neg (by omega)), g9, Option.bind_some, if_pos ((jI_le (by omega) (by omega)).mpr hn), q5, Option.bind_some, e2, Option.bind_some, q6, Option.bind_some, T2.kO, cN_of e3', X3.kO, cN_of e5, X5.1.kO, yN_n e, aw, Option.bind_some, a5, Option.bind_some, a4, Option.bind_some]
end
