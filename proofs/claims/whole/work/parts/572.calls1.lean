/-! calls: fault, where, trouble -/
section
variable {h : aH} {S V : Nat → Nat → Int32} {Z : Nat → Nat → Int64} {D Ln : Nat → Nat} {b : Nat} {N : Nat → Int64} {γ : gSt} {τ : tSt}
theorem KG.fa (K : KG h S V Z D Ln b γ) : wC 0 0 (s_X11_fault 0 h) = some (.inl (some (.int (qF γ))), h, 0, 0) := by
  have e := wC_of (c := 0) (s := 0) (faultC_at K.1)
  rw [K.2.2.2.2.2.1] at e
  exact e
theorem KG.tr (K : KG h S V Z D Ln b γ) : wC 0 0 (s_X11_trouble 0 h) = some (.inl (some (.int (qR γ))), h, 0, 0) := by
  have e := wC_of (c := 0) (s := 0) (troubleC_at K.1)
  rw [K.2.2.2.2.1] at e
  exact e
theorem KG.wh (K : KG h S V Z D Ln b γ) : wC 0 0 (s_X11_where 0 h) = some (.inl (some (.int (qW γ))), h, 0, 0) := by
  have e := wC_of (c := 0) (s := 0) (whereC_at K.1)
  obtain ⟨-, -, ⟨-, -, -, o4⟩, -, g3, -, g5, -⟩ := K
  rw [g3] at e
  by_cases q : qR γ = 4
  · rw [if_pos q, g5 q] at e
    exact e
  · rw [if_neg q, ← o4 q] at e
    exact e
end
theorem call_fault : cOK (fun h => wC 0 0 (s_X11_fault 0 h)) (s_X14_fault 104) := by
  refine cOK.of (fun γ _ => ⟨qF γ, γ, cN1.same fun h S V Z D Ln K => K.1.fa, rN1.same fun h h1 R e1 R1 => ?_⟩) fun γ τ _ _ _ => ⟨_, γ, τ, one_x, cT1.same fun h S V Z D Ln N K => K.1.fa, rT1.same fun h h1 t2 S wd t f nv V Z B W G e1 R1 => ?_⟩
  · obtain ⟨S, wd, nv, V, Z, g, -⟩ := R1
    have q : gI h1 (.ref 104) 14 3 = some (S 3) := g.1.gS rfl
    unfold s_X14_fault
    rw [e1, Option.bind_some, q, Option.bind_some, g.2.2.2.2.2.2.1]
  · have q : gI h1 (.ref 104) 14 3 = some (S 3) := R1.1.1.gS rfl
    unfold s_X14_fault
    rw [e1, Option.bind_some, q, Option.bind_some, R1.1.2.2.2.2.2.2.1]
theorem call_where : cOK (fun h => wC 0 0 (s_X11_where 0 h)) (s_X14_where 104) := by
  refine cOK.of (fun γ _ => ⟨qW γ, γ, cN1.same fun h S V Z D Ln K => K.1.wh, rN1.same fun h h1 R e1 R1 => ?_⟩) fun γ τ _ _ _ => ⟨_, γ, τ, one_x, cT1.same fun h S V Z D Ln N K => K.1.wh, rT1.same fun h h1 t2 S wd t f nv V Z B W G e1 R1 => ?_⟩
  · obtain ⟨S, wd, nv, V, Z, g, -⟩ := R1
    have q : gI h1 (.ref 104) 14 2 = some (S 2) := g.1.gS rfl
    unfold s_X14_where
    rw [e1, Option.bind_some, q, Option.bind_some, g.2.2.2.2.2.1]
  · have q : gI h1 (.ref 104) 14 2 = some (S 2) := R1.1.1.gS rfl
    unfold s_X14_where
    rw [e1, Option.bind_some, q, Option.bind_some, R1.1.2.2.2.2.2.1]
theorem call_trouble : cOK (fun h => wC 0 0 (s_X11_trouble 0 h)) (s_X14_trouble 104) := by
  refine cOK.of (fun γ _ => ⟨qR γ, γ, cN1.same fun h S V Z D Ln K => K.1.tr, rN1.same fun h h1 R e1 R1 => ?_⟩) fun γ τ _ _ _ => ⟨_, γ, τ, one_x, cT1.same fun h S V Z D Ln N K => K.1.tr, rT1.same fun h h1 t2 S wd t f nv V Z B W G e1 R1 => ?_⟩
  · obtain ⟨S, wd, nv, V, Z, g, -⟩ := R1
    have q : gI h1 (.ref 104) 14 1 = some (S 1) := g.1.gS rfl
    unfold s_X14_trouble
    rw [e1, Option.bind_some, q, Option.bind_some, g.2.2.2.2.1]
  · have q : gI h1 (.ref 104) 14 1 = some (S 1) := R1.1.1.gS rfl
    unfold s_X14_trouble
    rw [e1, Option.bind_some, q, Option.bind_some, R1.1.2.2.2.2.1]
/-! calls: safe, layer, allowed -/
theorem gO69 {h : aH} {S : Nat → Nat → Int32} {V : Nat → Nat → Int32} {Z : Nat → Nat → Int64} {D Ln : Nat → Nat} {b k x : Nat} (X : CW h S V Z D Ln b) (e : (oF S D 69).2[k]? = some (.ref x)) : gO h (.ref 69) 7 k = some x := gO_of (ltE (by decide)) (X.1 69 rfl) e
/-- the count of the safe ones -/
theorem safe26_go {h : aH} {S : Nat → Int32} {wd : Int64} {t : Nat} {fv nv : Value} {V : Nat → Nat → Int32} {Z : Nat → Nat → Int64} {A : Nat → Nat → Int32} {m F : Nat → Nat} {B : Nat → Nat → Int32} {W : Nat → Int64} {G : Nat → Nat} (C : RC h S wd t fv nv V Z A m F B W G) {good : Nat → Bool} (hs : ∀ d, d < 416 → bit (V 156) 0 d = sfW A m F good 0 d) : ∀ (n c f g : Nat), c + n = F 12 → n < f → g + n < 1000000 →
    s_X14_safe_26 f 104 (jI g) (jI c) h = (kO h 104 14 (cI (s_X14_done 104 (jI (g + cntR (sfW A m F good 0) c n)) h) fun x58 h58 => some (.inl (some (.int x58)), h58)))
  | _, _, 0, _, _, hf, _ => absurd hf (Nat.not_lt_zero _)
  | 0, c, f + 1, g, hn, _, _ => by
    have h400 := C.2.2.2.2.2.1.2.2.2.2.1
    show s_X14_safe_26_b (s_X14_safe_26 f) 104 (jI g) (jI c) h = _
    unfold s_X14_safe_26_b
    rw [C.g20, Option.bind_some, if_pos ((jI_le (by omega) (by omega)).mpr (show F 12 ≤ c by omega))]
    rfl
  | n + 1, c, f + 1, g, hn, hf, hg => by
    have h400 := C.2.2.2.2.2.1.2.2.2.2.1
    have ih := safe26_go C hs n (c + 1) f (g + (if sfW A m F good 0 c then 1 else 0)) (by omega) (by omega) (by split <;> omega)
    show s_X14_safe_26_b (s_X14_safe_26 f) 104 (jI g) (jI c) h = _
    unfold s_X14_safe_26_b
    rw [C.g20, Option.bind_some, if_neg (fun z => by have := (jI_le (by omega) (by omega)).mp z; omega), C.kO, cI_of (C.isSafe hs (show c < F 12 by omega))]
    rw [show cntR (sfW A m F good 0) c (n + 1) = (if sfW A m F good 0 c then 1 else 0) + cntR (sfW A m F good 0) (c + 1) n from rfl, ← Nat.add_assoc]
    cases q : sfW A m F good 0 c with
    | true =>
      rw [q] at ih
      rw [if_neg (by decide)]
      unfold s_X14_safe_48
      rw [jI_inc c, show jI g + 1 = jI (g + 1) from jI_inc g]
      exact ih
    | false =>
      rw [q] at ih
      rw [if_pos (by decide)]
      unfold s_X14_safe_48
      rw [jI_inc c, show jI g + 0 = jI (g + 0) from jI_add g 0]
      exact ih
theorem Gr.pre {h h1 : aH} {D D' : Nat → Nat} (hl : h.length ≤ h1.length) (g : Gr h1 D D') : Gr h D D' := fun i hi => by
  rcases g i hi with z | z
  · exact Or.inl z
  · exact Or.inr (by omega)
theorem sf0 {A : Nat → Nat → Int32} {m F : Nat → Nat} {good : Nat → Bool} (C : okC A m F) : sfW A m F good 0 = safeS (ldV A m F) (F 13) (F 14) (F 12) good := by
  funext d
  unfold sfW
  rw [ldW_0, nWd_0 C]
theorem refuse1 {w : Int32} {h h1 : aH} (e1 : pF h (.ref 0) 11 3 (.int w) = some h1) : s_X11_refused 0 w h = some (.inl (some (.int (-1))), h1) := by
  unfold s_X11_refused
  rw [e1, Option.bind_some]
theorem cntR_0 (T : Nat → Bool) (n : Nat) : 0 + cntR T 0 n = cntB T n := by
  have e := cntR_B T n 0
  rw [Nat.zero_add] at e
  exact e
theorem call_safe : cOK (s_X11_safe 0) (s_X14_safe 104) := by
  refine cOK.of (fun γ _ => ⟨-1, qTw γ 1, cN1.ref fun h h1 S V Z D Ln K e1 => ?_, rN1.ref fun h h1 h2 R e1 R1 e2 => ?_⟩) fun γ τ og ot lt => ⟨fun a => a = jI (cntB (safeS (ldV (uA τ) (uM τ) (uF τ)) (uF τ 13) (uF τ 14) (uF τ 12) (uG τ)) (uF τ 12)), qTw γ 0, τ, one_x, ?_, rT1.th fun h h1 t2 S wd t f nv V Z B W G e1 R1 => ?_⟩
  · unfold s_X11_safe
    rw [K.g2, Option.bind_some, if_pos rfl, K.k0, cI_of (refuse1 e1)]
    rfl
  · unfold s_X14_safe
    rw [e1, Option.bind_some, R1.tw, Option.bind_some]
    dsimp only
    rw [R1.k0, cI_of e2]
  · intro h S V Z D Ln N K
    obtain ⟨h1, e1, K1, O1⟩ := K.tw (w := 0) (by decide)
    obtain ⟨h2, S2, V2, D2, L2, n, y, e2, K2, mv, ln, sf, O2, G2, ct⟩ := K1.readySafety
    have g : gI h2 (.ref 69) 7 6 = some (S2 69 6) := gI_of (ltE (by decide)) (K2.1.1.1 69 rfl) rfl
    rw [sf.2.2] at g
    refine ⟨_, h2, 0 + n, 0 + y, rfl, ?_, S2, V2, Z, D2, L2, K2, Oa.of (O1.trans O2), G2.pre O1.1, ct.cat0⟩
    unfold s_X11_safe
    rw [K.g2, Option.bind_some, if_neg (by decide), e1, Option.bind_some, K1.k0, dR_of e2, g, Option.bind_some]
    exact ckw rfl
  · obtain ⟨h2, S2, V2, e2, R2, fd, O2⟩ := R1.finds ot
    obtain ⟨h3, S3, e3, R3, O3⟩ := R2.done (jI (cntB (safeS (ldV (uA τ) (uM τ) (uF τ)) (uF τ 13) (uF τ 14) (uF τ 12) (uG τ)) (uF τ 12)))
    have lp := safe26_go R2.2.2.1 (good := uG τ) (fun d hd => fd.2.1 0 (by decide) d hd) (uF τ 12) 0 FU 0 (Nat.zero_add _) (by unfold FU; omega) (by omega)
    rw [cntR_0, sf0 R2.2.2.1.2.2.2.2.2.1] at lp
    have lp' : s_X14_safe_26 FU 104 0 0 h2 = _ := lp
    refine ⟨_, h3, rfl, ?_, R3.rt, (Rf.ou O2).trans (Rf.ou O3)⟩
    unfold s_X14_safe
    rw [e1, Option.bind_some, R1.g4, Option.bind_some]
    dsimp only
    rw [R1.k0, cN_of e2, lp', R2.k0, cI_of e3]
