/-! the class reads a new name, a whole number -/
def FrL (h h' : aH) : Prop := h'.length = h.length ∧ ∀ i, i ≠ 51 → (i < 23 ∨ 42 < i) → h'[i]? = h[i]?
theorem FrL.refl {h : aH} : FrL h h := ⟨rfl, fun _ _ _ => rfl⟩
theorem FrL.trans {h1 h2 h3 : aH} (p : FrL h1 h2) (q : FrL h2 h3) : FrL h1 h3 := ⟨q.1.trans p.1, fun k a b => (q.2 k a b).trans (p.2 k a b)⟩
theorem FrS.toL {h h' : aH} (f : FrS 35 h h') : FrL h h' := ⟨f.1, fun i a b => f.2 i a (by omega)⟩
/-- the reader over the draft -/
def CLw (h : aH) (T : Nat → Nat) (n e k : Nat) (wh : Int32) (A : Nat → Nat → Int32) (N : Nat → Int64) (F : Nat → Nat) : Prop := (∃ fa pl, PCw h T n e fa pl k wh (jI 9) 23 35) ∧ isM h 23 A N F
/-- failed, over the draft -/
def FaL (h h' : aH) (T : Nat → Nat) (n : Nat) (e : Nat × Nat) : Prop := (∃ at' wh, RdW h' (jI e.1) (jI (tokS T n e.2).2.1) at' wh (jI 9) 23 35) ∧ (∃ A N F, isM h' 23 A N F ∧ okS (A 14)) ∧ FrL h h'
theorem FaL.trans {h0 h h' : aH} {T : Nat → Nat} {n : Nat} {e : Nat × Nat} (f : FrL h0 h) (F : FaL h h' T n e) : FaL h0 h' T n e := ⟨F.1, F.2.1, f.trans F.2.2⟩
section
variable {h : aH} {T : Nat → Nat} {n e k : Nat} {wh : Int32} {A : Nat → Nat → Int32} {N : Nat → Int64} {F : Nat → Nat} {σ : pTh}
theorem FaC.toL {h h' : aH} {e : Nat × Nat} (H : isM h 23 A N F) (C : FaC h h' T n e (jI 9) 23 35) : FaL h h' T n e := by
  obtain ⟨a, ⟨nf, jn, sl, ww, no, st, mi, en, re, FF, hS⟩, f⟩ := C
  exact ⟨a, ⟨_, _, _, H.formulas (fun i i1 i2 => f.2 i (by omega) (by omega)) FF, hS⟩, f.toL⟩
theorem CLw.failL (X : CLw h T n e k wh A N F) (hS : okS (A 14)) (f : Nat) : ∃ h', s_X6_fail 51 (jI f) h = some (.inl (some (.int 0)), h') ∧ FaL h h' T n (f, k) := by
  obtain ⟨⟨fa, pl, P⟩, H⟩ := X
  obtain ⟨h', a, r, o, l⟩ := fail_at P f
  exact ⟨h', a, ⟨_, _, r⟩, ⟨A, N, F, H.of (fun i i1 i2 => o i (by omega)), hS⟩, l, fun i i1 _ => o i i1⟩
theorem CLw.kO {β : Type} {y : Option β} (X : CLw h T n e k wh A N F) : kO h 51 6 y = y := by
  obtain ⟨⟨fa, pl, P⟩, -⟩ := X
  exact P.kO
theorem CLw.adv (X : CLw h T n e k wh A N F) (hne : (tokS T n k).1 ≠ 0) : ∃ h' x, gI h (.ref 51) 6 2 = some x ∧ pF h (.ref 51) 6 2 (.int (x + 1)) = some h' ∧ CLw h' T n e (k + 1) wh A N F ∧ FrL h h' ∧ ∀ i, i ≠ 51 → h'[i]? = h[i]? := by
  obtain ⟨⟨fa, pl, P⟩, H⟩ := X
  obtain ⟨h', x, a, b, c, d, o⟩ := P.next (Or.inl ⟨rfl, rfl⟩) hne
  exact ⟨h', x, a, b, ⟨⟨fa, pl, c⟩, H.of (fun i i1 i2 => o i (by omega))⟩, d.toL, o⟩
theorem CLw.kd (X : CLw h T n e k wh A N F) (c : Nat) (hc : c < 256) : jI (tokS T n k).1 = jI c ↔ (tokS T n k).1 = c := by
  obtain ⟨⟨fa, pl, P⟩, -⟩ := X
  exact P.kd c hc
theorem CLw.kind (X : CLw h T n e k wh A N F) : s_X6_kind 51 h = some (.inl (some (.int (jI (tokS T n k).1))), h) := by
  obtain ⟨⟨fa, pl, P⟩, -⟩ := X
  exact kind_at P
theorem CLw.mean (X : CLw h T n e k wh A N F) : s_X6_meaning 51 h = some (.inl (some (.long (mnI T (tokS T n k)))), h) := by
  obtain ⟨⟨fa, pl, P⟩, -⟩ := X
  exact meaning_at P
theorem CLw.res (X : CLw h T n e k wh A N F) (hw : (tokS T n k).1 = 1) : s_X6_reserved 51 h = some (.inl (some (.int (oI (rsO (tkW T (tokS T n k)))))), h) := by
  obtain ⟨⟨fa, pl, P⟩, -⟩ := X
  exact reserved_at P hw
theorem CLw.isW (X : CLw h T n e k wh A N F) {i : Nat} (hi : i < 8) : s_X6_isWord 51 (jI i) h = some (.inl (some (.int (b01 (isWd T n i k)))), h) := by
  obtain ⟨⟨fa, pl, P⟩, -⟩ := X
  exact isWord_at P hi
theorem CLw.g5 (X : CLw h T n e k wh A N F) : gO h (.ref 51) 6 5 = some 23 ∧ gO h (.ref 51) 6 6 = some 35 ∧ gI h (.ref 51) 6 3 = some wh ∧ gI h (.ref 51) 6 2 = some (jI k) := by
  obtain ⟨⟨fa, pl, P⟩, -⟩ := X
  exact ⟨gO_of (ltE (by decide)) P.1 rfl, gO_of (ltE (by decide)) P.1 rfl, gI_of (ltE (by decide)) P.1 rfl, gI_of (ltE (by decide)) P.1 rfl⟩
theorem CLw.to {h' : aH} {A' : Nat → Nat → Int32} {N' : Nat → Int64} {F' : Nat → Nat} (X : CLw h T n e k wh A N F) (H : isM h' 23 A' N' F') (o : ∀ i, (i < 23 ∨ 42 < i) → h'[i]? = h[i]?) : CLw h' T n e k wh A' N' F' := by
  obtain ⟨⟨fa, pl, P⟩, -⟩ := X
  exact ⟨⟨fa, pl, by unfold RdW; rw [o 51 (by omega)]; exact P.1, P.2.1.of (fun i i1 i2 => o i (by omega)), P.2.2⟩, H⟩
theorem mst_at {h : aH} {kd : Nat} (hk : kd < 5) : ldI .int h (.ref (aE + 2)) (jI kd) = some (jI (mxK kd)) := by
  rw [MOST_of hk]
  match kd, hk with
  | 0, _ => rfl
  | 1, _ => rfl
  | 2, _ => rfl
  | 3, _ => rfl
  | 4, _ => rfl
theorem newName_at (X : CLw h T n e k wh A N F) (D : cD A N F σ) {kd : Nat} (hkd : kd < 5) :
    (∀ f, nwP T n σ kd k = some f → ∃ h', s_X6_newName 51 (jI kd) h = some (.inl (some (.int 0)), h') ∧ FaL h h' T n (f, k)) ∧ (nwP T n σ kd k = none → s_X6_newName 51 (jI kd) h = some (.inl (some (.int 1)), h)) := by
  have NM := D.nm X.2
  have hm : ∀ k, k < 5 → bsN k + thM σ k ≤ 11 := mxK_bs (fun k hk => (D.1 k hk).2)
  have mk := (D.1 kd hkd).2
  have mx3 : mxK kd ≤ 3 := by unfold mxK; split <;> omega
  have gm : gO h (.ref 23) 2 0 = some 24 := X.2.mn
  have lm : ldI .int h (.ref 24) (jI kd) = some (jI (thM σ kd)) := by
    have := X.2.ldmn (s := kd) hkd
    rw [(D.1 kd hkd).1] at this
    exact this
  have f35 : ∃ h', s_X6_newName_35 51 h = some (.inl (some (.int 0)), h') ∧ FaL h h' T n (3, k) := by
    obtain ⟨h', a, b⟩ := X.failL D.2.2.2.2.1 3
    refine ⟨h', ?_, b⟩
    unfold s_X6_newName_35
    have a' : s_X6_fail 51 3 h = _ := a
    rw [X.kO, a']
    rfl
  unfold nwP
  by_cases q : (tokS T n k).1 = 1
  · obtain ⟨w1, w2, -⟩ := tok_word q
    rw [if_pos q]
    have head : ∀ {y : aO}, (if 0 ≤ oI (rsO (tkW T (tokS T n k))) then (s_X6_newName_35 51 h) else ((gO h (.ref 51) 6 5).bind fun x22 => kO h 51 6 (cJ (s_X6_meaning 51 h) fun x26 h26 => kO h26 x22 2 (cI (s_X2_slotOf x22 x26 h26) fun x29 h29 => if x29 < 0 then ((gO h29 (.ref 51) 6 5).bind fun x42 => (gO h29 (.ref x42) 2 0).bind fun x45 => (ldI .int h29 (.ref x45) (jI kd)).bind fun x49 => (ldI .int h29 (.ref (aE + 2)) (jI kd)).bind fun x54 => if x49 < x54 then (rtZ 1 h29) else (kO h29 51 6 (cI (s_X6_fail 51 5 h29) fun x60 h60 => if x60 = 0 then (rtZ 0 h60) else (rtZ 1 h60)))) else (s_X6_newName_35 51 h29))))) = y → s_X6_newName 51 (jI kd) h = y := by
      intro y hy
      unfold s_X6_newName
      rw [X.kO, X.kind]
      simp only [cI]
      rw [if_pos (show jI (tokS T n k).1 = 1 from (X.kd 1 (by decide)).mpr q), X.kO, X.res q]
      exact hy
    have r8 : ∀ s, rsO (tkW T (tokS T n k)) = some s → s < 2147483648 := fun s hs => Nat.lt_of_lt_of_le (rsO_lt hs) (by decide)
    by_cases qr : rsO (tkW T (tokS T n k)) = none
    · have nn : ¬ 0 ≤ oI (rsO (tkW T (tokS T n k))) := by rw [qr]; show ¬ (0 : Int32) ≤ -1; decide
      have head2 : ∀ {y : aO}, (if oI (slF (thN σ) (thM σ) (tkW T (tokS T n k))) < 0 then ((gO h (.ref 51) 6 5).bind fun x42 => (gO h (.ref x42) 2 0).bind fun x45 => (ldI .int h (.ref x45) (jI kd)).bind fun x49 => (ldI .int h (.ref (aE + 2)) (jI kd)).bind fun x54 => if x49 < x54 then (rtZ 1 h) else (kO h 51 6 (cI (s_X6_fail 51 5 h) fun x60 h60 => if x60 = 0 then (rtZ 0 h60) else (rtZ 1 h60)))) else (s_X6_newName_35 51 h)) = y → s_X6_newName 51 (jI kd) h = y := by
        intro y hy
        refine head ?_
        rw [if_neg nn, X.g5.1, Option.bind_some, X.kO, X.mean]
        simp only [cJ]
        rw [X.2.kO, w2, slotOf_cl NM w1]
        simp only [cI]
        exact hy
      by_cases qs : slF (thN σ) (thM σ) (tkW T (tokS T n k)) = none
      · rw [if_pos ⟨qr, qs⟩]
        have head3 : ∀ {y : aO}, (if jI (thM σ kd) < jI (mxK kd) then (rtZ 1 h) else (kO h 51 6 (cI (s_X6_fail 51 5 h) fun x60 h60 => if x60 = 0 then (rtZ 0 h60) else (rtZ 1 h60)))) = y → s_X6_newName 51 (jI kd) h = y := by
          intro y hy
          refine head2 ?_
          rw [if_pos (by rw [qs]; show (-1 : Int32) < 0; decide), X.g5.1, Option.bind_some, gm, Option.bind_some, lm, Option.bind_some, mst_at hkd, Option.bind_some]
          exact hy
        by_cases u : thM σ kd < mxK kd
        · rw [if_pos u]
          refine ⟨fun f hf => (by cases hf), fun _ => head3 ?_⟩
          rw [if_pos ((jI_lt (by omega) (by omega)).mpr u)]
          rfl
        · rw [if_neg u]
          refine ⟨fun f hf => ?_, fun hf => (by cases hf)⟩
          cases hf
          obtain ⟨h', a, b⟩ := X.failL D.2.2.2.2.1 5
          refine ⟨h', head3 ?_, b⟩
          have a' : s_X6_fail 51 5 h = _ := a
          rw [if_neg (fun z => u ((jI_lt (by omega) (by omega)).mp z)), X.kO, a']
          simp only [cI]
          rw [if_pos trivial]
          rfl
      · rw [if_neg (fun z => qs z.2)]
        refine ⟨fun f hf => ?_, fun hf => (by cases hf)⟩
        cases hf
        obtain ⟨h', a, b⟩ := f35
        refine ⟨h', head2 ?_, b⟩
        rw [if_neg (fun z => qs ((oI_neg (fun s hs => Nat.lt_of_lt_of_le (slF_lt hm hs) (by decide))).mp z))]
        exact a
    · rw [if_neg (fun z => qr z.1)]
      refine ⟨fun f hf => ?_, fun hf => (by cases hf)⟩
      cases hf
      obtain ⟨h', a, b⟩ := f35
      refine ⟨h', head ?_, b⟩
      have yes : 0 ≤ oI (rsO (tkW T (tokS T n k))) := by
        cases r : rsO (tkW T (tokS T n k)) with
        | none => exact absurd r qr
        | some s => exact (jI_le (j := 0) (by omega) (r8 s r)).mpr (Nat.zero_le s)
      rw [if_pos yes]
      exact a
  · rw [if_neg q]
    refine ⟨fun f hf => ?_, fun hf => (by cases hf)⟩
    cases hf
    obtain ⟨h', a, b⟩ := X.failL D.2.2.2.2.1 1
    refine ⟨h', ?_, b⟩
    unfold s_X6_newName
    have a' : s_X6_fail 51 1 h = _ := a
    rw [X.kO, X.kind]
    simp only [cI]
    rw [if_neg (show ¬ jI (tokS T n k).1 = 1 from fun z => q ((X.kd 1 (by decide)).mp z)), X.kO, a']
    rfl
theorem addName_at (X : CLw h T n e k wh A N F) (D : cD A N F σ) {kd : Nat} (hkd : kd < 5) (hm : thM σ kd < mxK kd) (w : Int64) : ∃ h', s_X2_addName 23 (jI kd) w h = some (.inl (some (.int (jI (bsN kd + thM σ kd)))), h') ∧ CLw h' T n e k wh (upd2 A 1 (upd (A 1) kd (jI (thM σ kd + 1)))) (vp_updL N (bsN kd + thM σ kd) w) F ∧ FrL h h' := by
  have b11 := mxK_bs (fun k hk => (D.1 k hk).2) kd hkd
  have sl11 : bsN kd + thM σ kd < 11 := by
    match kd, hkd, hm with
    | 0, _, t => show 0 + thM σ 0 < 11; have t : thM σ 0 < 3 := t; omega
    | 1, _, t => show 3 + thM σ 1 < 11; have t : thM σ 1 < 2 := t; omega
    | 2, _, t => show 5 + thM σ 2 < 11; have t : thM σ 2 < 2 := t; omega
    | 3, _, t => show 7 + thM σ 3 < 11; have t : thM σ 3 < 2 := t; omega
    | 4, _, t => show 9 + thM σ 4 < 11; have t : thM σ 4 < 2 := t; omega
  have lm : ∀ {h : aH} {N : Nat → Int64}, isM h 23 A N F → ldI .int h (.ref 24) (jI kd) = some (jI (thM σ kd)) := fun H => by
    have := H.ldmn (s := kd) hkd
    rw [(D.1 kd hkd).1] at this
    exact this
  have g1 : gO h (.ref 23) 2 1 = some 25 := gO_of (ltE (by decide)) X.2.2.1 rfl
  obtain ⟨h1, e1, H1, l1, o1⟩ := X.2.names (j := bsN kd + thM σ kd) sl11 w
  obtain ⟨h2, e2, H2, l2, o2⟩ := H1.many (j := kd) hkd (jI (thM σ kd + 1))
  refine ⟨h2, ?_, X.to H2 (fun i hi => by rw [o2 i (by omega), o1 i (by omega)]), by rw [l2, l1], fun i _ hi => by rw [o2 i (by omega), o1 i (by omega)]⟩
  unfold s_X2_addName
  rw [bs_at hkd, Option.bind_some, X.2.mn, Option.bind_some, lm X.2, Option.bind_some, g1, Option.bind_some, jI_add, e1, Option.bind_some, H1.mn, Option.bind_some, lm H1, Option.bind_some, jI_inc, e2, Option.bind_some]
end
