/-! the class reads a wish -/
def wshT (T : Nat → Nat) (n : Nat) (nm : Nat → List Nat) (m : Nat → Nat) : (Nat × Nat) ⊕ List pOne := match teP T n nm m 3 31 0 0 with
  | .inl e => .inl e
  | .inr x => if (tokS T n x.2).1 = 0 then .inr x.1 else .inl (1, x.2)
def wshS (T : Nat → Nat) (n : Nat) (nm : Nat → List Nat) (m : Nat → Nat) : (Nat × Nat) ⊕ List pFa := match suP T n nm m 5 0 0 with
  | .inl e => .inl e
  | .inr x => if (tokS T n x.2).1 = 0 then .inr x.1 else .inl (1, x.2)
section
variable {h : aH} {T : Nat → Nat} {n : Nat} {m : Nat → Nat} {nm : Nat → List Nat}
/-- a wish is begun: its formulas empty, the reader at the first token -/
theorem wish_begin (hT : okTp T) (hn : n ≤ 400) (X : PSh h) (XT : TPw h T) (NM : NmW h 3 m nm) (pr : Nat) (x : Int32) (hx : x = jI pr) : ∃ h1 h2 h3 e wh jn sl ww st mi en re, s_X0_clear 43 h = some (.inl none, h1) ∧ (∀ {β : Type} {y : Option β}, kO h 43 0 y = y) ∧ (∀ {β : Type} {y : Option β}, kO h1 51 6 y = y) ∧ s_X6_begin 51 1 (jI n) 3 43 h1 = some (.inl none, h2) ∧ pF h2 (.ref 51) 6 4 (.int x) = some h3 ∧ PCw h3 T n e 0 (-1) 0 wh (jI pr) 3 43 ∧ isF h3 43 0 jn sl ww 0 st mi en re ∧ okS sl ∧ NmW h3 3 m nm ∧ FrP h h3 ∧ (∃ A N F, isM h3 23 A N F ∧ okS (A 14)) := by
  obtain ⟨⟨fa, pl, at', wh, per, mo, fo, R⟩, ⟨cnt, K, P, M, TT⟩, ⟨A, N, F, H, hS⟩, ⟨nf, jn, sl, ww, no, st, mi, en, re, FF, sS⟩⟩ := X
  obtain ⟨h1, e1, F1, l1, o1⟩ := clearF_at FF
  have R1 : RdW h1 fa pl at' wh per mo fo := by unfold RdW; rw [o1 51 (by decide)]; exact R
  have T1 := TT.of (h' := h1) (fun i i1 i2 => o1 i (by omega))
  have XT1 : TPw h1 T := by
    obtain ⟨g, a, b⟩ := XT
    exact ⟨g, by rw [o1 1 (by decide)]; exact a, b⟩
  obtain ⟨h2, e, e2, X2, f2⟩ := begin_at hT hn R1 T1 XT1 3 43
  have p3 := X2.1.set (i := 4) (x := x) (by decide)
  obtain ⟨h3, hh3⟩ : ∃ h3, h3 = h2.set 51 (.inr (6, [.int (if 4 = 0 then x else 0), .int (if 4 = 1 then x else -1), .int (if 4 = 2 then x else jI 0), .int (if 4 = 3 then x else wh), .int (if 4 = 4 then x else per), .ref 3, .ref 43, .ref 52])) := ⟨_, rfl⟩
  rw [← hh3] at p3
  have o3 : ∀ i, i ≠ 51 → h3[i]? = h2[i]? := fun i hi => by rw [hh3, set_ne (fun z => hi z.symm)]
  have ob : ∀ i, (i < 51 ∨ 55 < i) → h3[i]? = h1[i]? := fun i hi => by rw [o3 i (by omega), f2.2 i (by omega)]
  refine ⟨h1, h2, h3, e, wh, jn, sl, ww, st, mi, en, re, e1, kO_of (ltE (by decide)) FF.2.1, kO_of (ltE (by decide)) R1, e2, p3, ⟨?_, X2.2.1.of (fun i i1 i2 => o3 i (by omega)), X2.2.2⟩, F1.of (fun i i1 i2 => ob i (by omega)), sS, NM.of (fun i i1 i2 => by rw [ob i (by omega), o1 i (by omega)]), ⟨by rw [hh3, List.length_set, f2.1, l1], fun i hi => by rw [ob i (by omega), o1 i (by omega)]⟩, ⟨A, N, F, H.of (fun i i1 i2 => by rw [ob i (by omega), o1 i (by omega)]), hS⟩⟩
  rw [hh3, ← hx]
  exact set_eq X2.1
/-- what is left of the reading's cells -/
theorem wish_left {h3 h' : aH} {e : Nat} {wh per : Int32} {fa pl : Int32} {k : Nat} (X3 : PCw h3 T n e fa pl k wh per 3 43) (HM : ∃ A N F, isM h3 23 A N F ∧ okS (A 14)) (f : FrS 43 h3 h') (hr : ∃ fa pl at' wh per mo fo, RdW h' fa pl at' wh per mo fo) (hs : shF h' 43) : PSh h' := by
  obtain ⟨A, N, F, H, hS⟩ := HM
  obtain ⟨K9, P9, M9, a, -⟩ := X3.2.1
  exact ⟨hr, ⟨_, _, _, _, a.of (fun i i1 i2 => f.2 i (by omega) (by omega))⟩, ⟨A, N, F, H.of (fun i i1 i2 => f.2 i (by omega) (by omega)), hS⟩, hs⟩
theorem FrS.toP {h h' : aH} (f : FrS 43 h h') : FrP h h' := ⟨f.1, fun i hi => f.2 i (by omega) (by omega)⟩
theorem readTestC_at (hT : okTp T) (hn : n ≤ 400) (X : PSh h) (XT : TPw h T) (NM : NmW h 3 m nm) :
    (∀ x, wshT T n nm m = .inl x → ∃ h', s_X6_readTest 51 1 (jI n) 3 43 h = some (.inl (some (.int 0)), h') ∧ PSh h' ∧ (∃ at' wh, RdW h' (jI x.1) (jI (tokS T n x.2).2.1) at' wh (jI 3) 3 43) ∧ FrP h h') ∧
    (∀ l, wshT T n nm m = .inr l → ∃ h', s_X6_readTest 51 1 (jI n) 3 43 h = some (.inl (some (.int 1)), h') ∧ PSh h' ∧ wTest h' l ∧ FrP h h') := by
  obtain ⟨h1, h2, h3, e, wh, jn, sl, ww, st, mi, en, re, e1, k43, k51, e2, p3, X3, F3, S3, NM3, f3, HM⟩ := wish_begin hT hn X XT NM 3 3 rfl
  obtain ⟨c1, c2⟩ := test2_go (Or.inr ⟨rfl, rfl⟩) (by decide) 31 0 FU 0 0 0 h3 _ _ _ _ _ _ _ (by omega) (by decide) (by decide) (by decide) X3 NM3 F3 S3
  have b1 : ldI .int h2 (.ref (aE + 1)) 1 = some 3 := bs_at (k := 1) (by decide)
  have head : ∀ {y : aO}, (cI (s_X6_test 51 h3) fun x24 h24 => if x24 = 0 then (rtZ 0 h24) else (kO h24 51 6 (cI (s_X6_kind 51 h24) fun x31 h31 => if x31 = 0 then (rtZ 1 h31) else (kO h31 51 6 (cI (s_X6_fail 51 1 h31) fun x39 h39 => if x39 = 0 then (rtZ 0 h39) else (rtZ 1 h39)))))) = y → s_X6_readTest 51 1 (jI n) 3 43 h = y := by
    intro y hy
    unfold s_X6_readTest
    rw [k43, cN_of e1, k51, cN_of e2, b1, Option.bind_some, p3, Option.bind_some, X3.kO]
    exact hy
  unfold wshT
  cases q : teP T n nm m 3 31 0 0 with
  | inl z =>
    refine ⟨fun x hx => ?_, fun l hl => by cases hl⟩
    cases hx
    obtain ⟨h', a, ⟨⟨at', wh', r⟩, s, f⟩⟩ := c1 z q
    exact ⟨h', head (by rw [show s_X6_test 51 h3 = _ from a]; rfl), wish_left X3 HM f ⟨_, _, _, _, _, _, _, r⟩ s, ⟨at', wh', r⟩, f3.trans f.toP⟩
  | inr z =>
    obtain ⟨w1, w2, h4, jn', sl', ww', st', mi', en', re', a4, X4, F4, -, ⟨O4, S4⟩, f4⟩ := c2 z q
    rw [Nat.zero_add, Nat.zero_add] at F4
    rw [Nat.zero_add] at w1 w2
    have a4' : s_X6_test 51 h3 = some (.inl (some (.int 1)), h4) := a4
    dsimp only
    by_cases u : (tokS T n z.2).1 = 0
    · rw [if_pos u]
      refine ⟨fun x hx => (by cases hx), fun l hl => ?_⟩
      cases hl
      refine ⟨h4, head ?_, wish_left X3 HM f4 ⟨_, _, _, _, _, _, _, X4.1⟩ ⟨_, _, _, _, _, _, _, _, _, F4, S4⟩, ⟨_, _, _, _, _, _, _, _, _, F4, by omega, S4, fun i hi => ?_, O4.2.1⟩, f3.trans f4.toP⟩
      · rw [cI_of a4', if_neg (show ¬ (1 : Int32) = 0 by decide), X4.kO, cI_of (kind_at X4), if_pos (show jI (tokS T n z.2).1 = 0 by rw [u]; rfl)]
        rfl
      · obtain ⟨a, b, c, r1, r2, r3, r4, r5⟩ := O4.2.2 i (Nat.zero_le i) (by omega)
        exact ⟨a, b, c, r1, r2, r3, by omega⟩
    · rw [if_neg u]
      refine ⟨fun x hx => ?_, fun l hl => by cases hl⟩
      cases hx
      obtain ⟨h', a, ⟨⟨at', wh', r⟩, s, f⟩⟩ := X4.failX F4 S4 (Or.inr ⟨rfl, rfl⟩) 1
      have a' : s_X6_fail 51 1 h4 = _ := a
      refine ⟨h', head ?_, wish_left X3 HM (f4.trans f) ⟨_, _, _, _, _, _, _, r⟩ s, ⟨at', wh', r⟩, f3.trans (f4.trans f).toP⟩
      rw [cI_of a4', if_neg (show ¬ (1 : Int32) = 0 by decide), X4.kO, cI_of (kind_at X4), if_neg (show ¬ jI (tokS T n z.2).1 = 0 from fun v => u ((X4.kd 0 (by decide)).mp v)), X4.kO, cI_of a', if_pos rfl]
      rfl
theorem readSumC_at (hT : okTp T) (hn : n ≤ 400) (X : PSh h) (XT : TPw h T) (NM : NmW h 3 m nm) :
    (∀ x, wshS T n nm m = .inl x → ∃ h', s_X6_readSum 51 1 (jI n) 3 43 h = some (.inl (some (.int 0)), h') ∧ PSh h' ∧ (∃ at' wh, RdW h' (jI x.1) (jI (tokS T n x.2).2.1) at' wh (jI 5) 3 43) ∧ FrP h h') ∧
    (∀ l, wshS T n nm m = .inr l → ∃ h', s_X6_readSum 51 1 (jI n) 3 43 h = some (.inl (some (.int 1)), h') ∧ PSh h' ∧ wSum h' l ∧ FrP h h') := by
  obtain ⟨h1, h2, h3, e, wh, jn, sl, ww, st, mi, en, re, e1, k43, k51, e2, p3, X3, F3, S3, NM3, f3, HM⟩ := wish_begin hT hn X XT NM 5 5 rfl
  obtain ⟨c1, c2⟩ := sum_at (Or.inr ⟨rfl, rfl⟩) (by decide) (by decide) X3 NM3 F3 S3
  have b1 : ldI .int h2 (.ref (aE + 1)) 2 = some 5 := bs_at (k := 2) (by decide)
  have head : ∀ {y : aO}, (cI (s_X6_sum 51 h3) fun x24 h24 => if x24 = 0 then (rtZ 0 h24) else (kO h24 51 6 (cI (s_X6_kind 51 h24) fun x31 h31 => if x31 = 0 then (rtZ 1 h31) else (kO h31 51 6 (cI (s_X6_fail 51 1 h31) fun x39 h39 => if x39 = 0 then (rtZ 0 h39) else (rtZ 1 h39)))))) = y → s_X6_readSum 51 1 (jI n) 3 43 h = y := by
    intro y hy
    unfold s_X6_readSum
    rw [k43, cN_of e1, k51, cN_of e2, b1, Option.bind_some, p3, Option.bind_some, X3.kO]
    exact hy
  unfold wshS
  cases q : suP T n nm m 5 0 0 with
  | inl z =>
    refine ⟨fun x hx => ?_, fun l hl => by cases hl⟩
    cases hx
    obtain ⟨h', a, ⟨⟨at', wh', r⟩, s, f⟩⟩ := c1 z q
    exact ⟨h', head (by rw [a]; rfl), wish_left X3 HM f ⟨_, _, _, _, _, _, _, r⟩ s, ⟨at', wh', r⟩, f3.trans f.toP⟩
  | inr z =>
    obtain ⟨w1, h4, jn', sl', ww', a4, X4, F4, ⟨O4, S4⟩, f4⟩ := c2 z q
    rw [Nat.zero_add] at F4 w1
    dsimp only
    by_cases u : (tokS T n z.2).1 = 0
    · rw [if_pos u]
      refine ⟨fun x hx => (by cases hx), fun l hl => ?_⟩
      cases hl
      refine ⟨h4, head ?_, wish_left X3 HM f4 ⟨_, _, _, _, _, _, _, X4.1⟩ ⟨_, _, _, _, _, _, _, _, _, F4, S4⟩, ⟨_, _, _, _, _, _, _, _, _, F4, w1, S4, O4.2⟩, f3.trans f4.toP⟩
      rw [cI_of a4, if_neg (show ¬ (1 : Int32) = 0 by decide), X4.kO, cI_of (kind_at X4), if_pos (show jI (tokS T n z.2).1 = 0 by rw [u]; rfl)]
      rfl
    · rw [if_neg u]
      refine ⟨fun x hx => ?_, fun l hl => by cases hl⟩
      cases hx
      obtain ⟨h', a, ⟨⟨at', wh', r⟩, s, f⟩⟩ := X4.failX F4 S4 (Or.inr ⟨rfl, rfl⟩) 1
      have a' : s_X6_fail 51 1 h4 = _ := a
      refine ⟨h', head ?_, wish_left X3 HM (f4.trans f) ⟨_, _, _, _, _, _, _, r⟩ s, ⟨at', wh', r⟩, f3.trans (f4.trans f).toP⟩
      rw [cI_of a4, if_neg (show ¬ (1 : Int32) = 0 by decide), X4.kO, cI_of (kind_at X4), if_neg (show ¬ jI (tokS T n z.2).1 = 0 from fun v => u ((X4.kd 0 (by decide)).mp v)), X4.kO, cI_of a', if_pos rfl]
      rfl
end
