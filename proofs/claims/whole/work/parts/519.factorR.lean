/-! the reference reads a factor -/
def RSx (h : aH) (S : Nat → Int32) (wd : Int64) (tv fv : Value) (t : Nat) (V : Nat → Nat → Int32) (Z : Nat → Nat → Int64) (T : Nat → Nat) (n k : Nat) (B : Nat → Nat → Int32) (W : Nat → Int64) (G : Nat → Nat) (nf : Nat) : Prop :=
  RPw h S wd tv fv t V Z T n k ∧ isT h t B W G ∧ S 16 = jI nf ∧ nf ≤ 60 ∧ G 7 ≤ 3 * nf
def itA (a : Int32 × Int32) : Int32 × Int32 := if 0 ≤ a.1 then (1, a.1) else (0, a.2)
/-- scalars that a sum leaves -/
def kp17 (S S' : Nat → Int32) : Prop := ∀ j, (j < 11 ∨ 16 < j) → S' j = S j
theorem kp17.trans {S S1 S2 : Nat → Int32} (a : kp17 S S1) (b : kp17 S1 S2) : kp17 S S2 := fun j hj => (b j hj).trans (a j hj)
theorem FaR.trans {h0 h h' : aH} {S0 S : Nat → Int32} {tv fv : Value} {t : Nat} {V : Nat → Nat → Int32} {Z : Nat → Nat → Int64} {T : Nat → Nat} {n : Nat} {e : Nat × Nat} (f : FrR t h0 h) (hs : ∀ j, (j < 11 ∨ 17 < j) → S j = S0 j) (F : FaR h h' S tv fv t V Z T n e) : FaR h0 h' S0 tv fv t V Z T n e := by
  obtain ⟨a, ⟨S', wd', b, c⟩, d, g⟩ := F
  exact ⟨a, ⟨S', wd', b, fun j hj => (c j hj).trans (hs j hj)⟩, d, f.trans g⟩
section
variable {h : aH} {S : Nat → Int32} {wd : Int64} {tv fv : Value} {t : Nat} {V : Nat → Nat → Int32} {Z : Nat → Nat → Int64} {T : Nat → Nat} {n k : Nat} {B : Nat → Nat → Int32} {W : Nat → Int64} {G : Nat → Nat} {m : Nat → Nat} {nm : Nat → List Nat} {nf kd pr : Nat}
/-- a change of the object alone keeps the Thing, the Stop -/
theorem RPw.ob (X : RPw h S wd tv fv t V Z T n k) {h' : aH} {S' : Nat → Int32} (X' : RW h' S' wd tv fv (.ref t) V Z) (o : ∀ i, i ≠ 104 → h'[i]? = h[i]?) (hs : ∀ j, j < 16 → S' j = S j) : RPw h' S' wd tv fv t V Z T n k := by
  obtain ⟨x1, x2, x3, x4, x5, ⟨y1, y2, y3, y4, y5, y6⟩, x7, fs, f0, f1⟩ := X
  exact ⟨X', x2, x3, x4, by rw [hs 10 (by decide)]; exact x5, ⟨by rw [hs 13 (by decide)]; exact y1, by rw [hs 12 (by decide)]; exact y2, fun q => by rw [hs 14 (by decide)]; exact y3 q, y4, fun q => by rw [hs 15 (by decide)]; exact y5 q, fun q => by rw [hs 11 (by decide)]; exact y6 q⟩, x7, fs, by rw [o 118 (by decide)]; exact f0, f1⟩
theorem RPw.th (X : RPw h S wd tv fv t V Z T n k) {h' : aH} (o : ∀ i, (i < t ∨ t + 12 < i) → h'[i]? = h[i]?) : RPw h' S wd tv fv t V Z T n k := by
  obtain ⟨x1, x2, x3, x4, x5, x6, x7, fs, f0, f1⟩ := X
  have q := okt2_ne x7
  exact ⟨x1.of (fun i hi => o i (rfC_okt2 x7 hi)), x2, x3, x4, x5, x6, x7, fs, by rw [o 118 (by omega)]; exact f0, f1⟩
theorem RW.pSo (X : RW h S wd tv fv (.ref t) V Z) {i : Nat} (hi : scR i = true) (x : Int32) : ∃ h', pF h (.ref 104) 14 i (.int x) = some h' ∧ RW h' (upd S i x) wd tv fv (.ref t) V Z ∧ h'.length = h.length ∧ ∀ j, j ≠ 104 → h'[j]? = h[j]? := by
  obtain ⟨h', e, X', O⟩ := X.pS hi x
  refine ⟨h', e, X', O.1, fun j hj => ?_⟩
  by_cases q : inR j = true
  · rw [X'.2.1 j q, X.2.1 j q]
  · by_cases q2 : loR j = true
    · rw [X'.2.2 j q2, X.2.2 j q2]
    · exact O.2 j (decide_eq_false (fun z => z.elim hj (fun z => z.elim q q2)))
/-- an item is put and the next token read -/
theorem f136_at (X : RPw h S wd tv fv t V Z T n k) (HT : isT h t B W G) (hg : G 7 < 400) (hk : (tokS T n k).1 ≠ 3) (a b : Int32) : ∃ h' S' wd' B', s_X14_readFactor_136 104 b a t h = some (.inl none, h') ∧ RPw h' S' wd' tv fv t V Z T n (k + 1) ∧ isT h' t B' W (upd2 G 7 (G 7 + 1)) ∧ apB [(a, b)] (G 7) B B' ∧ FrR t h h' ∧ ∀ j, (j < 11 ∨ 15 < j) → S' j = S j := by
  have qn := okt2_ne X.2.2.2.2.2.2.1
  obtain ⟨h1, B1, e1, T1, A1, l1, o1⟩ := put_at HT hg a b
  have X1 := X.th o1
  obtain ⟨h2, S2, wd2, e2, X2, l2, o2, s2⟩ := X1.next hk
  refine ⟨h2, S2, wd2, B1, ?_, X2, T1.of (fun i i1 i2 => o2 i (by omega)), A1, ⟨by rw [l2, l1], fun i i1 i2 i3 => by rw [o2 i i1, o1 i i3]⟩, s2⟩
  unfold s_X14_readFactor_136
  rw [HT.kO, e1]
  simp only [cN]
  rw [X1.kO, e2]
theorem f78_at (X : RSx h S wd tv fv t V Z T n k B W G nf) (sw : Int32 × Int32) (hsw : ((tokS T n k).1 = 2 ∧ sw = (-1, jI (tkN T (tokS T n k)))) ∨ ((tokS T n k).1 = 1 ∧ 0 ≤ sw.1)) :
    (60 ≤ nf → ∃ h', s_X14_readFactor_78 104 sw.1 h = some (.inr (RX12, 118), h') ∧ FaR h h' S tv fv t V Z T n (5, k)) ∧
    (nf < 60 → ∃ h' S' wd' B', s_X14_readFactor_78 104 sw.1 h = some (.inl none, h') ∧ RSx h' S' wd' tv fv t V Z T n (k + 1) B' W (upd2 G 7 (G 7 + 1)) (nf + 1) ∧ apB [itA sw] (G 7) B B' ∧ FrR t h h' ∧ kp17 S S') := by
  obtain ⟨X, HT, s16, n60, g3⟩ := X
  have qn := okt2_ne X.2.2.2.2.2.2.1
  have g16 := X.1.gS (k := 16) rfl
  rw [s16] at g16
  constructor
  · intro q
    obtain ⟨h', e, F⟩ := throw_at X HT 5
    refine ⟨h', ?_, F⟩
    unfold s_X14_readFactor_78
    have eq60 : nf = 60 := by omega
    rw [g16, Option.bind_some, if_pos (show jI nf = 60 by rw [eq60]; rfl)]
    exact e
  · intro q
    obtain ⟨h1, e1, X1, l1, o1⟩ := X.1.pSo (i := 16) rfl (jI (nf + 1))
    have X1' := X.ob X1 o1 (fun j hj => upd_ne (by omega))
    have T1 := HT.of (h' := h1) (fun i i1 i2 => o1 i (by omega))
    have g6 : gO h1 (.ref 104) 14 6 = some t := gO_of (ltE (by decide)) X1.1 rfl
    have head : ∀ {y : aO}, (if srt (tokS T n k).1 = 3 then (s_X14_readFactor_120 104 sw.1 0 t h1) else (s_X14_readFactor_120 104 sw.1 1 t h1)) = y → s_X14_readFactor_78 104 sw.1 h = y := by
      intro y hy
      unfold s_X14_readFactor_78
      rw [g16, Option.bind_some, if_neg (show ¬ jI nf = 60 from fun z => by have := (jI_inj (k := 60) (by omega) (by omega)).mp z; omega), Option.bind_some, jI_inc, e1, Option.bind_some, g6, Option.bind_some, X1'.s12, Option.bind_some]
      exact hy
    have fin : ∀ (a b : Int32), itA sw = (a, b) → (∀ {y : aO}, s_X14_readFactor_136 104 b a t h1 = y → s_X14_readFactor_78 104 sw.1 h = y) → ∃ h' S' wd' B', s_X14_readFactor_78 104 sw.1 h = some (.inl none, h') ∧ RSx h' S' wd' tv fv t V Z T n (k + 1) B' W (upd2 G 7 (G 7 + 1)) (nf + 1) ∧ apB [itA sw] (G 7) B B' ∧ FrR t h h' ∧ kp17 S S' := by
      intro a b hab go
      obtain ⟨h2, S2, wd2, B2, e2, X2, T2, A2, f2, s2⟩ := f136_at X1' T1 (by omega) (by omega) a b
      refine ⟨h2, S2, wd2, B2, go e2, ⟨X2, T2, by rw [s2 16 (by omega), upd_eq], by omega, by rw [upd2_eq]; omega⟩, by rw [hab]; exact A2, FrR.trans (show FrR t h h1 from ⟨l1, fun i i1 _ _ => o1 i i1⟩) f2, fun j hj => by rw [s2 j (by omega), upd_ne (by omega)]⟩
    rcases hsw with ⟨q2, rfl⟩ | ⟨q1, hs⟩
    · obtain ⟨-, -, w3⟩ := tok_whole q2
      have s15 : S 15 = jI (tkN T (tokS T n k)) := (X.2.2.2.2.2.1.2.2.2.2.1 q2).trans w3
      refine fin 0 (jI (tkN T (tokS T n k))) rfl (fun {y} hy => head ?_)
      rw [if_pos (srt_3.mpr q2)]
      unfold s_X14_readFactor_120
      rw [X1'.s12, Option.bind_some, if_pos (srt_3.mpr q2), X1.gS (k := 15) rfl, Option.bind_some, upd_ne (by decide), s15]
      exact hy
    · refine fin 1 sw.1 (by unfold itA; rw [if_pos hs]) (fun {y} hy => head ?_)
      have n3 : ¬ srt (tokS T n k).1 = 3 := fun z => by have := srt_3.mp z; omega
      rw [if_neg n3]
      unfold s_X14_readFactor_120
      rw [X1'.s12, Option.bind_some, if_neg n3]
      exact hy
theorem readFactor_at (X : RSx h S wd tv fv t V Z T n k B W G nf) (NM : NmR B W m nm) (s17 : S 17 = jI kd) (hkd : kd < 5) (hpr : bsN (kd + 1) = pr) :
    (∀ f, fcP T n nm m pr k nf = .inl f → ∃ h', s_X14_readFactor 104 h = some (.inr (RX12, 118), h') ∧ FaR h h' S tv fv t V Z T n (f, k)) ∧
    (∀ sw, fcP T n nm m pr k nf = .inr sw → nf < 60 ∧ ∃ h' S' wd' B', s_X14_readFactor 104 h = some (.inl none, h') ∧ RSx h' S' wd' tv fv t V Z T n (k + 1) B' W (upd2 G 7 (G 7 + 1)) (nf + 1) ∧ apB [itA sw] (G 7) B B' ∧ FrR t h h' ∧ kp17 S S') := by
  have X0 := X.1
  have HT := X.2.1
  have hm : ∀ k, k < 5 → bsN k + m k ≤ 11 := fun k hk => (NM.1 k hk).2
  have pr11 : pr ≤ 11 := by
    rw [← hpr]
    unfold bsN
    rw [if_neg (by omega)]
    omega
  have f23 : ∃ h', s_X14_readFactor_23 104 h = some (.inr (RX12, 118), h') ∧ FaR h h' S tv fv t V Z T n (1, k) := throw_at X0 HT 1
  have f72 : ∃ h', s_X14_readFactor_72 104 h = some (.inr (RX12, 118), h') ∧ FaR h h' S tv fv t V Z T n (2, k) := throw_at X0 HT 2
  unfold fcP
  by_cases q2 : (tokS T n k).1 = 2
  · rw [if_pos q2]
    have kp : kpB T n k = false := decide_eq_false (fun z => by have := z.1; omega)
    have n2 : ¬ srt (tokS T n k).1 = 2 := fun z => by have := srt_2.mp z; omega
    have head : ∀ {y : aO}, s_X14_readFactor_78 104 (-1) h = y → s_X14_readFactor 104 h = y := by
      intro y hy
      unfold s_X14_readFactor
      rw [X0.s12, Option.bind_some, if_pos (srt_3.mpr q2)]
      unfold s_X14_readFactor_16
      rw [X0.kO, isKept_at X0, kp]
      simp only [cI]
      rw [if_pos (show b01 false = 0 by decide), X0.s12, Option.bind_some, if_neg n2]
      unfold s_X14_readFactor_45
      rw [X0.s12, Option.bind_some, if_neg n2]
      exact hy
    obtain ⟨p1, p2⟩ := f78_at X (-1, jI (tkN T (tokS T n k))) (Or.inl ⟨q2, rfl⟩)
    by_cases u : 60 ≤ nf
    · rw [if_pos u]
      refine ⟨fun f hf => ?_, fun sw hsw => by cases hsw⟩
      cases hf
      obtain ⟨h', a, b⟩ := p1 u
      exact ⟨h', head a, b⟩
    · rw [if_neg u]
      refine ⟨fun f hf => (by cases hf), fun sw hsw => ?_⟩
      cases hsw
      obtain ⟨h', S', wd', B', a, b⟩ := p2 (by omega)
      exact ⟨by omega, h', S', wd', B', head a, b⟩
  · rw [if_neg q2]
    have n3 : ¬ srt (tokS T n k).1 = 3 := fun z => q2 (srt_3.mp z)
    by_cases q1 : (tokS T n k).1 = 1
    · have y2 := srt_2.mpr q1
      by_cases qr : rsO (tkW T (tokS T n k)) = none
      · rw [if_pos ⟨q1, qr⟩]
        have kp : kpB T n k = false := decide_eq_false (fun z => z.2 qr)
        have head : ∀ {y : aO}, s_X14_readFactor_45 104 (oI (slF nm m (tkW T (tokS T n k)))) h = y → s_X14_readFactor 104 h = y := by
          intro y hy
          unfold s_X14_readFactor
          rw [X0.s12, Option.bind_some, if_neg n3, Option.bind_some, if_pos y2]
          unfold s_X14_readFactor_16
          rw [X0.kO, isKept_at X0, kp]
          simp only [cI]
          rw [if_pos (show b01 false = 0 by decide), X0.s12, Option.bind_some, if_pos y2, X0.kO, slotHere_at X0 HT NM q1]
          exact hy
        cases qs : slF nm m (tkW T (tokS T n k)) with
        | none =>
          refine ⟨fun f hf => ?_, fun sw hsw => by cases hsw⟩
          cases hf
          obtain ⟨h', a, b⟩ := f72
          refine ⟨h', head ?_, b⟩
          rw [qs]
          unfold s_X14_readFactor_45
          rw [X0.s12, Option.bind_some, if_pos y2, if_pos (show oI none = -1 from rfl)]
          exact a
        | some s =>
          have s11 := slF_lt hm qs
          have h45 : ∀ {y : aO}, (if jI s < jI pr then (s_X14_readFactor_78 104 (jI s) h) else (s_X14_readFactor_72 104 h)) = y → s_X14_readFactor 104 h = y := by
            intro y hy
            refine head ?_
            rw [qs]
            unfold s_X14_readFactor_45
            have nm1 : ¬ oI (some s) = -1 := fun z => by
              have z : jI s = -1 := z
              have := jI_neg (j := s) (by omega)
              rw [z] at this
              exact this (by decide)
            rw [X0.s12, Option.bind_some, if_pos y2, if_neg nm1, X0.1.gS (k := 17) rfl, Option.bind_some, s17, jI_inc, slotOf_bs (by omega), hpr]
            exact hy
          dsimp only
          by_cases u : pr ≤ s
          · rw [if_pos u]
            refine ⟨fun f hf => ?_, fun sw hsw => by cases hsw⟩
            cases hf
            obtain ⟨h', a, b⟩ := f72
            exact ⟨h', h45 (by rw [if_neg (fun z => by have := (jI_lt (by omega) (by omega)).mp z; omega)]; exact a), b⟩
          · rw [if_neg u]
            have yes : jI s < jI pr := (jI_lt (by omega) (by omega)).mpr (by omega)
            have s0 : (0 : Int32) ≤ jI s := (jI_le (j := 0) (by omega) (by omega)).mpr (by omega)
            obtain ⟨p1, p2⟩ := f78_at X (jI s, 0) (Or.inr ⟨q1, s0⟩)
            by_cases v : 60 ≤ nf
            · rw [if_pos v]
              refine ⟨fun f hf => ?_, fun sw hsw => by cases hsw⟩
              cases hf
              obtain ⟨h', a, b⟩ := p1 v
              exact ⟨h', h45 (by rw [if_pos yes]; exact a), b⟩
            · rw [if_neg v]
              refine ⟨fun f hf => (by cases hf), fun sw hsw => ?_⟩
              cases hsw
              obtain ⟨h', S', wd', B', a, b⟩ := p2 (by omega)
              exact ⟨by omega, h', S', wd', B', h45 (by rw [if_pos yes]; exact a), b⟩
      · rw [if_neg (fun z => qr z.2)]
        refine ⟨fun f hf => ?_, fun sw hsw => by cases hsw⟩
        cases hf
        obtain ⟨h', a, b⟩ := f23
        refine ⟨h', ?_, b⟩
        have kp : kpB T n k = true := decide_eq_true ⟨q1, qr⟩
        unfold s_X14_readFactor
        rw [X0.s12, Option.bind_some, if_neg n3, Option.bind_some, if_pos y2]
        unfold s_X14_readFactor_16
        rw [X0.kO, isKept_at X0, kp]
        simp only [cI]
        rw [if_neg (show ¬ b01 true = 0 by decide)]
        exact a
    · rw [if_neg (fun z => q1 z.1)]
      refine ⟨fun f hf => ?_, fun sw hsw => by cases hsw⟩
      cases hf
      obtain ⟨h', a, b⟩ := f23
      refine ⟨h', ?_, b⟩
      unfold s_X14_readFactor
      rw [X0.s12, Option.bind_some, if_neg n3, Option.bind_some, if_neg (fun z => q1 (srt_2.mp z))]
      exact a
end
