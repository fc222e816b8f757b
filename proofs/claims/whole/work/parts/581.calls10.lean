/-! calls: guess, probe -/
theorem anyR_cnt (T : Nat → Bool) : ∀ (n c : Nat), anyR T c n = decide (cntR T c n ≠ 0)
  | 0, _ => rfl
  | n + 1, c => by
    show (T c || anyR T (c + 1) n) = decide ((if T c then 1 else 0) + cntR T (c + 1) n ≠ 0)
    rw [anyR_cnt T n (c + 1)]
    cases T c with
    | true =>
      rw [if_pos rfl, Bool.true_or]
      exact (decide_eq_true (by omega)).symm
    | false =>
      rw [if_neg (by decide), Bool.false_or, Nat.zero_add]
theorem bdG_cg {T : Nat → Bool} {f f' : Nat → Int32} {mo : Bool} : ∀ (n c : Nat) (a : Int32), (∀ d, c ≤ d → d < c + n → f d = f' d) → bdG T f mo c n a = bdG T f' mo c n a
  | 0, _, _, _ => rfl
  | n + 1, c, a, h => by
    have e := h c (Nat.le_refl _) (by omega)
    have ih := fun a => bdG_cg (T := T) (mo := mo) n (c + 1) a (fun d x y => h d (by omega) (by omega))
    unfold bdG
    rw [e, ih, ih]
theorem gsG_cg {T : Nat → Bool} {f f' : Nat → Int32} {mo : Bool} : ∀ (n c : Nat) (a : Int32), (∀ d, c ≤ d → d < c + n → f d = f' d) → gsG T f mo c n a = gsG T f' mo c n a
  | 0, _, _, _ => rfl
  | n + 1, c, a, h => by
    have e := h c (Nat.le_refl _) (by omega)
    have ih := fun a => gsG_cg (T := T) (mo := mo) n (c + 1) a (fun d x y => h d (by omega) (by omega))
    unfold gsG
    rw [e, ih, ih]
/-- the span's end that a guess begins with -/
def gsE (τ : tSt) (mo : Bool) (s : Nat) : Int32 := if mo then uA τ 3 s else uA τ 4 s
theorem spr_in_span {A : Nat → Nat → Int32} {m s c : Nat} (hs : s < m) (hR : okR A s) (hc : c < 2147483648) : A 3 s ≤ sprGo A 0 0 m (jI c) zV s ∧ sprGo A 0 0 m (jI c) zV s ≤ A 4 s ∧ sprGo A 0 0 m (jI c) zV s ≠ -2147483648 := by
  obtain ⟨d, hd, e⟩ := spr_val (A := A) (b := 0) (w := 0) m c zV s hc (Nat.zero_le _) (by omega)
  have w := wdN_R hR
  obtain ⟨r1, r2, r3⟩ := hR
  have e3 := (toInt_small (x := A 3 s) (y := jI d) (by omega) (by rw [jI_int (by omega)]; omega)).2
  rw [jI_int (by omega)] at e3
  rw [e, i32_sub0]
  refine ⟨Int32.le_iff_toInt_le.mpr (by omega), Int32.le_iff_toInt_le.mpr (by omega), fun z => ?_⟩
  have z' := congrArg Int32.toInt z
  have m9 : (-2147483648 : Int32).toInt = -2147483648 := by decide
  omega
theorem guess_one {τ : tSt} {T : Nat → Bool} {mo : Bool} {s : Nat} (hs : s < uM τ 0) (hR : okR (uA τ) s) (h400 : uF τ 12 ≤ 400) : bdG T (fun c => sprGo (uA τ) 0 0 (uM τ 0) (jI c) zV s) mo 0 (uF τ 12) (-2147483648) = if cntB T (uF τ 12) = 0 then -2147483648 else gsG T (fun c => sprGo (uA τ) 0 0 (uM τ 0) (jI c) zV s) mo 0 (uF τ 12) (gsE τ mo s) := by
  have fe : ∀ d, 0 ≤ d → d < 0 + uF τ 12 → (fun c => sprGo (uA τ) 0 0 (uM τ 0) (jI c) zV s) d = (fun c => if c < 1000000 then sprGo (uA τ) 0 0 (uM τ 0) (jI c) zV s else gsE τ mo s) d := fun d _ hd => (if_pos (by omega)).symm
  have ge : gsE τ mo s ≠ -2147483648 := by
    obtain ⟨r1, r2, r3⟩ := hR
    intro z
    have z' := congrArg Int32.toInt z
    have m9 : (-2147483648 : Int32).toInt = -2147483648 := by decide
    unfold gsE at z'
    cases mo with
    | true =>
      rw [if_pos rfl] at z'
      omega
    | false =>
      rw [if_neg (by decide)] at z'
      omega
  rw [bdG_cg _ _ _ fe, gsG_cg _ _ _ fe, bd_first (e := gsE τ mo s) (fun c => ?_) (fun c => ?_), anyR_cnt]
  · have e0 := cntR_0 T (uF τ 12)
    rw [Nat.zero_add] at e0
    rw [e0]
    by_cases z : cntB T (uF τ 12) = 0
    · rw [if_pos z, decide_eq_false (fun y => y z), if_neg (by decide)]
    · rw [if_neg z, decide_eq_true z, if_pos rfl]
  · by_cases q : c < 1000000
    · rw [if_pos q]
      exact (spr_in_span hs hR (by omega)).2.2
    · rw [if_neg q]
      exact ge
  · by_cases q : c < 1000000
    · rw [if_pos q]
      have sp := spr_in_span hs hR (show c < 2147483648 by omega)
      unfold gsE
      cases mo with
      | true =>
        rw [if_pos rfl, if_pos rfl]
        exact sp.1
      | false =>
        rw [if_neg (by decide), if_neg (by decide)]
        exact sp.2.1
    · rw [if_neg q]
      cases mo with
      | true =>
        rw [if_pos rfl]
        exact Int32.le_refl _
      | false =>
        rw [if_neg (by decide)]
        exact Int32.le_refl _
theorem call_guess (x : Int32) (mo : Bool) : cOK (s_X11_guess 0 x (b01 mo)) (s_X14_guess 104 x (b01 mo)) := by
  refine cOK.of (fun γ _ => ⟨-2147483648, γ, cN1.same fun h S V Z D Ln K => ?_, rN1.same fun h h1 R e1 R1 => ?_⟩) fun γ τ og ot lt => ?_
  · unfold s_X11_guess s_X11_guess_24
    rw [K.g2, Option.bind_some, if_pos rfl]
    rfl
  · unfold s_X14_guess
    rw [e1, Option.bind_some, R1.tw, Option.bind_some]
    rfl
  · obtain ⟨m0, -⟩ := id lt.2.2.2.1
    have l400 := lt.1
    rcases in_or x (show uM τ 0 < 2147483648 by omega) with ⟨s, hs, rfl⟩ | q
    · refine ⟨fun a => a = bdG (caT τ 0) (fun c => sprGo (uA τ) 0 0 (uM τ 0) (jI c) zV s) mo 0 (uF τ 12) (-2147483648), γ, τ, one_x, ?_, rT1.th fun h h1 t2 S wd t f nv V Z B W G e1 R1 => ?_⟩
      · intro h S V Z D Ln N K
        obtain ⟨h2, S2, V2, D2, L2, n, y, e2, K2, mv, ln, O2, G2, ct⟩ := K.readyWatcher
        obtain ⟨h3, n3, y3, e3, w⟩ := K2.2.2.1.bound mv ln K2.gd K2.wa hs mo
        obtain ⟨S3, V3, D3, L3, K3, O3, G3, ct3⟩ := K2.af w
        rw [ca30 ot lt K2.kW] at e3
        have l0 : ldI .int h (.ref 4) 0 = some (jI (uM τ 0)) := K.ldm (k := 0) (by decide)
        refine ⟨_, h3, 0 + n + n3, 0 + y + y3, rfl, ?_, S3, V3, Z, D3, L3, K3, Oa.of (O2.trans2 G2 O3), Gr.trans O2.1 G2 G3, ct.cat0.trans ct3⟩
        unfold s_X11_guess
        rw [K.g2, Option.bind_some, if_neg (by decide), if_neg (jI_neg (by omega)), K.g7, Option.bind_some, K.mn, Option.bind_some, l0, Option.bind_some, if_pos ((jI_lt (by omega) (by omega)).mpr hs), K.k0, dR_of e2, kO_of (ltE (by decide)) (K2.1.1.1 92 rfl), dI_of e3, ckw rfl, ck_of (Nat.le_add_right _ _) (Nat.le_add_right _ _)]
      · have dc : decl (uM τ) s := Or.inl hs
        have hR := R1.2.2.1.2.2.2.2.1.2.2.1 s dc
        rw [guess_one hs hR l400]
        obtain ⟨h2, V2, e2, R2, O2, v2⟩ := R1.gathers ot (tick := uK τ) (bn := uK τ) (fl := 0) (Nat.le_refl _) (by omega)
        have e2' : s_X14_gathers 104 (jI (uK τ)) (jI (uK τ)) 0 h1 = some (.inl (some (.int (jI (cntB (caT τ 0) (uF τ 12))))), h2) := e2
        obtain ⟨l1, l2, l3⟩ := R1.ldm (k := 0) (by decide)
        have l3' : ldI .int h1 (.ref (t + 1)) 0 = some (jI (uM τ 0)) := l3
        have cb := cntB_le (caT τ 0) (uF τ 12)
        have main : s_X14_guess 104 (jI s) (b01 mo) h = (if jI (cntB (caT τ 0) (uF τ 12)) = 0 then (s_X14_guess_47 h2) else (if b01 mo = 0 then ((gO h2 (.ref 104) 14 4).bind fun x67 => (gO h2 (.ref x67) 13 2).bind fun x70 => (ldI .int h2 (.ref x70) (jI s)).bind fun x74 => s_X14_guess_75 104 (jI s) (b01 mo) x74 h2) else ((gO h2 (.ref 104) 14 4).bind fun x55 => (gO h2 (.ref x55) 13 1).bind fun x58 => (ldI .int h2 (.ref x58) (jI s)).bind fun x62 => s_X14_guess_75 104 (jI s) (b01 mo) x62 h2))) := by
          unfold s_X14_guess
          rw [e1, Option.bind_some, R1.g4, Option.bind_some]
          dsimp only
          rw [l1, Option.bind_some, l2, Option.bind_some, l3', Option.bind_some, cI_of (inR_in hs (by omega) h1), if_neg (by decide), R1.g59, Option.bind_some, Option.bind_some, R1.k0, cI_of e2']
        by_cases z : cntB (caT τ 0) (uF τ 12) = 0
        · refine ⟨_, h2, rfl, ?_, R2.rt, Rf.ou O2⟩
          rw [main, if_pos z, z, if_pos (by decide)]
          rfl
        · have nz : ¬ jI (cntB (caT τ 0) (uF τ 12)) = 0 := fun y => z ((jI_inj (k := 0) (by omega) (by decide)).mp y)
          obtain ⟨h3, V3, e3, C3, O3, M3⟩ := gu79_go hs (mo := mo) (T := caT τ 0) (uF τ 12) 0 FU (gsE τ mo s) h2 V2 (Nat.zero_add _) (by unfold FU; omega) R2.2.2.1 v2
          have R3 := R2.scr C3 O3 (M3.mono (by decide)) SmZ.refl smS.refl
          have e3' : s_X14_guess_75 104 (jI s) (b01 mo) (gsE τ mo s) h2 = _ := e3
          have HT := R2.2.2.1.2.1
          have sim := R2.2.2.1.2.2.2.1.2.1 s dc
          have g4 : gO h2 (.ref 104) 14 4 = some t := gO_of (ltE (by decide)) R2.1.1.1 rfl
          have g1 : gO h2 (.ref t) 13 1 = some (t + 2) := gO_of (by have := HT.1; omega) HT.2.1 rfl
          have g2 : gO h2 (.ref t) 13 2 = some (t + 3) := gO_of (by have := HT.1; omega) HT.2.1 rfl
          have d2 : ldI .int h2 (.ref (t + 2)) (jI s) = some (B 2 s) := HT.ld (k := 2) (by decide) (by decide) (by decide) (show s < 11 by omega)
          have d3 : ldI .int h2 (.ref (t + 3)) (jI s) = some (B 3 s) := HT.ld (k := 3) (by decide) (by decide) (by decide) (show s < 11 by omega)
          rw [sim.1] at d2
          rw [sim.2] at d3
          refine ⟨_, h3, rfl, ?_, R3.rt, (Rf.ou O2).trans (Rf.ou O3)⟩
          rw [main, if_neg nz, if_neg z]
          cases mo with
          | true =>
            rw [if_neg (by decide), g4, Option.bind_some, g1, Option.bind_some, d2, Option.bind_some]
            exact e3'
          | false =>
            rw [if_pos (by decide), g4, Option.bind_some, g2, Option.bind_some, d3, Option.bind_some]
            exact e3'
    · refine ⟨fun a => a = -2147483648, γ, τ, one_x, cT1.same fun h S V Z D Ln N K => ?_, rT1.same fun h h1 t2 S wd t f nv V Z B W G e1 R1 => ?_⟩
      · have l0 : ldI .int h (.ref 4) 0 = some (jI (uM τ 0)) := K.ldm (k := 0) (by decide)
        unfold s_X11_guess s_X11_guess_24
        rw [K.g2, Option.bind_some, if_neg (by decide)]
        by_cases z : x < 0
        · rw [if_pos z]
          rfl
        · rw [if_neg z, K.g7, Option.bind_some, K.mn, Option.bind_some, l0, Option.bind_some, if_neg (i32_nlt.mpr (q.resolve_left z))]
          rfl
      · obtain ⟨l1, l2, l3⟩ := R1.ldm (k := 0) (by decide)
        have l3' : ldI .int h1 (.ref (t + 1)) 0 = some (jI (uM τ 0)) := l3
        unfold s_X14_guess
        rw [e1, Option.bind_some, R1.g4, Option.bind_some]
        dsimp only
        rw [l1, Option.bind_some, l2, Option.bind_some, l3', Option.bind_some, cI_of (inR_out q (by omega) h1), if_pos rfl]
        rfl
/-- what can be tried in a cell -/
theorem al_zero {τ : tSt} (ot : okτ τ) (C : okC (uA τ) (uM τ) (uF τ)) (h9 : uF τ 13 ≤ 9) {c : Nat} {y : Int32} (al : okAl (uA τ) (uM τ) (uF τ) (uG τ) c y) : y = 0 ↔ sfW (uA τ) (uM τ) (uF τ) (uG τ) 0 c = false := by
  constructor
  · intro e
    cases q : sfW (uA τ) (uM τ) (uF τ) (uG τ) 0 c with
    | false => rfl
    | true =>
      exfalso
      rw [sf0 C] at q
      obtain ⟨-, cn⟩ := safe_fix (C := uF τ 12) ot.1 q
      unfold canB at cn
      obtain ⟨p, hp, ip⟩ := List.any_eq_true.mp cn
      have hp := List.mem_range.mp hp
      have b := (al p (by omega)).mpr ⟨hp, by rw [sf0 C]; exact q, by rw [sf0 C]; exact ip⟩
      rw [e] at b
      have : bitI 0 p = false := by
        unfold bitI
        exact BitVec.getLsbD_zero
      rw [this] at b
      cases b
  · intro q
    refine bits_eq fun p hp => ?_
    have : bitI 0 p = false := by
      unfold bitI
      exact BitVec.getLsbD_zero
    rw [this, al p hp, q]
    exact ⟨fun z => absurd z.2.1 (by decide), fun z => absurd z (by decide)⟩
def fiT (τ : tSt) : Nat → Bool := fiS (uA τ) (uM τ) (uF τ) (uG τ) (uP τ) (uT τ) (uV τ) (jI (uK τ)) 0 (uK τ)
theorem dlB_cg {f g : Nat → Bool} {ld : Nat → Int32} {n : Nat} (h : ∀ k, k < n → f k = g k) : ∀ k, k < n → dlB f ld k = dlB g ld k := fun k hk => by
  unfold dlB
  rw [h k hk, anyR_congr _ _ (fun j _ hj => by rw [h j (by omega)])]
def prS (τ : tSt) (c : Nat) (al : Int32) : Int32 := tlG (bitI al) (fun p => cntB (dlB (fiT τ) (ldV (uA τ) (uM τ) (uF τ) c p)) (uF τ 15)) 0 (uF τ 13) (-1) (-1)
theorem call_probe (x : Int32) : cOK (s_X11_probe 0 x) (s_X14_probe 104 x) := by
  refine cOK.of (fun γ _ => ⟨-1, qTw γ 1, cN1.ref fun h h1 S V Z D Ln K e1 => ?_, rN1.ref fun h h1 h2 R e1 R1 e2 => ?_⟩) fun γ τ og ot lt => ?_
  · unfold s_X11_probe
    rw [K.k0, cI_of (hasCell_N K x), if_pos rfl, K.k0, cI_of (refuse1 e1)]
    rfl
  · unfold s_X14_probe
    rw [e1, Option.bind_some, R1.k0, cI_of (isCell_N R1 x), if_pos rfl, R1.k0, cI_of e2]
  · rcases in_or x (show uF τ 12 < 2147483648 by omega) with ⟨c, hc, rfl⟩ | q
    · cases sf9 : sfW (uA τ) (uM τ) (uF τ) (uG τ) 0 c with
      | false =>
        refine ⟨fun a => a = -1, qTw γ 5, τ, one_x, ?_, rT1.th fun h h1 t2 S wd t f nv V Z B W G e1 R1 => ?_⟩
        · intro h S V Z D Ln N K
          obtain ⟨h2, S2, V2, D2, L2, n, y, e2, K2, mv, ln, sf, O2, G2, ct⟩ := K.readySafety
          have al : okAl (uA τ) (uM τ) (uF τ) (uG τ) c (V2 72 c) := by
            unfold okAl
            rw [sf0 K.2.2.1.2.2.2.1]
            exact sf.1 c hc
          have v0 := (al_zero ot K.2.2.1.2.2.2.1 lt.2.1 al).mpr sf9
          have g8 : gO h2 (.ref 69) 7 8 = some 72 := gO_of (ltE (by decide)) (K2.1.1.1 69 rfl) rfl
          have l8 : ldI .int h2 (.ref 72) (jI c) = some (V2 72 c) := K2.1.1.ld rfl (show c < 400 by omega)
          rw [v0] at l8
          obtain ⟨h3, e3, K3, O3⟩ := K2.tw (w := 5) (by decide)
          refine ⟨_, h3, 0 + n, 0 + y, rfl, ?_, _, V2, Z, D2, L2, K3, Oa.of (O2.trans2 G2 O3), G2, ct.cat0⟩
          unfold s_X11_probe
          rw [K.k0, cI_of (hasCell_in K hc), if_neg (by decide), K.k0, dR_of e2, g8, Option.bind_some, l8, Option.bind_some, if_pos rfl, K2.k0, cI_of (refuse1 e3), ckw rfl, ck_of (Nat.zero_le _) (Nat.zero_le _)]
        · obtain ⟨h2, S2, V2, e2, R2, fd, O2⟩ := R1.finds ot
          obtain ⟨h3, S3, e3, R3, O3⟩ := R2.refused 5
          have is := R2.2.2.1.isSafe (good := uG τ) (fun d hd => fd.2.1 0 (by decide) d hd) hc
          rw [sf9] at is
          refine ⟨_, h3, rfl, ?_, R3.rt, (Rf.ou O2).trans (Rf.ou O3)⟩
          unfold s_X14_probe
          rw [e1, Option.bind_some, R1.k0, cI_of (isCell_in R1 hc), if_neg (by decide), R1.k0, cN_of e2, R2.k0, cI_of is, if_pos (by decide), R2.k0, cI_of e3]
      | true =>
        refine ⟨fun a => ∃ al, okAl (uA τ) (uM τ) (uF τ) (uG τ) c al ∧ a = prS τ c al, qTw γ 0, τ, fun a b ⟨al, p1, p2⟩ ⟨al', p1', p2'⟩ => ?_, ?_, rT1.th fun h h1 t2 S wd t f nv V Z B W G e1 R1 => ?_⟩
        · rw [p2, p2', bits_eq fun q hq => (p1 q hq).trans (p1' q hq).symm]
        · intro h S V Z D Ln N K
          obtain ⟨h2, S2, V2, D2, L2, n, y, e2, K2, mv, ln, sf, O2, G2, ct⟩ := K.readySafety
          have al : okAl (uA τ) (uM τ) (uF τ) (uG τ) c (V2 72 c) := by
            unfold okAl
            rw [sf0 K.2.2.1.2.2.2.1]
            exact sf.1 c hc
          have v0 : ¬ V2 72 c = 0 := fun e => by
            have := (al_zero ot K.2.2.1.2.2.2.1 lt.2.1 al).mp e
            rw [sf9] at this
            cases this
          have g8 : gO h2 (.ref 69) 7 8 = some 72 := gO_of (ltE (by decide)) (K2.1.1.1 69 rfl) rfl
          have l8 : ldI .int h2 (.ref 72) (jI c) = some (V2 72 c) := K2.1.1.ld rfl (show c < 400 by omega)
          obtain ⟨h3, e3, K3, O3⟩ := K2.tw (w := 0) (by decide)
          obtain ⟨h4, S4, V4, D4, L4, n4, y4, e4, K4, mv4, ln4, O4, G4, ct4⟩ := K3.readyWatcher
          obtain ⟨h5, n5, y5, e5, w⟩ := K4.2.2.1.telling mv4 ln4 K4.gd K4.wa hc (V2 72 c)
          obtain ⟨S5, V5, D5, L5, K5, O5, G5, ct5⟩ := K4.af w
          have eqp : tlG (bitI (V2 72 c)) (fun p => cntB (dlB (fun q => decide (q < uF τ 15) && fiS (uA τ) (uM τ) (uF τ) (uG τ) (uP τ) (uT τ) (uV τ) 30 0 (uK τ) q) (ldV (uA τ) (uM τ) (uF τ) c p)) (uF τ 15)) 0 (uF τ 13) (-1) (-1) = prS τ c (V2 72 c) := by
            unfold prS
            congr 1
            funext p
            refine cntB_congr _ (dlB_cg fun k hk => ?_)
            rw [decide_eq_true hk, Bool.true_and]
            exact fi30 ot lt K.kW 0 k
          rw [eqp] at e5
          refine ⟨_, h5, 0 + n + (0 + n4) + n5, 0 + y + (0 + y4) + y5, ⟨_, al, rfl⟩, ?_, S5, V5, Z, D5, L5, K5, Oa.of ((O2.trans2 G2 O3).trans2 G2 (O4.trans2 G4 O5)), ?_, (ct.cat0.trans ct4.cat0).trans ct5⟩
          · unfold s_X11_probe
            rw [K.k0, cI_of (hasCell_in K hc), if_neg (by decide), K.k0, dR_of e2, g8, Option.bind_some, l8, Option.bind_some, if_neg v0, e3, Option.bind_some, K3.k0, dR_of e4, kO_of (ltE (by decide)) (K4.1.1.1 92 rfl), dI_of e5, ckw rfl, ck_of (by omega) (by omega), ck_of (by omega) (by omega), ck_of (Nat.zero_le _) (Nat.zero_le _), Nat.zero_add n4, Nat.zero_add y4]
          · exact Gr.trans O2.1 G2 ((Gr.trans O4.1 G4 G5).pre O3.1)
        · obtain ⟨h2, S2, V2, e2, R2, fd, O2⟩ := R1.finds ot
          have is := R2.2.2.1.isSafe (good := uG τ) (fun d hd => fd.2.1 0 (by decide) d hd) hc
          rw [sf9] at is
          obtain ⟨h3, V3, y, e3, C3, O3, M3, al⟩ := R2.2.2.1.allowedOf fd.1 (fun d hd => fd.2.1 0 (by decide) d hd) hc
          have R3 := R2.scr C3 O3 (M3.mono (by decide)) SmZ.refl smS.refl
          obtain ⟨g, tp, C, fr, d, ld, gd, gl, cs, f1, f2, k1, k2, tr, cl, cn, cd⟩ := id R3
          obtain ⟨h4, V4, e4, C4, O4, M4⟩ := pr51_go (tk := uK τ) (tp := uP τ) (ta := uT τ) (tv := uV τ) (good := uG τ) (al := y) ot.2.2.1 k1 ot.2.2.2.2.1 hc (fun p hp bp x hx e => by
            have ib := ((al p (by have := lt.2.1; omega)).mp bp).2.2
            have := intoB_all.mp ib x hx
            rw [e, tst_out] at this
            cases this) (uF τ 13) 0 FU (-1) (-1) h3 V3 (Nat.zero_add _) (by have := lt.2.1; unfold FU; omega) C ld tr gd k2
          have R4 := R3.tw C4 O4 (M4.mono (by decide)) SmZ.refl smS.refl
          have e4' : s_X14_probe_51 FU 104 (jI c) y (-1) (-1) 0 h3 = some (.inl (some (.int (prS τ c y))), h4) := e4
          refine ⟨_, h4, ⟨y, al, rfl⟩, ?_, R4.rt, ((Rf.ou O2).trans (Rf.ou O3)).trans (Rf.ou O4)⟩
          unfold s_X14_probe
          rw [e1, Option.bind_some, R1.k0, cI_of (isCell_in R1 hc), if_neg (by decide), R1.k0, cN_of e2, R2.k0, cI_of is, if_neg (by decide), R2.k0, cI_of e3, e4']
    · refine ⟨fun a => a = -1, qTw γ 1, τ, one_x, cT1.ref (by decide) fun h h1 S V Z D Ln N K e1 => ?_, rT1.ref (w := 1) fun h h1 h2 t2 S wd t f nv V Z B W G e1 R1 e2 => ?_⟩
      · unfold s_X11_probe
        rw [K.k0, cI_of (hasCell_out K q), if_pos rfl, K.k0, cI_of (refuse1 e1)]
        rfl
      · unfold s_X14_probe
        rw [e1, Option.bind_some, R1.k0, cI_of (isCell_out R1 q), if_pos rfl, R1.k0, cI_of e2]
