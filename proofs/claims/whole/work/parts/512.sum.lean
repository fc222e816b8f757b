/-! the class reads a factor, a sum -/
theorem okS_upd {sl : Nat → Int32} {k : Nat} {x : Int32} (h : okS sl) (hx : 0 ≤ x → x.toNatClampNeg < 9) : okS (upd sl k x) := fun j hj h0 => by
  by_cases u : j = k
  · rw [u, upd_eq] at h0 ⊢; exact hx h0
  · rw [upd_ne u] at h0 ⊢; exact h j hj h0
section
variable {h : aH} {T : Nat → Nat} {n e k mo fo pr : Nat} {fa pl wh : Int32} {m : Nat → Nat} {nm : Nat → List Nat} {nf no : Nat} {jn sl ww st mi en re : Nat → Int32}
theorem PCw.failX (X : PCw h T n e fa pl k wh (jI pr) mo fo) (FF : isF h fo nf jn sl ww no st mi en re) (hS : okS sl) (hmf : okFo mo fo) (f : Nat) : ∃ h', s_X6_fail 51 (jI f) h = some (.inl (some (.int 0)), h') ∧ FaC h h' T n (f, k) (jI pr) mo fo := by
  obtain ⟨h', e1, r, o1, l1⟩ := fail_at X f
  have q := okFo_ne hmf
  exact ⟨h', e1, ⟨_, _, r⟩, ⟨nf, jn, sl, ww, no, st, mi, en, re, FF.of (fun i h1 h2 => o1 i (by omega)), hS⟩, l1, fun i h1 _ => o1 i h1⟩
theorem PCw.next (X : PCw h T n e fa pl k wh (jI pr) mo fo) (hmf : okFo mo fo) (hne : (tokS T n k).1 ≠ 0) : ∃ h' x, gI h (.ref 51) 6 2 = some x ∧ pF h (.ref 51) 6 2 (.int (x + 1)) = some h' ∧ PCw h' T n e fa pl (k + 1) wh (jI pr) mo fo ∧ FrS fo h h' ∧ (∀ i, i ≠ 51 → h'[i]? = h[i]?) := by
  obtain ⟨h', e1, X', o1, l1⟩ := X.adv hne
  have g := gI_of (x := jI k) (k := 2) (h := h) (a := 51) (ltE (by decide)) X.1 rfl
  rw [g, Option.bind_some] at e1
  exact ⟨h', jI k, g, e1, X', ⟨l1, fun i h1 _ => o1 i h1⟩, o1⟩
theorem f81_at (X : PCw h T n e fa pl k wh (jI pr) mo fo) (FF : isF h fo nf jn sl ww no st mi en re) (hS : okS sl) (hmf : okFo mo fo) (hnf : nf ≤ 60) (j s9 w9 : Int32) (q : Bool) (hne : (tokS T n k).1 ≠ 0) (hw : w9 = if q = true then (mnI T (tokS T n k)).toInt32 else 0) :
    (60 ≤ nf → ∃ h', s_X6_factor_81 51 j (b01 q) s9 h = some (.inl (some (.int 0)), h') ∧ FaC h h' T n (5, k) (jI pr) mo fo) ∧
    (nf < 60 → ∃ h', s_X6_factor_81 51 j (b01 q) s9 h = some (.inl (some (.int 1)), h') ∧ PCw h' T n e fa pl (k + 1) wh (jI pr) mo fo ∧ isF h' fo (nf + 1) (upd jn nf j) (upd sl nf s9) (upd ww nf w9) no st mi en re ∧ FrS fo h h') := by
  have qn := okFo_ne hmf
  have g6 : gO h (.ref 51) 6 6 = some fo := gO_of (ltE (by decide)) X.1 rfl
  have kf : ∀ {β : Type} {y : Option β}, kO h fo 0 y = y := kO_of (Nat.lt_of_lt_of_le (show fo < 51 by omega) (by decide)) FF.2.1
  have gf : gI h (.ref fo) 0 0 = some (jI nf) := gI_of (Nat.lt_of_lt_of_le (show fo < 51 by omega) (by decide)) FF.2.1 rfl
  constructor
  · intro hf
    obtain ⟨h', e1, F1⟩ := X.failX FF hS hmf 5
    refine ⟨h', ?_, F1⟩
    have fu : s_X0_isFull fo h = some (.inl (some (.int 1)), h) := by
      unfold s_X0_isFull
      rw [gf, Option.bind_some]
      rw [if_neg (show ¬ jI nf < 60 from fun z => by have := (jI_lt (k := 60) (by omega) (by omega)).mp z; omega)]
      rfl
    unfold s_X6_factor_81
    rw [g6, Option.bind_some, kf, fu]
    simp only [cI]
    rw [if_neg (show ¬ (1 : Int32) = 0 by decide), X.kO]
    have e1' : s_X6_fail 51 5 h = _ := e1
    rw [e1']
    rfl
  · intro hf
    obtain ⟨h1, a1, F1, o1, l1⟩ := addFactor_at FF hf j s9 w9
    have X1 : PCw h1 T n e fa pl k wh (jI pr) mo fo := ⟨by unfold RdW; rw [o1 51 (by omega)]; exact X.1, X.2.1.of (fun i h1 h2 => o1 i (by omega)), X.2.2⟩
    obtain ⟨h2, x, g2, e2, X2, f2, o2⟩ := X1.next hmf hne
    refine ⟨h2, ?_, X2, F1.of (fun i h1 h2 => o2 i (by omega)), FrS.trans (show FrS fo h h1 from ⟨l1, fun i _ hi => o1 i hi⟩) f2⟩
    have fu : s_X0_isFull fo h = some (.inl (some (.int 0)), h) := by
      unfold s_X0_isFull
      rw [gf, Option.bind_some, if_pos (show jI nf < 60 from (jI_lt (k := 60) (by omega) (by omega)).mpr hf)]
      rfl
    have tail : s_X6_factor_116 51 w9 s9 j fo h = some (.inl (some (.int 1)), h2) := by
      unfold s_X6_factor_116
      rw [kf, a1]
      simp only [cN]
      rw [g2, Option.bind_some, e2, Option.bind_some]
      rfl
    unfold s_X6_factor_81
    rw [g6, Option.bind_some, kf, fu]
    simp only [cI]
    rw [if_pos trivial, g6, Option.bind_some]
    cases q with
    | false =>
      rw [if_pos (show b01 false = 0 by decide)]
      rw [if_neg Bool.false_ne_true] at hw
      rw [← hw]
      exact tail
    | true =>
      rw [if_neg (show ¬ b01 true = 0 by decide), X.kO, meaning_at X]
      simp only [cJ]
      rw [if_pos rfl] at hw
      rw [← hw]
      exact tail
theorem factor_at (X : PCw h T n e fa pl k wh (jI pr) mo fo) (NM : NmW h mo m nm) (FF : isF h fo nf jn sl ww no st mi en re) (hS : okS sl) (hmf : okFo mo fo) (hnf : nf ≤ 60) (hpr : pr ≤ 9) (j : Int32) :
    (∀ f, fcP T n nm m pr k nf = .inl f → ∃ h', s_X6_factor 51 j h = some (.inl (some (.int 0)), h') ∧ FaC h h' T n (f, k) (jI pr) mo fo) ∧
    (∀ sw, fcP T n nm m pr k nf = .inr sw → nf < 60 ∧ (tokS T n k).1 ≠ 0 ∧ okS (upd sl nf sw.1) ∧ ∃ h', s_X6_factor 51 j h = some (.inl (some (.int 1)), h') ∧ PCw h' T n e fa pl (k + 1) wh (jI pr) mo fo ∧ isF h' fo (nf + 1) (upd jn nf j) (upd sl nf sw.1) (upd ww nf sw.2) no st mi en re ∧ FrS fo h h') := by
  have hm : ∀ k, k < 5 → bsN k + m k ≤ 11 := by
    obtain ⟨-, fs, many, N, -, -, -, -, -, h5, -⟩ := NM
    exact fun k hk => (h5 k hk).2
  have kd0 := tok_kd X.2.2.2.1 n k
  have f33 : ∃ h', s_X6_factor_33 51 h = some (.inl (some (.int 0)), h') ∧ FaC h h' T n (1, k) (jI pr) mo fo := by
    obtain ⟨h', e1, F1⟩ := X.failX FF hS hmf 1
    refine ⟨h', ?_, F1⟩
    unfold s_X6_factor_33
    have e1' : s_X6_fail 51 1 h = _ := e1
    rw [X.kO, e1']
    rfl
  have f75 : ∃ h', s_X6_factor_75 51 h = some (.inl (some (.int 0)), h') ∧ FaC h h' T n (2, k) (jI pr) mo fo := by
    obtain ⟨h', e1, F1⟩ := X.failX FF hS hmf 2
    refine ⟨h', ?_, F1⟩
    unfold s_X6_factor_75
    have e1' : s_X6_fail 51 2 h = _ := e1
    rw [X.kO, e1']
    rfl
  unfold fcP
  by_cases q2 : (tokS T n k).1 = 2
  · obtain ⟨w1, w2, -⟩ := tok_whole q2
    have hw : jI (tkN T (tokS T n k)) = if true = true then (mnI T (tokS T n k)).toInt32 else 0 := by
      rw [if_pos rfl, w2]
      apply Int32.toInt_inj.mp
      rw [jI_int (by omega), Int64.toInt_toInt32, jL_int (by omega)]
      exact (Int.bmod_eq_of_le (by omega) (by omega)).symm
    obtain ⟨p1, p2⟩ := f81_at X FF hS hmf hnf j (-1) (jI (tkN T (tokS T n k))) true (by omega) hw
    have head : ∀ {y : aO}, s_X6_factor_81 51 j (b01 true) (-1) h = y → s_X6_factor 51 j h = y := by
      intro y hy
      unfold s_X6_factor
      rw [X.kO, kind_at X]
      simp only [cI]
      rw [if_pos (show jI (tokS T n k).1 = 2 from (X.kd 2 (by decide)).mpr q2)]
      unfold s_X6_factor_13
      rw [if_neg (show ¬ (1 : Int32) = 0 by decide)]
      unfold s_X6_factor_39
      rw [if_neg (show ¬ (1 : Int32) = 0 by decide)]
      unfold s_X6_factor_58
      rw [if_neg (show ¬ (1 : Int32) = 0 by decide)]
      exact hy
    rw [if_pos q2]
    by_cases u : 60 ≤ nf
    · rw [if_pos u]
      refine ⟨fun f hf => ?_, fun sw hsw => by cases hsw⟩
      cases hf
      obtain ⟨h', a, b⟩ := p1 u
      exact ⟨h', head a, b⟩
    · rw [if_neg u]
      refine ⟨fun f hf => (by cases hf), fun sw hsw => ?_⟩
      cases hsw
      obtain ⟨h', a, b⟩ := p2 (by omega)
      exact ⟨by omega, by omega, okS_upd hS (fun z => absurd z (by show ¬ (0 : Int32) ≤ -1; decide)), h', head a, b⟩
  · rw [if_neg q2]
    have n2 : ¬ jI (tokS T n k).1 = 2 := fun z => q2 ((X.kd 2 (by decide)).mp z)
    by_cases q1 : (tokS T n k).1 = 1
    · by_cases qr : rsO (tkW T (tokS T n k)) = none
      · rw [if_pos ⟨q1, qr⟩]
        obtain ⟨w1, w2, -⟩ := tok_word q1
        have g5 : gO h (.ref 51) 6 5 = some mo := gO_of (ltE (by decide)) X.1 rfl
        have km : ∀ {β : Type} {y : Option β}, kO h mo 2 y = y := by
          obtain ⟨a, fs, -, -, h0, -⟩ := NM
          intro β y
          exact kO_of (by omega) h0
        have sl9 := slotOf_cl NM w1
        have head : ∀ {y : aO}, s_X6_factor_58 51 j 0 (oI (slF nm m (tkW T (tokS T n k)))) h = y → s_X6_factor 51 j h = y := by
          intro y hy
          unfold s_X6_factor
          rw [X.kO, kind_at X]
          simp only [cI]
          rw [if_neg n2]
          unfold s_X6_factor_13
          rw [if_pos (show (0 : Int32) = 0 from rfl), X.kO, kind_at X]
          simp only [cI]
          rw [if_pos (show jI (tokS T n k).1 = 1 from (X.kd 1 (by decide)).mpr q1), X.kO, reserved_at X q1]
          simp only []
          rw [if_pos ((oI_neg (fun s hs => Nat.lt_of_lt_of_le (rsO_lt hs) (by decide))).mpr qr)]
          unfold s_X6_factor_39
          rw [if_pos (show (0 : Int32) = 0 from rfl), g5, Option.bind_some, X.kO, meaning_at X]
          simp only [cJ]
          rw [km, w2, sl9]
          exact hy
        cases qs : slF nm m (tkW T (tokS T n k)) with
        | none =>
          refine ⟨fun f hf => ?_, fun sw hsw => by cases hsw⟩
          cases hf
          obtain ⟨h', a, b⟩ := f75
          refine ⟨h', head ?_, b⟩
          rw [qs]
          unfold s_X6_factor_58
          rw [if_pos (show (0 : Int32) = 0 from rfl), if_pos (show oI none < 0 by show (-1 : Int32) < 0; decide)]
          exact a
        | some s =>
          have s11 := slF_lt hm qs
          have g4 : gI h (.ref 51) 6 4 = some (jI pr) := gI_of (ltE (by decide)) X.1 rfl
          have h58 : ∀ {y : aO}, (if jI s < jI pr then (s_X6_factor_81 51 j 0 (jI s) h) else (s_X6_factor_75 51 h)) = y → s_X6_factor 51 j h = y := by
            intro y hy
            refine head ?_
            rw [qs]
            unfold s_X6_factor_58
            rw [if_pos (show (0 : Int32) = 0 from rfl), if_neg (show ¬ oI (some s) < 0 from jI_neg (by omega)), g4, Option.bind_some]
            exact hy
          dsimp only
          by_cases u : pr ≤ s
          · rw [if_pos u]
            refine ⟨fun f hf => ?_, fun sw hsw => by cases hsw⟩
            cases hf
            obtain ⟨h', a, b⟩ := f75
            exact ⟨h', h58 (by rw [if_neg (fun z => by have := (jI_lt (by omega) (by omega)).mp z; omega)]; exact a), b⟩
          · rw [if_neg u]
            obtain ⟨p1, p2⟩ := f81_at X FF hS hmf hnf j (jI s) 0 false (by omega) rfl
            have yes : jI s < jI pr := (jI_lt (by omega) (by omega)).mpr (by omega)
            by_cases v : 60 ≤ nf
            · rw [if_pos v]
              refine ⟨fun f hf => ?_, fun sw hsw => by cases hsw⟩
              cases hf
              obtain ⟨h', a, b⟩ := p1 v
              exact ⟨h', h58 (by rw [if_pos yes]; exact a), b⟩
            · rw [if_neg v]
              refine ⟨fun f hf => (by cases hf), fun sw hsw => ?_⟩
              cases hsw
              obtain ⟨h', a, b⟩ := p2 (by omega)
              exact ⟨by omega, by omega, okS_upd hS (fun _ => by show (jI s).toNatClampNeg < 9; rw [jI_cl (by omega)]; omega), h', h58 (by rw [if_pos yes]; exact a), b⟩
      · rw [if_neg (fun z => qr z.2)]
        refine ⟨fun f hf => ?_, fun sw hsw => by cases hsw⟩
        cases hf
        obtain ⟨h', a, b⟩ := f33
        refine ⟨h', ?_, b⟩
        unfold s_X6_factor
        rw [X.kO, kind_at X]
        simp only [cI]
        rw [if_neg n2]
        unfold s_X6_factor_13
        rw [if_pos (show (0 : Int32) = 0 from rfl), X.kO, kind_at X]
        simp only [cI]
        rw [if_pos (show jI (tokS T n k).1 = 1 from (X.kd 1 (by decide)).mpr q1), X.kO, reserved_at X q1]
        simp only []
        rw [if_neg (fun z => qr ((oI_neg (fun s hs => Nat.lt_of_lt_of_le (rsO_lt hs) (by decide))).mp z))]
        exact a
    · rw [if_neg (fun z => q1 z.1)]
      refine ⟨fun f hf => ?_, fun sw hsw => by cases hsw⟩
      cases hf
      obtain ⟨h', a, b⟩ := f33
      refine ⟨h', ?_, b⟩
      unfold s_X6_factor
      rw [X.kO, kind_at X]
      simp only [cI]
      rw [if_neg n2]
      unfold s_X6_factor_13
      rw [if_pos (show (0 : Int32) = 0 from rfl), X.kO, kind_at X]
      simp only [cI]
      rw [if_neg (show ¬ jI (tokS T n k).1 = 1 from fun z => q1 ((X.kd 1 (by decide)).mp z))]
      exact a
end
/-- a row of factors that stands behind nf -/
def inRow (l : List pFa) (nf : Nat) (jn sl ww jn' sl' ww' : Nat → Int32) : Prop := (∀ j, j < nf → jn' j = jn j ∧ sl' j = sl j ∧ ww' j = ww j) ∧ seg3 jn' sl' ww' nf l.length = l
theorem jnO_43 {c : Nat} : jnO c = none ↔ c ≠ 43 ∧ c ≠ 45 ∧ c ≠ 42 := by
  unfold jnO
  by_cases a : c = 43
  · rw [if_pos a]; exact ⟨fun h => (by cases h), fun h => absurd a h.1⟩
  · rw [if_neg a]
    by_cases b : c = 45
    · rw [if_pos b]; exact ⟨fun h => (by cases h), fun h => absurd b h.2.1⟩
    · rw [if_neg b]
      by_cases d : c = 42
      · rw [if_pos d]; exact ⟨fun h => (by cases h), fun h => absurd d h.2.2⟩
      · rw [if_neg d]; exact ⟨fun _ => ⟨a, b, d⟩, fun _ => rfl⟩
section
variable {T : Nat → Nat} {n e mo fo pr : Nat} {fa pl wh : Int32} {m : Nat → Nat} {nm : Nat → List Nat} {no : Nat} {st mi en re : Nat → Int32}
theorem sum25_go (hmf : okFo mo fo) (hpr : pr ≤ 9) : ∀ (r i f : Nat) (j : Int32) (k nf : Nat) (h : aH) (jn sl ww : Nat → Int32), i + r = 61 → r < f → nf ≤ 60 → PCw h T n e fa pl k wh (jI pr) mo fo → NmW h mo m nm → isF h fo nf jn sl ww no st mi en re → okS sl →
    (∀ x, smP T n nm m pr r j k nf = .inl x → ∃ h', s_X6_sum_25 f 51 j (jI i) h = some (.inl (some (.int 0)), h') ∧ FaC h h' T n x (jI pr) mo fo) ∧
    (∀ x, smP T n nm m pr r j k nf = .inr x → nf + x.1.length ≤ 60 ∧ ∃ h' jn' sl' ww', s_X6_sum_25 f 51 j (jI i) h = some (.inl (some (.int 1)), h') ∧ PCw h' T n e fa pl x.2 wh (jI pr) mo fo ∧ isF h' fo (nf + x.1.length) jn' sl' ww' no st mi en re ∧ (inRow x.1 nf jn sl ww jn' sl' ww' ∧ okS sl') ∧ FrS fo h h')
  | _, _, 0, _, _, _, _, _, _, _, _, hf, _, _, _, _, _ => by omega
  | 0, i, f + 1, j, k, nf, h, jn, sl, ww, hi, hf, hnf, X, NM, FF, hS => by
    refine ⟨fun x hx => ?_, fun x hx => by cases hx⟩
    cases hx
    obtain ⟨h', e1, F1⟩ := X.failX FF hS hmf 1
    refine ⟨h', ?_, F1⟩
    show s_X6_sum_25_b (s_X6_sum_25 f) 51 j (jI i) h = _
    unfold s_X6_sum_25_b
    have e1' : s_X6_fail 51 1 h = _ := e1
    rw [if_pos (show (60 : Int32) < jI i from (jI_lt (j := 60) (by omega) (by omega)).mpr (by omega)), X.kO, e1']
    rfl
  | r + 1, i, f + 1, j, k, nf, h, jn, sl, ww, hi, hf, hnf, X, NM, FF, hS => by
    have qn := okFo_ne hmf
    obtain ⟨c1, c2⟩ := factor_at X NM FF hS hmf hnf hpr j
    have e0 : smP T n nm m pr (r + 1) j k nf = match fcP T n nm m pr k nf with
      | .inl f => .inl (f, k)
      | .inr sw => match jnO (tokS T n (k + 1)).1 with
        | none => .inr ([(j, sw.1, sw.2)], k + 1)
        | some j' => match smP T n nm m pr r j' (k + 2) (nf + 1) with
          | .inl e => .inl e
          | .inr x => .inr ((j, sw.1, sw.2) :: x.1, x.2) := rfl
    have n60 : ¬ (60 : Int32) < jI i := fun z => by have := (jI_lt (j := 60) (by omega) (by omega)).mp z; omega
    rw [e0]
    cases qf : fcP T n nm m pr k nf with
    | inl g =>
      refine ⟨fun x hx => ?_, fun x hx => by cases hx⟩
      cases hx
      obtain ⟨h', a, b⟩ := c1 g qf
      refine ⟨h', ?_, b⟩
      show s_X6_sum_25_b (s_X6_sum_25 f) 51 j (jI i) h = _
      unfold s_X6_sum_25_b
      rw [if_neg n60, X.kO, a]
      rfl
    | inr sw =>
      obtain ⟨lt, tne, hS1, h1, a1, X1, F1, f1⟩ := c2 sw qf
      have NM1 : NmW h1 mo m nm := NM.of (fun i h1 h2 => f1.2 i (by omega) (by omega))
      have head : ∀ {y : aO}, (if jI (tokS T n (k + 1)).1 = 43 then (s_X6_sum_66 (s_X6_sum_25 f) 51 (jI i) (jI (tokS T n (k + 1)).1) h1) else (if jI (tokS T n (k + 1)).1 = 45 then (s_X6_sum_66 (s_X6_sum_25 f) 51 (jI i) (jI (tokS T n (k + 1)).1) h1) else (if jI (tokS T n (k + 1)).1 = 42 then (s_X6_sum_66 (s_X6_sum_25 f) 51 (jI i) (jI (tokS T n (k + 1)).1) h1) else (rtZ 1 h1)))) = y → s_X6_sum_25 (f + 1) 51 j (jI i) h = y := by
        intro y hy
        show s_X6_sum_25_b (s_X6_sum_25 f) 51 j (jI i) h = _
        unfold s_X6_sum_25_b
        rw [if_neg n60, X.kO, a1]
        simp only [cI]
        rw [if_neg (show ¬ (1 : Int32) = 0 by decide), X1.kO, kind_at X1]
        exact hy
      have k43 : jI (tokS T n (k + 1)).1 = 43 ↔ (tokS T n (k + 1)).1 = 43 := X1.kd 43 (by decide)
      have k45 : jI (tokS T n (k + 1)).1 = 45 ↔ (tokS T n (k + 1)).1 = 45 := X1.kd 45 (by decide)
      have k42 : jI (tokS T n (k + 1)).1 = 42 ↔ (tokS T n (k + 1)).1 = 42 := X1.kd 42 (by decide)
      have sg0 : seg3 (upd jn nf j) (upd sl nf sw.1) (upd ww nf sw.2) nf 1 = [(j, sw.1, sw.2)] := by
        show (upd jn nf j nf, upd sl nf sw.1 nf, upd ww nf sw.2 nf) :: _ = _
        rw [upd_eq, upd_eq, upd_eq]
        rfl
      dsimp only
      cases qj : jnO (tokS T n (k + 1)).1 with
      | none =>
        obtain ⟨b1, b2, b3⟩ := jnO_43.mp qj
        refine ⟨fun x hx => (by cases hx), fun x hx => ?_⟩
        cases hx
        refine ⟨by show nf + 1 ≤ 60; omega, h1, _, _, _, head ?_, X1, F1, ⟨⟨fun q hq => ⟨upd_ne (by omega), upd_ne (by omega), upd_ne (by omega)⟩, sg0⟩, hS1⟩, f1⟩
        rw [if_neg (fun z => b1 (k43.mp z)), if_neg (fun z => b2 (k45.mp z)), if_neg (fun z => b3 (k42.mp z))]
        rfl
      | some j' =>
        have tne1 : (tokS T n (k + 1)).1 ≠ 0 := fun z => by
          rw [z] at qj
          cases qj
        obtain ⟨h2, x2, g2, p2, X2, f2, o2⟩ := X1.next hmf tne1
        have NM2 : NmW h2 mo m nm := NM1.of (fun i h1 h2 => f2.2 i (by omega) (by omega))
        have F2 := F1.of (h' := h2) (fun i h1 h2 => o2 i (by omega))
        obtain ⟨d1, d2⟩ := sum25_go hmf hpr r (i + 1) f j' (k + 2) (nf + 1) h2 _ _ _ (by omega) (by omega) (by omega) X2 NM2 F2 hS1
        have h87 : ∀ {y : aO}, s_X6_sum_25 f 51 j' (jI (i + 1)) h2 = y → s_X6_sum_87 (s_X6_sum_25 f) 51 (jI i) j' h1 = y := by
          intro y hy
          unfold s_X6_sum_87
          rw [g2, Option.bind_some, p2, Option.bind_some, jI_inc]
          exact hy
        have go : ∀ {y : aO}, s_X6_sum_25 f 51 j' (jI (i + 1)) h2 = y → s_X6_sum_25 (f + 1) 51 j (jI i) h = y := by
          intro y hy
          refine head ?_
          unfold jnO at qj
          by_cases u1 : (tokS T n (k + 1)).1 = 43
          · rw [if_pos u1] at qj
            cases qj
            rw [if_pos (k43.mpr u1)]
            unfold s_X6_sum_66
            rw [if_pos (k43.mpr u1)]
            exact h87 hy
          · rw [if_neg u1] at qj
            rw [if_neg (fun z => u1 (k43.mp z))]
            by_cases u2 : (tokS T n (k + 1)).1 = 45
            · rw [if_pos u2] at qj
              cases qj
              rw [if_pos (k45.mpr u2)]
              unfold s_X6_sum_66
              rw [if_neg (fun z => u1 (k43.mp z)), if_pos (k45.mpr u2)]
              exact h87 hy
            · rw [if_neg u2] at qj
              rw [if_neg (fun z => u2 (k45.mp z))]
              by_cases u3 : (tokS T n (k + 1)).1 = 42
              · rw [if_pos u3] at qj
                cases qj
                rw [if_pos (k42.mpr u3)]
                unfold s_X6_sum_66
                rw [if_neg (fun z => u1 (k43.mp z)), if_neg (fun z => u2 (k45.mp z))]
                exact h87 hy
              · rw [if_neg u3] at qj
                cases qj
        dsimp only
        cases qr : smP T n nm m pr r j' (k + 2) (nf + 1) with
        | inl z =>
          refine ⟨fun x hx => ?_, fun x hx => by cases hx⟩
          cases hx
          obtain ⟨h', a, b⟩ := d1 z qr
          exact ⟨h', go a, FaC.trans (f1.trans f2) b⟩
        | inr z =>
          refine ⟨fun x hx => (by cases hx), fun x hx => ?_⟩
          cases hx
          obtain ⟨w0, h', jn', sl', ww', a, b, c, ⟨d, dS⟩, g⟩ := d2 z qr
          have ln : nf + ((j, sw.1, sw.2) :: z.1).length = nf + 1 + z.1.length := by
            rw [List.length_cons]; omega
          refine ⟨by dsimp only; rw [ln]; exact w0, h', jn', sl', ww', go a, b, by dsimp only; rw [ln]; exact c, ⟨⟨fun q hq => ?_, ?_⟩, dS⟩, (f1.trans f2).trans g⟩
          · obtain ⟨r1, r2, r3⟩ := d.1 q (by omega)
            rw [r1, r2, r3]
            exact ⟨upd_ne (by omega), upd_ne (by omega), upd_ne (by omega)⟩
          · obtain ⟨r1, r2, r3⟩ := d.1 nf (by omega)
            show (jn' nf, sl' nf, ww' nf) :: seg3 jn' sl' ww' (nf + 1) z.1.length = _
            rw [d.2, r1, r2, r3, upd_eq, upd_eq, upd_eq]
theorem sum_at (hmf : okFo mo fo) (hpr : pr ≤ 9) {k nf : Nat} {h : aH} {jn sl ww : Nat → Int32} (hnf : nf ≤ 60) (X : PCw h T n e fa pl k wh (jI pr) mo fo) (NM : NmW h mo m nm) (FF : isF h fo nf jn sl ww no st mi en re) (hS : okS sl) :
    (∀ x, suP T n nm m pr k nf = .inl x → ∃ h', s_X6_sum 51 h = some (.inl (some (.int 0)), h') ∧ FaC h h' T n x (jI pr) mo fo) ∧
    (∀ x, suP T n nm m pr k nf = .inr x → nf + x.1.length ≤ 60 ∧ ∃ h' jn' sl' ww', s_X6_sum 51 h = some (.inl (some (.int 1)), h') ∧ PCw h' T n e fa pl x.2 wh (jI pr) mo fo ∧ isF h' fo (nf + x.1.length) jn' sl' ww' no st mi en re ∧ (inRow x.1 nf jn sl ww jn' sl' ww' ∧ okS sl') ∧ FrS fo h h') := by
  have qn := okFo_ne hmf
  unfold suP
  by_cases q : (tokS T n k).1 = 45
  · rw [if_pos q]
    obtain ⟨h2, x2, g2, p2, X2, f2, o2⟩ := X.next hmf (by rw [q]; decide)
    have NM2 : NmW h2 mo m nm := NM.of (fun i h1 h2 => f2.2 i (by omega) (by omega))
    have F2 := FF.of (h' := h2) (fun i h1 h2 => o2 i (by omega))
    obtain ⟨d1, d2⟩ := sum25_go hmf hpr 61 0 FU 1 (k + 1) nf h2 jn sl ww (by omega) (by decide) hnf X2 NM2 F2 hS
    have head : ∀ {y : aO}, s_X6_sum_25 FU 51 1 (jI 0) h2 = y → s_X6_sum 51 h = y := by
      intro y hy
      unfold s_X6_sum
      rw [X.kO, kind_at X]
      simp only [cI]
      rw [if_pos (show jI (tokS T n k).1 = 45 from (X.kd 45 (by decide)).mpr q), g2, Option.bind_some, p2, Option.bind_some]
      exact hy
    refine ⟨fun x hx => ?_, fun x hx => ?_⟩
    · obtain ⟨h', a, b⟩ := d1 x hx
      exact ⟨h', head a, FaC.trans f2 b⟩
    · obtain ⟨w0, h', jn', sl', ww', a, b, c, d, g⟩ := d2 x hx
      exact ⟨w0, h', jn', sl', ww', head a, b, c, d, f2.trans g⟩
  · rw [if_neg q]
    obtain ⟨d1, d2⟩ := sum25_go hmf hpr 61 0 FU 0 k nf h jn sl ww (by omega) (by decide) hnf X NM FF hS
    have head : ∀ {y : aO}, s_X6_sum_25 FU 51 0 (jI 0) h = y → s_X6_sum 51 h = y := by
      intro y hy
      unfold s_X6_sum
      rw [X.kO, kind_at X]
      simp only [cI]
      rw [if_neg (show ¬ jI (tokS T n k).1 = 45 from fun z => q ((X.kd 45 (by decide)).mp z))]
      exact hy
    refine ⟨fun x hx => ?_, fun x hx => ?_⟩
    · obtain ⟨h', a, b⟩ := d1 x hx
      exact ⟨h', head a, b⟩
    · obtain ⟨w0, h', jn', sl', ww', a, b, c, d, g⟩ := d2 x hx
      exact ⟨w0, h', jn', sl', ww', head a, b, c, d, g⟩
end
