/-! code, walks and claims: what is meant, and the class's -/
def cdG (cd v : Nat → Int32) : Nat → Nat → Int32 → Int32
  | _, 0, a => a
  | i, n + 1, a => cdG cd v (i + 1) n (a + cd i * v i)
theorem cdG_add {cd v : Nat → Int32} (r : Int32) : ∀ (n i : Nat) (a : Int32), cdG cd v i n (a + r) = cdG cd v i n a + r
  | 0, _, _ => rfl
  | n + 1, i, a => by
    show cdG cd v (i + 1) n (a + r + cd i * v i) = cdG cd v (i + 1) n (a + cd i * v i) + r
    rw [Int32.add_assoc, Int32.add_comm r, ← Int32.add_assoc]
    exact cdG_add r n (i + 1) _
theorem cdG_congr {cd v v' : Nat → Int32} : ∀ (n i : Nat) (a : Int32), (∀ k, i ≤ k → k < i + n → v k = v' k) → cdG cd v i n a = cdG cd v' i n a
  | 0, _, _, _ => rfl
  | n + 1, i, a, h => by
    show cdG cd v (i + 1) n (a + cd i * v i) = cdG cd v' (i + 1) n (a + cd i * v' i)
    rw [h i (Nat.le_refl _) (by omega)]
    exact cdG_congr n (i + 1) _ (fun k h1 h2 => h k (by omega) (by omega))
def cdX (A : Nat → Nat → Int32) (m : Nat → Nat) (cd : Nat → Int32) (bi : Int32) (c : Nat) : Int32 := cdG cd (sprGo A 0 0 (m 0) (jI c) zV) 0 (m 0) bi
def codS (A : Nat → Nat → Int32) (m : Nat → Nat) (cd : Nat → Int32) (bi sh : Int32) (c : Nat) : Int32 :=
  (jmax (A 3 3) (jmin (A 4 3) (if sh ≤ 0 then cdX A m cd bi c else (cdX A m cd bi c + (1 <<< ((sh - 1) &&& 31))) >>> (sh &&& 31)))) - A 3 3
theorem clamp_R {A : Nat → Nat → Int32} {s : Nat} (h : okR A s) (x : Int32) : ∃ p, (jmax (A 3 s) (jmin (A 4 s) x)) - A 3 s = jI p ∧ p < wdN A 0 s := by
  obtain ⟨y, hy⟩ : ∃ y, y = jmax (A 3 s) (jmin (A 4 s) x) := ⟨_, rfl⟩
  rw [← hy]
  have hw := wdN_R h
  obtain ⟨h1, h2, h3⟩ := h
  have r : (A 3 s).toInt ≤ y.toInt ∧ y.toInt ≤ (A 4 s).toInt := by
    rw [hy]
    unfold jmax jmin
    by_cases q2 : x < A 4 s
    · rw [if_pos q2]
      rw [Int32.lt_iff_toInt_lt] at q2
      by_cases q : A 3 s < x
      · rw [if_pos q]
        rw [Int32.lt_iff_toInt_lt] at q
        omega
      · rw [if_neg q]
        omega
    · rw [if_neg q2]
      by_cases q : A 3 s < A 4 s
      · rw [if_pos q]
        omega
      · rw [if_neg q]
        omega
  have e := (toInt_small (x := y) (y := A 3 s) (by omega) (by omega)).1
  refine ⟨(y.toInt - (A 3 s).toInt).toNat, ?_, by omega⟩
  apply Int32.toInt_inj.mp
  rw [e, jI_int (by omega)]
  omega
theorem cod_lt {A : Nat → Nat → Int32} {m F : Nat → Nat} (K : okW A m F) (C : okC A m F) (h1 : m 1 = 1) (cd : Nat → Int32) (bi sh : Int32) (c : Nat) : ∃ p, codS A m cd bi sh c = jI p ∧ p < F 13 := by
  have hr := K.2.2.1 3 (Or.inr (Or.inl ⟨by omega, by omega⟩))
  obtain ⟨p, e1, e2⟩ := clamp_R hr (if sh ≤ 0 then cdX A m cd bi c else (cdX A m cd bi c + (1 <<< ((sh - 1) &&& 31))) >>> (sh &&& 31))
  refine ⟨p, e1, ?_⟩
  rw [C.2.1, h1]
  show p < wdN A 0 3 * 1
  omega
def allR (f : Nat → Bool) : Nat → Nat → Bool
  | _, 0 => true
  | w, n + 1 => f w && allR f (w + 1) n
def anyR (f : Nat → Bool) : Nat → Nat → Bool
  | _, 0 => false
  | w, n + 1 => f w || anyR f (w + 1) n
def lsB (cl : Nat → Int32) (c : Nat) (y : Int32) : Bool := if y = -2 then false else decide (cl y.toNatClampNeg ≠ -1) && decide (cl y.toNatClampNeg < cl c)
def stB (ld : Nat → Nat → Nat → Int32) (P W : Nat) (good goal : Nat → Bool) (cl : Nat → Int32) (c : Nat) : Bool :=
  good c && (if cl c = 0 then goal c else anyR (fun p => allR (fun w => lsB cl c (ld c p w)) 0 W) 0 P)
def fbG (st : Nat → Bool) (cl : Nat → Int32) : Nat → Nat → Int32
  | _, 0 => -2
  | c, n + 1 => if cl c = -1 then fbG st cl (c + 1) n else if st c then fbG st cl (c + 1) n else jI c
def wkG (nx : Nat → Int32) : Nat → Nat → Int32 → (Nat → Int32) → Int32
  | 0, _, _, _ => -2
  | k + 1, t, y, vis => if y = -2 then -2 else if vis y.toNatClampNeg = -1 then wkG nx k (t + 1) (nx y.toNatClampNeg) (upd vis y.toNatClampNeg (jI t)) else jI t - vis y.toNatClampNeg
theorem wkG_out {nx : Nat → Int32} : ∀ (k t : Nat) (vis : Nat → Int32), wkG nx k t (-2) vis = -2
  | 0, _, _ => rfl
  | k + 1, t, vis => by
    unfold wkG
    rw [if_pos rfl]
def okCl (cl : Nat → Int32) (C : Nat) : Prop := ∀ c, c < C → cl c = -1 ∨ 0 ≤ cl c
theorem neg1 {x : Int32} (h : x = -1 ∨ 0 ≤ x) : x < 0 ↔ x = -1 := by
  constructor
  · intro z
    rcases h with q | q
    · exact q
    · exact absurd z (i32_nlt.mpr q)
  · intro z
    rw [z]
    decide
section
variable {S : Nat → Nat → Int32} {Z : Nat → Nat → Int64} {D Ln : Nat → Nat} {b : Nat} {A : Nat → Nat → Int32} {N : Nat → Int64} {m F : Nat → Nat}
/-- the class's code stands -/
def okCd (S V : Nat → Nat → Int32) (cd : Nat → Int32) (bi sh : Int32) : Prop := (∀ i, i < 3 → V 101 i = cd i) ∧ S 99 6 = bi ∧ S 99 7 = sh
theorem cp21_go {h : aH} {V : Nat → Nat → Int32} (C : CC h S V Z D Ln b A N m F) {cd : Nat → Int32} {bi sh : Int32} (O : okCd S V cd bi sh) {c : Nat} (hv : ∀ s, s < m 0 → V 100 s = sprGo A 0 0 (m 0) (jI c) zV s) : ∀ (n i f : Nat) (a : Int32), i + n = m 0 → n < f → cdG cd (sprGo A 0 0 (m 0) (jI c) zV) i n a = cdX A m cd bi c → s_X5_codePush_21 f 99 a (jI i) h = some (.inl (some (.int (codS A m cd bi sh c))), h)
  | _, _, 0, _, _, hf, _ => by omega
  | 0, i, f + 1, a, hk, hf, he => by
    obtain ⟨X, HM, K, hC, hwd⟩ := id C
    have k0 := K.1.1.1
    have g0 : gO h (.ref 99) 5 0 = some 3 := gO_of (ltE (by decide)) (X.1 99 rfl) rfl
    have g7 : gI h (.ref 99) 5 7 = some sh := O.2.2 ▸ gI_of (ltE (by decide)) (X.1 99 rfl) rfl
    have l0 : ldI .int h (.ref (3 + 1)) 0 = some (jI (m 0)) := (K.1.2.1 0 (by decide)) ▸ HM.ldmn (s := 0) (by decide)
    have lb : ldI .int h (.ref (aE + 1)) 1 = some 3 := BASE_of (j := 1) (by decide)
    have lo : ldI .int h (.ref (3 + 3)) 3 = some (A 3 3) := HM.ldlo (s := 3) (by decide)
    have hi : ldI .int h (.ref (3 + 4)) 3 = some (A 4 3) := HM.ldhi (s := 3) (by decide)
    have p79 : ∀ x, s_X5_codePush_79 99 x h = some (.inl (some (.int ((jmax (A 3 3) (jmin (A 4 3) x)) - A 3 3))), h) := by
      intro x
      unfold s_X5_codePush_79
      simp only [lb, g0, HM.lo, HM.hi, lo, hi, Option.bind_some]
    have he' : a = cdX A m cd bi c := he
    show s_X5_codePush_21_b (s_X5_codePush_21 f) 99 a (jI i) h = _
    unfold s_X5_codePush_21_b
    rw [g0, Option.bind_some, HM.mn, Option.bind_some, l0, Option.bind_some, if_pos ((jI_le (by omega) (by omega)).mpr (by omega)), g7, Option.bind_some, Option.bind_some, Option.bind_some, p79, p79, he']
    unfold codS
    by_cases q : sh ≤ 0
    · rw [if_pos q, if_pos q]
    · rw [if_neg q, if_neg q]
  | n + 1, i, f + 1, a, hk, hf, he => by
    obtain ⟨X, HM, K, hC, hwd⟩ := id C
    have k0 := K.1.1.1
    have g0 : gO h (.ref 99) 5 0 = some 3 := gO_of (ltE (by decide)) (X.1 99 rfl) rfl
    have g5 : gO h (.ref 99) 5 5 = some 101 := gO_of (ltE (by decide)) (X.1 99 rfl) rfl
    have g4 : gO h (.ref 99) 5 4 = some 100 := gO_of (ltE (by decide)) (X.1 99 rfl) rfl
    have l0 : ldI .int h (.ref (3 + 1)) 0 = some (jI (m 0)) := (K.1.2.1 0 (by decide)) ▸ HM.ldmn (s := 0) (by decide)
    have l1 : ldI .int h (.ref 101) (jI i) = some (cd i) := (O.1 i (by omega)) ▸ X.ld (a := 101) rfl (show i < 3 by omega)
    have l2 : ldI .int h (.ref 100) (jI i) = some (sprGo A 0 0 (m 0) (jI c) zV i) := (hv i (by omega)) ▸ X.ld (a := 100) rfl (show i < 9 by omega)
    have ih := cp21_go C O hv n (i + 1) f (a + cd i * sprGo A 0 0 (m 0) (jI c) zV i) (by omega) (by omega) he
    show s_X5_codePush_21_b (s_X5_codePush_21 f) 99 a (jI i) h = _
    unfold s_X5_codePush_21_b
    rw [g0, Option.bind_some, HM.mn, Option.bind_some, l0, Option.bind_some, if_neg (fun q => by have := (jI_le (by omega) (by omega)).mp q; omega), g5, Option.bind_some, l1, Option.bind_some, g4, Option.bind_some, l2, Option.bind_some, jI_inc]
    exact ih
theorem CC.codePush {h : aH} {V : Nat → Nat → Int32} (C : CC h S V Z D Ln b A N m F) {cd : Nat → Int32} {bi sh : Int32} (O : okCd S V cd bi sh) (c : Nat) :
    ∃ h' V', s_X5_codePush 99 (jI c) h = some (.inl (some (.int (codS A m cd bi sh c))), h') ∧ CC h' S V' Z D Ln b A N m F ∧ Oc D h h' ∧ Sm [100] V V' ∧ okCd S V' cd bi sh := by
  have k0 := C.2.2.1.1.1.1
  have g0 : gO h (.ref 99) 5 0 = some 3 := gO_of (ltE (by decide)) (C.1.1 99 rfl) rfl
  have g4 : gO h (.ref 99) 5 4 = some 100 := gO_of (ltE (by decide)) (C.1.1 99 rfl) rfl
  obtain ⟨h1, e1, C1, O1⟩ := C.spr (a := 100) rfl rfl (k := 0) (by decide) (jI c)
  have e1' : s_X2_spread 3 0 (jI c) 0 100 h = some (.inl none, h1) := e1
  have g6 : gI h1 (.ref 99) 5 6 = some bi := O.2.1 ▸ gI_of (ltE (by decide)) (C1.1.1 99 rfl) rfl
  have ok1 : okCd S (upd2 V 100 (sprGo A 0 (baseN 0) (m 0) (jI c) (V 100))) cd bi sh := ⟨fun i hi => by rw [upd2_ne (by decide)]; exact O.1 i hi, O.2⟩
  have e2 := cp21_go C1 ok1 (c := c) (fun s hs => by rw [upd2_eq]; exact spr_in A 0 0 (m 0) _ _ _ s (Nat.zero_le _) (by omega)) (m 0) 0 FU bi (by omega) (by unfold FU; omega) rfl
  refine ⟨h1, _, ?_, C1, O1, Sm.refl.upd (by decide), ok1⟩
  unfold s_X5_codePush
  rw [g0, Option.bind_some, g4, Option.bind_some, C.kO3, e1']
  simp only [cN, g6, Option.bind_some]
  exact e2
theorem st4_go {good : Nat → Bool} (hg : ∀ c, F 12 ≤ c → good c = false) (h1 : m 1 = 1) {cd : Nat → Int32} {bi sh : Int32} : ∀ (n c f g : Nat) (h : aH) (V : Nat → Nat → Int32), c + n = F 12 → n < f → g + n < 1000000 → CC h S V Z D Ln b A N m F → okCd S V cd bi sh → okSf S V A m F good →
    ∃ h' V', s_X5_straying_4 f 99 (jI g) (jI c) h = some (.inl (some (.int (jI (g + cntR (fun c => sfW A m F good 0 c && !intoB (ldV A m F c (codS A m cd bi sh c).toNatClampNeg) (F 14) (sfW A m F good 0)) c n)))), h') ∧ CC h' S V' Z D Ln b A N m F ∧ Oc D h h' ∧ Sm [100] V V'
  | _, _, 0, _, _, _, _, hf, _, _, _, _ => by omega
  | 0, c, f + 1, g, h, V, hk, hf, hgn, C, O, sf => by
    have h400 := C.2.2.2.1.2.2.2.2.1
    have g0 : gO h (.ref 99) 5 0 = some 3 := gO_of (ltE (by decide)) (C.1.1 99 rfl) rfl
    refine ⟨h, V, ?_, C, Oc.refl, Sm.refl⟩
    show s_X5_straying_4_b (s_X5_straying_4 f) 99 (jI g) (jI c) h = _
    unfold s_X5_straying_4_b
    rw [g0, Option.bind_some, C.f12, Option.bind_some, if_pos ((jI_le (by omega) (by omega)).mpr (by omega))]
    rfl
  | n + 1, c, f + 1, g, h, V, hk, hf, hgn, C, O, sf => by
    obtain ⟨X, HM, K, hC, hwd⟩ := id C
    have h400 := hC.2.2.2.2.1
    have h9 := hC.2.2.2.2.2.1
    have hc : c < F 12 := by omega
    have g0 : gO h (.ref 99) 5 0 = some 3 := gO_of (ltE (by decide)) (X.1 99 rfl) rfl
    have g3 : gO h (.ref 99) 5 3 = some 69 := gO_of (ltE (by decide)) (X.1 99 rfl) rfl
    have g8 : gO h (.ref 69) 7 8 = some 72 := gO_of (ltE (by decide)) (X.1 69 rfl) rfl
    have l72 : ldI .int h (.ref 72) (jI c) = some (V 72 c) := X.ld (a := 72) rfl (show c < 400 by omega)
    have e0 : sfW A m F good 0 = safeS (ldV A m F) (F 13) (F 14) (F 12) good := by
      funext d
      unfold sfW
      rw [ldW_0, nWd_0 hC]
    have sfe : V 72 c = 0 ↔ sfW A m F good 0 c = false := by
      rw [e0]
      constructor
      · intro z
        cases t : safeS (ldV A m F) (F 13) (F 14) (F 12) good c with
        | false => rfl
        | true =>
          obtain ⟨q, q1, q2⟩ := canB_iff.mp (safe_fix hg t).2
          exact absurd z (bitI_ne (q := q) (by omega) ((sf.1 c hc q (by omega)).mpr ⟨q1, t, q2⟩))
      · intro t
        apply Classical.byContradiction
        intro z
        obtain ⟨q, q1, q2⟩ := bitI_ex z
        have := ((sf.1 c hc q q1).mp q2).2.1
        rw [t] at this
        cases this
    have cr : ∀ T : Nat → Bool, cntR T c (n + 1) = (if T c then 1 else 0) + cntR T (c + 1) n := fun T => rfl
    cases z : sfW A m F good 0 c with
    | false =>
      obtain ⟨h', V', ih, i1, i2, i3⟩ := st4_go hg h1 n (c + 1) f g h V (by omega) (by omega) (by omega) C O sf
      refine ⟨h', V', ?_, i1, i2, i3⟩
      rw [cr]
      simp only [z, Bool.false_and, Bool.false_eq_true, if_false, Nat.zero_add]
      show s_X5_straying_4_b (s_X5_straying_4 f) 99 (jI g) (jI c) h = _
      unfold s_X5_straying_4_b
      rw [g0, Option.bind_some, C.f12, Option.bind_some, if_neg (fun q => by have := (jI_le (by omega) (by omega)).mp q; omega), g3, Option.bind_some, g8, Option.bind_some, l72, Option.bind_some, if_pos (sfe.mpr z), jI_inc]
      exact ih
    | true =>
      have zz : ¬ V 72 c = 0 := fun t => by rw [sfe, z] at t; cases t
      obtain ⟨h2, V2, e2, C2, O2, M2, ok2⟩ := C.codePush O c
      obtain ⟨p, ep, hp⟩ := cod_lt K hC h1 cd bi sh c
      rw [ep] at e2
      have v72 : V2 72 = V 72 := M2 72 (by decide)
      have sf2 : okSf S V2 A m F good := ⟨fun c hc q hq => by rw [v72]; exact sf.1 c hc q hq, fun c hc => by rw [M2 71 (by decide)]; exact sf.2.1 c hc, sf.2.2⟩
      have bt : bitI (V 72 c) p = intoB (ldV A m F c p) (F 14) (sfW A m F good 0) := by
        have := sf.1 c hc p (by omega)
        rw [← e0] at this
        exact Bool_ext (this.trans ⟨fun t => t.2.2, fun t => ⟨hp, z, t⟩⟩)
      obtain ⟨h', V', ih, i1, i2, i3⟩ := st4_go hg h1 n (c + 1) f (g + (if !intoB (ldV A m F c p) (F 14) (sfW A m F good 0) then 1 else 0)) h2 V2 (by omega) (by omega) (by split <;> omega) C2 ok2 sf2
      refine ⟨h', V', ?_, i1, O2.trans i2, M2.trans i3⟩
      rw [cr]
      simp only [z, Bool.true_and, ep, jI_cl (show p < 2147483648 by omega)]
      rw [← Nat.add_assoc]
      refine Eq.trans ?_ ih
      show s_X5_straying_4_b (s_X5_straying_4 f) 99 (jI g) (jI c) h = _
      unfold s_X5_straying_4_b
      rw [g0, Option.bind_some, C.f12, Option.bind_some, if_neg (fun q => by have := (jI_le (by omega) (by omega)).mp q; omega), g3, Option.bind_some, g8, Option.bind_some, l72, Option.bind_some, if_neg zz, kO_of (ltE (by decide)) (X.1 99 rfl), e2]
      simp only [cI, jI_inc]
      cases y : intoB (ldV A m F c p) (F 14) (sfW A m F good 0) with
      | false =>
        rw [if_pos ((bitI_test (by omega)).mpr (by rw [bt, y]))]
        rfl
      | true =>
        rw [if_neg (fun t => by rw [bitI_test (by omega), bt, y] at t; cases t)]
        rfl
theorem rd12_go {cd : Nat → Int32} {bi sh : Int32} (h1 : m 1 = 1) : ∀ (n t f : Nat) (h : aH) (V : Nat → Nat → Int32) (d : Nat) (vis : Nat → Int32), t + n = F 12 + 1 → n < f → CC h S V Z D Ln b A N m F → okCd S V cd bi sh → d < F 12 → (∀ c, c < F 12 → V 103 c = vis c) → (∀ c, c < F 12 → vis c = -1 ∨ 0 ≤ vis c) →
    ∃ h' V', s_X5_round_12 f 99 (jI d) (jI t) h = some (.inl (some (.int (wkG (fun c => ldV A m F c (codS A m cd bi sh c).toNatClampNeg 0) n t (jI d) vis))), h') ∧ CC h' S V' Z D Ln b A N m F ∧ Oc D h h' ∧ Sm [100, 103] V V'
  | _, _, 0, _, _, _, _, _, hf, _, _, _, _, _ => by omega
  | 0, t, f + 1, h, V, d, vis, hk, hf, C, O, hd, hv, hn => by
    have h400 := C.2.2.2.1.2.2.2.2.1
    have g0 : gO h (.ref 99) 5 0 = some 3 := gO_of (ltE (by decide)) (C.1.1 99 rfl) rfl
    refine ⟨h, V, ?_, C, Oc.refl, Sm.refl⟩
    show s_X5_round_12_b (s_X5_round_12 f) 99 (jI d) (jI t) h = _
    unfold s_X5_round_12_b
    rw [g0, Option.bind_some, C.f12, Option.bind_some, if_pos ((jI_lt (by omega) (by omega)).mpr (by omega))]
    rfl
  | n + 1, t, f + 1, h, V, d, vis, hk, hf, C, O, hd, hv, hn => by
    obtain ⟨X, HM, K, hC, hwd⟩ := id C
    have h400 := hC.2.2.2.2.1
    have h9 := hC.2.2.2.2.2.1
    have g0 : gO h (.ref 99) 5 0 = some 3 := gO_of (ltE (by decide)) (X.1 99 rfl) rfl
    have g10 : gO h (.ref 99) 5 10 = some 103 := gO_of (ltE (by decide)) (X.1 99 rfl) rfl
    have l103 : ldI .int h (.ref 103) (jI d) = some (vis d) := (hv d hd) ▸ X.ld (a := 103) rfl (show d < 400 by omega)
    have wk : wkG (fun c => ldV A m F c (codS A m cd bi sh c).toNatClampNeg 0) (n + 1) t (jI d) vis = if vis d = -1 then wkG (fun c => ldV A m F c (codS A m cd bi sh c).toNatClampNeg 0) n (t + 1) (ldV A m F d (codS A m cd bi sh d).toNatClampNeg 0) (upd vis d (jI t)) else jI t - vis d := by
      show (if jI d = -2 then (-2 : Int32) else _) = _
      rw [if_neg (jI_m2 (by omega)), jI_cl (by omega)]
    rw [wk]
    by_cases z : vis d = -1
    · obtain ⟨h2, e2, X2, O2⟩ := X.st (a := 103) (j := d) rfl (show d < 400 by omega) (jI t)
      have C2 := C.to X2 O2 rfl
      have ok2 : okCd S (upd2 V 103 (upd (V 103) d (jI t))) cd bi sh := ⟨fun i hi => by rw [upd2_ne (by decide)]; exact O.1 i hi, O.2⟩
      have G0 : gO h2 (.ref 99) 5 0 = some 3 := gO_of (ltE (by decide)) (X2.1 99 rfl) rfl
      obtain ⟨h3, V3, e3, C3, O3, M3, ok3⟩ := C2.codePush ok2 d
      obtain ⟨p, ep, hp⟩ := cod_lt K hC h1 cd bi sh d
      rw [ep] at e3
      have G4 : gO h3 (.ref 99) 5 4 = some 100 := gO_of (ltE (by decide)) (C3.1.1 99 rfl) rfl
      obtain ⟨h4, e4, C4, O4⟩ := C3.sprM (a := 100) rfl rfl (jI d) (jI p) 0
      have H0 : gO h4 (.ref 99) 5 0 = some 3 := gO_of (ltE (by decide)) (C4.1.1 99 rfl) rfl
      have H4 : gO h4 (.ref 99) 5 4 = some 100 := gO_of (ltE (by decide)) (C4.1.1 99 rfl) rfl
      have e5 := C4.lead (a := 100) rfl rfl
      have ex : leadV A m F (upd2 V3 100 (spM A m (jI (F 15)) (jI d) (jI p) 0 (V3 100)) 100) = ldV A m F d p 0 := by
        rw [upd2_eq]
        exact leadV_congr (spM_agree K.1.1 _ _ _ _ _ _) K.2.1
      rw [ex] at e5
      have start : ∀ {y : aO}, (if 0 ≤ ldV A m F d p 0 then s_X5_round_12 f 99 (ldV A m F d p 0) (jI (t + 1)) h4 else some (.inl (some (.int (-2))), h4)) = y → s_X5_round_12 (f + 1) 99 (jI d) (jI t) h = y := by
        intro y hy
        show s_X5_round_12_b (s_X5_round_12 f) 99 (jI d) (jI t) h = _
        unfold s_X5_round_12_b
        rw [g0, Option.bind_some, C.f12, Option.bind_some, if_neg (fun q => by have := (jI_lt (by omega) (by omega)).mp q; omega), g10, Option.bind_some, l103, Option.bind_some, if_pos (by rw [z]; decide), Option.bind_some, e2, Option.bind_some, G0, Option.bind_some, kO_of (ltE (by decide)) (X2.1 99 rfl), e3]
        simp only [cI, G4, Option.bind_some, C3.kO3, e4, cN, H0, H4, C4.kO3, e5, jI_inc]
        exact hy
      have M34 : Sm [100, 103] V (upd2 V3 100 (spM A m (jI (F 15)) (jI d) (jI p) 0 (V3 100))) := ((Sm.refl.upd (by decide)).trans (M3.mono (by decide))).upd (by decide)
      rw [if_pos z, ep, jI_cl (show p < 2147483648 by omega)]
      rcases ldV_is K hC d p 0 with y | ⟨e, y, he⟩
      · refine ⟨h4, _, start ?_, C4, (O2.trans O3).trans O4, M34⟩
        rw [y, if_neg (by decide), wkG_out]
      · obtain ⟨h', V', ih, i1, i2, i3⟩ := rd12_go h1 n (t + 1) f h4 _ e (upd vis d (jI t)) (by omega) (by omega) C4 (show okCd S _ cd bi sh from ⟨fun i hi => by rw [upd2_ne (by decide)]; exact ok3.1 i hi, ok3.2⟩) he (fun c hc => by
          rw [upd2_ne (by decide), M3 103 (by decide), upd2_eq]
          by_cases q : c = d
          · rw [q, upd_eq, upd_eq]
          · rw [upd_ne q, upd_ne q]; exact hv c hc) (fun c hc => by
          by_cases q : c = d
          · rw [q, upd_eq]; exact Or.inr (i32_nlt.mp (jI_neg (by omega)))
          · rw [upd_ne q]; exact hn c hc)
        refine ⟨h', V', start ?_, i1, ((O2.trans O3).trans O4).trans i2, M34.trans i3⟩
        rw [y, if_pos (i32_nlt.mp (jI_neg (by omega)))]
        exact ih
    · have z0 : ¬ vis d < 0 := fun q => z ((neg1 (hn d hd)).mp q)
      refine ⟨h, V, ?_, C, Oc.refl, Sm.refl⟩
      show s_X5_round_12_b (s_X5_round_12 f) 99 (jI d) (jI t) h = _
      unfold s_X5_round_12_b
      rw [g0, Option.bind_some, C.f12, Option.bind_some, if_neg (fun q => by have := (jI_lt (by omega) (by omega)).mp q; omega), g10, Option.bind_some, l103, Option.bind_some, if_neg z0, Option.bind_some, l103, Option.bind_some, if_neg z]
theorem CC.round {h : aH} {V : Nat → Nat → Int32} (C : CC h S V Z D Ln b A N m F) (h1 : m 1 = 1) {cd : Nat → Int32} {bi sh : Int32} (O : okCd S V cd bi sh) {c : Nat} (hc : c < F 12) :
    ∃ h' V', s_X5_round 99 (jI c) h = some (.inl (some (.int (wkG (fun c => ldV A m F c (codS A m cd bi sh c).toNatClampNeg 0) (F 12 + 1) 0 (jI c) (fun _ => -1)))), h') ∧ CC h' S V' Z D Ln b A N m F ∧ Oc D h h' ∧ Sm [100, 103] V V' := by
  have h400 := C.2.2.2.1.2.2.2.2.1
  have g10 : gO h (.ref 99) 5 10 = some 103 := gO_of (ltE (by decide)) (C.1.1 99 rfl) rfl
  obtain ⟨h2, e2, C2, O2⟩ := C.fill13 (a := 103) rfl rfl (-1)
  obtain ⟨h', V', ih, i1, i2, i3⟩ := rd12_go h1 (F 12 + 1) 0 FU h2 _ c (fun _ => -1) (by omega) (by unfold FU; omega) C2 (show okCd S _ cd bi sh from ⟨fun i hi => by rw [upd2_ne (by decide)]; exact O.1 i hi, O.2⟩) hc (fun d hd => by
    rw [upd2_eq]
    unfold filF
    rw [if_pos ⟨Nat.zero_le _, show d < lnC 103 from show d < 400 by omega⟩]) (fun d hd => Or.inl rfl)
  refine ⟨h', V', ?_, i1, O2.trans i2, (Sm.refl.upd (by decide)).trans i3⟩
  unfold s_X5_round
  rw [g10, Option.bind_some, e2]
  simp only [cN]
  exact ih
end
