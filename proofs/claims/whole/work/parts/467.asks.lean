/-! what the class's watcher answers -/
/-- it can be in a cell -/
def caS (A : Nat → Nat → Int32) (m F : Nat → Nat) (good : Nat → Bool) (tp ta tv : Nat → Int32) (by' : Int32) (fl t c : Nat) : Bool := anyR (fun q => wS A m F good tp ta tv by' fl q t c) 0 (F 15)
def fiS (A : Nat → Nat → Int32) (m F : Nat → Nat) (good : Nat → Bool) (tp ta tv : Nat → Int32) (by' : Int32) (fl t q : Nat) : Bool := anyR (fun c => wS A m F good tp ta tv by' fl q t c) 0 (F 12)
theorem okLa.zero {V : Nat → Nat → Int32} {A : Nat → Nat → Int32} {m F : Nat → Nat} {good : Nat → Bool} {tp ta tv : Nat → Int32} {by' : Int32} {fl st e : Nat} (H : okLa V A m F good tp ta tv by' fl st e) (h27 : F 15 ≤ 27) {c : Nat} (hc : c < F 12) : V 97 (st + c) = 0 ↔ caS A m F good tp ta tv by' fl e c = false := by
  rw [bitI_zero]
  constructor
  · intro h
    cases z : caS A m F good tp ta tv by' fl e c with
    | false => rfl
    | true =>
      obtain ⟨q, _, q2, q3⟩ := (anyR_iff _ _).mp z
      have := h q (by omega)
      rw [H c hc q (by omega), q3, decide_eq_true (show q < F 15 by omega)] at this
      cases this
  · intro z q hq
    rw [H c hc q hq]
    by_cases u : q < F 15
    · cases v : wS A m F good tp ta tv by' fl q e c with
      | false => rw [Bool.and_false]
      | true =>
        have : caS A m F good tp ta tv by' fl e c = true := (anyR_iff _ _).mpr ⟨q, Nat.zero_le _, by omega, v⟩
        rw [z] at this
        cases this
    · rw [decide_eq_false u, Bool.false_and]
def bdG (T : Nat → Bool) (f : Nat → Int32) (mo : Bool) : Nat → Nat → Int32 → Int32
  | _, 0, a => a
  | c, n + 1, a => if T c then (if a = -2147483648 then bdG T f mo (c + 1) n (f c) else if (if mo then decide (a < f c) else decide (f c < a)) then bdG T f mo (c + 1) n (f c) else bdG T f mo (c + 1) n a) else bdG T f mo (c + 1) n a
section
variable {S : Nat → Nat → Int32} {Z : Nat → Nat → Int64} {D Ln : Nat → Nat} {b : Nat} {A : Nat → Nat → Int32} {N : Nat → Int64} {m F : Nat → Nat} {good : Nat → Bool} {tp ta tv : Nat → Int32} {by' : Int32} {fl : Nat}
theorem CC.startOf {h : aH} {V : Nat → Nat → Int32} (C : CC h S V Z D Ln b A N m F) (lane e : Nat) : s_X9_startOf 92 (jI lane) (jI e) h = some (.inl (some (.int (jI (lnI F lane e)))), h) := by
  have g0 : gO h (.ref 92) 9 0 = some 3 := gO_of (ltE (by decide)) (C.1.1 92 rfl) rfl
  unfold s_X9_startOf lnI
  rw [g0, Option.bind_some, C.f12, Option.bind_some, show (31 : Int32) = jI 31 from rfl, jI_mul, jI_add, jI_mul]
theorem lnI_top {lane e : Nat} (hl : lane < 6) (he : e ≤ 30) : lnI F lane e + F 12 ≤ 186 * F 12 := lnI_le (F := F) (show lane * 31 + e + 1 ≤ 6 * 31 + 0 by omega)
theorem ci13_go {h : aH} {V : Nat → Nat → Int32} (C : CC h S V Z D Ln b A N m F) {st e : Nat} (H : okLa V A m F good tp ta tv by' fl st e) (hst : st + F 12 ≤ Ln 97) : ∀ (n c f g : Nat), c + n = F 12 → n < f → g + n < 1000000 → s_X9_cellsIn_13 f 92 (jI st) (jI g) (jI c) h = some (.inl (some (.int (jI (g + cntR (caS A m F good tp ta tv by' fl e) c n)))), h)
  | _, _, 0, _, _, hf, _ => by omega
  | 0, c, f + 1, g, hk, hf, hg => by
    have h400 := C.2.2.2.1.2.2.2.2.1
    have g0 : gO h (.ref 92) 9 0 = some 3 := gO_of (ltE (by decide)) (C.1.1 92 rfl) rfl
    show s_X9_cellsIn_13_b (s_X9_cellsIn_13 f) 92 (jI st) (jI g) (jI c) h = _
    unfold s_X9_cellsIn_13_b
    rw [g0, Option.bind_some, C.f12, Option.bind_some, if_pos ((jI_le (by omega) (by omega)).mpr (by omega))]
    rfl
  | n + 1, c, f + 1, g, hk, hf, hg => by
    have h400 := C.2.2.2.1.2.2.2.2.1
    have pos := C.2.2.2.1.pos
    have g0 : gO h (.ref 92) 9 0 = some 3 := gO_of (ltE (by decide)) (C.1.1 92 rfl) rfl
    have g8 : gO h (.ref 92) 9 8 = some (D 97) := gO_of (ltE (by decide)) (C.1.1 92 rfl) rfl
    have l : ldI .int h (.ref (D 97)) (jI (st + c)) = some (V 97 (st + c)) := C.1.ldD (i := 97) rfl (by omega)
    have ih := fun g hg => ci13_go C H hst n (c + 1) f g (by omega) (by omega) hg
    have z := H.zero pos.2.2.2.2 (show c < F 12 by omega)
    show s_X9_cellsIn_13_b (s_X9_cellsIn_13 f) 92 (jI st) (jI g) (jI c) h = some (.inl (some (.int (jI (g + ((if caS A m F good tp ta tv by' fl e c then 1 else 0) + cntR (caS A m F good tp ta tv by' fl e) (c + 1) n))))), h)
    unfold s_X9_cellsIn_13_b
    rw [g0, Option.bind_some, C.f12, Option.bind_some, if_neg (fun q => by have := (jI_le (by omega) (by omega)).mp q; omega), g8, Option.bind_some, jI_add, l, Option.bind_some, jI_inc, jI_inc, ← Nat.add_assoc]
    cases u : caS A m F good tp ta tv by' fl e c with
    | false =>
      rw [if_pos (z.mpr u)]
      exact ih g (by omega)
    | true =>
      rw [if_neg (fun v => by rw [z, u] at v; cases v)]
      exact ih (g + 1) (by omega)
theorem CC.cellsIn {h : aH} {V : Nat → Nat → Int32} (C : CC h S V Z D Ln b A N m F) {lane e : Nat} (hl : lane < 6) (he : e ≤ 30) (H : okLa V A m F good tp ta tv by' fl (lnI F lane e) e) (hL : 186 * F 12 ≤ Ln 97) : s_X9_cellsIn 92 (jI lane) (jI e) h = some (.inl (some (.int (jI (cntB (caS A m F good tp ta tv by' fl e) (F 12))))), h) := by
  have h400 := C.2.2.2.1.2.2.2.2.1
  have e0 : (0 : Nat) + cntR (caS A m F good tp ta tv by' fl e) 0 (F 12) = cntB (caS A m F good tp ta tv by' fl e) (F 12) := by
    have := cntR_B (caS A m F good tp ta tv by' fl e) (F 12) 0
    rw [Nat.zero_add] at this
    exact this
  have r := ci13_go C H (by have := lnI_top (F := F) hl he; omega) (F 12) 0 FU 0 (by omega) (by unfold FU; omega) (by omega)
  rw [e0] at r
  unfold s_X9_cellsIn
  rw [kO_of (ltE (by decide)) (C.1.1 92 rfl), C.startOf]
  exact r
theorem bd18_go {tk : Nat} (htk : tk ≤ 30) (hS : S 92 4 = jI tk) {s : Nat} {mo : Bool} (hL : 186 * F 12 ≤ Ln 97) : ∀ (n c f : Nat) (h : aH) (V : Nat → Nat → Int32) (a : Int32), c + n = F 12 → n < f → s < m 0 → CC h S V Z D Ln b A N m F → okLa V A m F good tp ta tv by' fl (lnI F 0 tk) tk →
    ∃ h' V', s_X9_bound_18 f 92 (jI s) (b01 mo) a (jI c) h = some (.inl (some (.int (bdG (caS A m F good tp ta tv by' fl tk) (fun c => sprGo A 0 0 (m 0) (jI c) zV s) mo c n a))), h') ∧ CC h' S V' Z D Ln b A N m F ∧ Oc D h h' ∧ Sm [93] V V'
  | _, _, 0, _, _, _, _, hf, _, _, _ => by omega
  | 0, c, f + 1, h, V, a, hk, hf, hs, C, H => by
    have h400 := C.2.2.2.1.2.2.2.2.1
    have g0 : gO h (.ref 92) 9 0 = some 3 := gO_of (ltE (by decide)) (C.1.1 92 rfl) rfl
    refine ⟨h, V, ?_, C, Oc.refl, Sm.refl⟩
    show s_X9_bound_18_b (s_X9_bound_18 f) 92 (jI s) (b01 mo) a (jI c) h = _
    unfold s_X9_bound_18_b
    rw [g0, Option.bind_some, C.f12, Option.bind_some, if_pos ((jI_le (by omega) (by omega)).mpr (by omega))]
    rfl
  | n + 1, c, f + 1, h, V, a, hk, hf, hs, C, H => by
    obtain ⟨X, HM, K, hC, hwd⟩ := id C
    have h400 := hC.2.2.2.2.1
    have pos := hC.pos
    have k0 := K.1.1.1
    have hLL := X.lnD (i := 97) rfl
    have top := lnI_top (F := F) (show 0 < 6 by decide) htk
    have g0 : gO h (.ref 92) 9 0 = some 3 := gO_of (ltE (by decide)) (X.1 92 rfl) rfl
    have g8 : gO h (.ref 92) 9 8 = some (D 97) := gO_of (ltE (by decide)) (X.1 92 rfl) rfl
    have g3 : gO h (.ref 92) 9 3 = some 93 := gO_of (ltE (by decide)) (X.1 92 rfl) rfl
    have g4 : gI h (.ref 92) 9 4 = some (jI tk) := hS ▸ gI_of (ltE (by decide)) (X.1 92 rfl) rfl
    have l : ldI .int h (.ref (D 97)) (jI (lnI F 0 tk + c)) = some (V 97 (lnI F 0 tk + c)) := X.ldD (i := 97) rfl (by omega)
    have es : s_X9_startOf 92 0 (jI tk) h = _ := C.startOf 0 tk
    have z := H.zero pos.2.2.2.2 (show c < F 12 by omega)
    have bd : ∀ T : Nat → Bool, bdG T (fun c => sprGo A 0 0 (m 0) (jI c) zV s) mo c (n + 1) a = if T c then (if a = -2147483648 then bdG T (fun c => sprGo A 0 0 (m 0) (jI c) zV s) mo (c + 1) n (sprGo A 0 0 (m 0) (jI c) zV s) else if (if mo then decide (a < sprGo A 0 0 (m 0) (jI c) zV s) else decide (sprGo A 0 0 (m 0) (jI c) zV s < a)) then bdG T (fun c => sprGo A 0 0 (m 0) (jI c) zV s) mo (c + 1) n (sprGo A 0 0 (m 0) (jI c) zV s) else bdG T (fun c => sprGo A 0 0 (m 0) (jI c) zV s) mo (c + 1) n a) else bdG T (fun c => sprGo A 0 0 (m 0) (jI c) zV s) mo (c + 1) n a := fun T => rfl
    cases u : caS A m F good tp ta tv by' fl tk c with
    | false =>
      obtain ⟨h', V', ih, r⟩ := bd18_go htk hS (s := s) (mo := mo) hL n (c + 1) f h V a (by omega) (by omega) hs C H
      refine ⟨h', V', ?_, r⟩
      rw [bd, u, if_neg (by decide)]
      refine Eq.trans ?_ ih
      show s_X9_bound_18_b (s_X9_bound_18 f) 92 (jI s) (b01 mo) a (jI c) h = _
      unfold s_X9_bound_18_b
      rw [g0, Option.bind_some, C.f12, Option.bind_some, if_neg (fun q => by have := (jI_le (by omega) (by omega)).mp q; omega), g8, Option.bind_some, g4, Option.bind_some, kO_of (ltE (by decide)) (X.1 92 rfl), es]
      simp only [cI]
      rw [jI_add, l, Option.bind_some, if_pos (z.mpr u), jI_inc]
    | true =>
      obtain ⟨h1, e1, C1, O1⟩ := C.spr (a := 93) rfl rfl (k := 0) (by decide) (jI c)
      have e1' : s_X2_spread 3 0 (jI c) 0 93 h = some (.inl none, h1) := e1
      have G3 : gO h1 (.ref 92) 9 3 = some 93 := gO_of (ltE (by decide)) (C1.1.1 92 rfl) rfl
      obtain ⟨v, hv⟩ : ∃ v, v = sprGo A 0 0 (m 0) (jI c) zV s := ⟨_, rfl⟩
      have l93 : ldI .int h1 (.ref 93) (jI s) = some v := by
        have := C1.1.ld (a := 93) (j := s) rfl (show s < 9 by omega)
        rw [upd2_eq] at this
        rw [this, hv]
        congr 1
        exact spr_in A 0 0 (m 0) _ _ _ s (Nat.zero_le _) (by omega)
      have H1 : okLa (upd2 V 93 (sprGo A 0 (baseN 0) (m 0) (jI c) (V 93))) A m F good tp ta tv by' fl (lnI F 0 tk) tk := H.keep (fun c hc => by rw [upd2_ne (by decide)])
      obtain ⟨a', ha'⟩ : ∃ a' : Int32, a' = if a = -2147483648 then v else if (if mo then decide (a < v) else decide (v < a)) then v else a := ⟨_, rfl⟩
      obtain ⟨h', V', ih, i1, i2, i3⟩ := bd18_go htk hS (s := s) (mo := mo) hL n (c + 1) f h1 _ a' (by omega) (by omega) hs C1 H1
      refine ⟨h', V', ?_, i1, O1.trans i2, (Sm.refl.upd (by decide)).trans i3⟩
      rw [bd, u, if_pos rfl, ← hv]
      have e102 : ∀ q : Bool, q = (if mo then decide (a < v) else decide (v < a)) → s_X9_bound_102 (s_X9_bound_18 f) 92 (jI s) (b01 mo) a (jI c) v (b01 q) h1 = s_X9_bound_18 f 92 (jI s) (b01 mo) a' (jI (c + 1)) h1 := by
        intro q hq
        unfold s_X9_bound_102 s_X9_bound_115
        rw [ha', ← hq, jI_inc]
        by_cases w : a = -2147483648
        · rw [if_pos w, if_pos w]
        · rw [if_neg w, if_neg w]
          cases q with
          | false => rw [if_pos b01_f, if_neg (by decide)]
          | true => rw [if_neg (show ¬ b01 true = 0 by decide), if_pos rfl]
      have ge : bdG (caS A m F good tp ta tv by' fl tk) (fun c => sprGo A 0 0 (m 0) (jI c) zV s) mo (c + 1) n a' = (if a = -2147483648 then bdG (caS A m F good tp ta tv by' fl tk) (fun c => sprGo A 0 0 (m 0) (jI c) zV s) mo (c + 1) n v else if (if mo then decide (a < v) else decide (v < a)) then bdG (caS A m F good tp ta tv by' fl tk) (fun c => sprGo A 0 0 (m 0) (jI c) zV s) mo (c + 1) n v else bdG (caS A m F good tp ta tv by' fl tk) (fun c => sprGo A 0 0 (m 0) (jI c) zV s) mo (c + 1) n a) := by
        rw [ha']
        by_cases w : a = -2147483648
        · rw [if_pos w, if_pos w]
        · rw [if_neg w, if_neg w]
          by_cases w2 : (if mo = true then decide (a < v) else decide (v < a)) = true
          · rw [if_pos w2, if_pos w2]
          · rw [if_neg w2, if_neg w2]
      rw [← ge, ← ih]
      show s_X9_bound_18_b (s_X9_bound_18 f) 92 (jI s) (b01 mo) a (jI c) h = _
      unfold s_X9_bound_18_b
      rw [g0, Option.bind_some, C.f12, Option.bind_some, if_neg (fun q => by have := (jI_le (by omega) (by omega)).mp q; omega), g8, Option.bind_some, g4, Option.bind_some, kO_of (ltE (by decide)) (X.1 92 rfl), es]
      simp only [cI]
      rw [jI_add, l, Option.bind_some, if_neg (fun w => by rw [z, u] at w; cases w), g0, Option.bind_some, g3, Option.bind_some, C.kO3, e1']
      simp only [cN, G3, l93, Option.bind_some]
      cases mo with
      | false =>
        rw [if_pos b01_f]
        by_cases w : a ≤ v
        · rw [if_pos w]
          exact e102 false (by rw [if_neg (by decide), decide_eq_false (i32_nlt.mpr w)])
        · rw [if_neg w]
          exact e102 true (by rw [if_neg (by decide), decide_eq_true (i32_nle.mp w)])
      | true =>
        rw [if_neg (show ¬ b01 true = 0 by decide)]
        by_cases w : v ≤ a
        · rw [if_pos w]
          exact e102 false (by rw [if_pos rfl, decide_eq_false (i32_nlt.mpr w)])
        · rw [if_neg w]
          exact e102 true (by rw [if_pos rfl, decide_eq_true (i32_nle.mp w)])
theorem ft16_go {tk : Nat} (htk : tk ≤ 30) (hS : S 92 4 = jI tk) (hL : 186 * F 12 ≤ Ln 97) {h : aH} {V : Nat → Nat → Int32} (C : CC h S V Z D Ln b A N m F) (H : okLa V A m F good tp ta tv by' fl (lnI F 0 tk) tk) : ∀ (n c f : Nat) (x : Int32), c + n = F 12 → n < f →
    ∃ y, s_X9_fitting_16 f 92 x (jI c) h = some (.inl (some (.int y)), h) ∧ ∀ q, q < 32 → (bitI y q = true ↔ bitI x q = true ∨ (q < F 15 ∧ ∃ d, c ≤ d ∧ d < F 12 ∧ wS A m F good tp ta tv by' fl q tk d = true))
  | _, _, 0, _, _, hf => by omega
  | 0, c, f + 1, x, hk, hf => by
    have h400 := C.2.2.2.1.2.2.2.2.1
    have g0 : gO h (.ref 92) 9 0 = some 3 := gO_of (ltE (by decide)) (C.1.1 92 rfl) rfl
    refine ⟨x, ?_, fun q hq => ⟨Or.inl, fun z => z.elim id (fun ⟨_, d, z1, z2, _⟩ => by omega)⟩⟩
    show s_X9_fitting_16_b (s_X9_fitting_16 f) 92 x (jI c) h = _
    unfold s_X9_fitting_16_b
    rw [g0, Option.bind_some, C.f12, Option.bind_some, if_pos ((jI_le (by omega) (by omega)).mpr (by omega))]
  | n + 1, c, f + 1, x, hk, hf => by
    obtain ⟨X, HM, K, hC, hwd⟩ := id C
    have h400 := hC.2.2.2.2.1
    have hLL := X.lnD (i := 97) rfl
    have top := lnI_top (F := F) (show 0 < 6 by decide) htk
    have g0 : gO h (.ref 92) 9 0 = some 3 := gO_of (ltE (by decide)) (X.1 92 rfl) rfl
    have g8 : gO h (.ref 92) 9 8 = some (D 97) := gO_of (ltE (by decide)) (X.1 92 rfl) rfl
    have g4 : gI h (.ref 92) 9 4 = some (jI tk) := hS ▸ gI_of (ltE (by decide)) (X.1 92 rfl) rfl
    have l : ldI .int h (.ref (D 97)) (jI (lnI F 0 tk + c)) = some (V 97 (lnI F 0 tk + c)) := X.ldD (i := 97) rfl (by omega)
    have es : s_X9_startOf 92 0 (jI tk) h = _ := C.startOf 0 tk
    obtain ⟨y, e, i⟩ := ft16_go htk hS hL C H n (c + 1) f (x ||| V 97 (lnI F 0 tk + c)) (by omega) (by omega)
    refine ⟨y, ?_, fun q hq => (i q hq).trans ?_⟩
    · show s_X9_fitting_16_b (s_X9_fitting_16 f) 92 x (jI c) h = _
      unfold s_X9_fitting_16_b
      rw [g0, Option.bind_some, C.f12, Option.bind_some, if_neg (fun q => by have := (jI_le (by omega) (by omega)).mp q; omega), g8, Option.bind_some, g4, Option.bind_some, kO_of (ltE (by decide)) (X.1 92 rfl), es]
      simp only [cI]
      rw [jI_add, l, Option.bind_some, jI_inc]
      exact e
    · have eb : bitI (x ||| V 97 (lnI F 0 tk + c)) q = (bitI x q || (decide (q < F 15) && wS A m F good tp ta tv by' fl q tk c)) := by
        rw [← H c (by omega) q hq]
        unfold bitI
        rw [Int32.toBitVec_or, BitVec.getLsbD_or]
      rw [eb, Bool.or_eq_true, Bool.and_eq_true, decide_eq_true_eq]
      constructor
      · rintro ((v | v) | ⟨v, d, v1, v2, v3⟩)
        · exact Or.inl v
        · exact Or.inr ⟨v.1, c, Nat.le_refl _, by omega, v.2⟩
        · exact Or.inr ⟨v, d, by omega, v2, v3⟩
      · rintro (v | ⟨v, d, v1, v2, v3⟩)
        · exact Or.inl (Or.inl v)
        · by_cases u : d = c
          · rw [u] at v3
            exact Or.inl (Or.inr ⟨v, v3⟩)
          · exact Or.inr ⟨v, d, by omega, v2, v3⟩
end
