/-! the reference's reaches -/
def glR (V : Nat → Nat → Int32) (C : Nat) (goal : Nat → Bool) : Prop := ∀ c, c < C → V 147 c = b01 (goal c)
section
variable {S : Nat → Int32} {wd : Int64} {t : Nat} {fv nv : Value} {Z : Nat → Nat → Int64} {A : Nat → Nat → Int32} {m F : Nat → Nat} {B : Nat → Nat → Int32} {W : Nat → Int64} {G : Nat → Nat}
theorem rch2_go : ∀ (n k f : Nat) (h : aH) (V : Nat → Nat → Int32), k + n = 13 → n < f → RC h S wd t fv nv V Z A m F B W G → (∀ j, j < k → V 153 j = 0) →
    ∃ h' V', s_X14_reaches_2 f 104 (jI k) h = s_X14_reaches_23 FU 104 0 h' ∧ RC h' S wd t fv nv V' Z A m F B W G ∧ Ou h h' ∧ Sm [153] V V' ∧ ∀ j, j < 13 → V' 153 j = 0
  | _, _, 0, _, _, _, hf, _, _ => by omega
  | 0, k, f + 1, h, V, hk, hf, C, hz => by
    refine ⟨h, V, ?_, C, Ou.refl, Sm.refl, fun j h1 => hz j (by omega)⟩
    show s_X14_reaches_2_b (s_X14_reaches_2 f) 104 (jI k) h = _
    unfold s_X14_reaches_2_b
    rw [show (13 : Int32) = jI 13 from rfl, if_pos ((jI_le (by omega) (by omega)).mpr (by omega))]
  | n + 1, k, f + 1, h, V, hk, hf, C, hz => by
    have X := C.1
    have g35 : gO h (.ref 104) 14 35 = some 153 := gO_of (ltE (by decide)) X.1 rfl
    obtain ⟨h1, e1, X1, O1⟩ := X.st (a := 153) (j := k) rfl rfl (show k < 13 by omega) 0
    obtain ⟨h', V', ih, i1, i2, i3, i4⟩ := rch2_go n (k + 1) f h1 _ (by omega) (by omega) (C.to X1 O1) (fun j hj => by
      rw [upd2_eq]
      by_cases z : j = k
      · rw [z, upd_eq]
      · rw [upd_ne z]; exact hz j (by omega))
    refine ⟨h', V', ?_, i1, O1.trans i2, (Sm.refl.upd (by decide)).trans i3, i4⟩
    show s_X14_reaches_2_b (s_X14_reaches_2 f) 104 (jI k) h = _
    unfold s_X14_reaches_2_b
    rw [show (13 : Int32) = jI 13 from rfl, if_neg (fun q => by have := (jI_le (by omega) (by omega)).mp q; omega), g35, Option.bind_some, e1, Option.bind_some, jI_inc]
    exact ih
theorem rch23_go {good goal : Nat → Bool} : ∀ (n c f : Nat) (h : aH) (V : Nat → Nat → Int32), c + n = F 12 → n < f → RC h S wd t fv nv V Z A m F B W G → gdR V (F 12) good → glR V (F 12) goal →
    (∀ d, d < 416 → bit (V 153) 0 d = (decide (d < c) && (good d && goal d))) → (∀ d, d < c → V 157 d = if good d && goal d then 0 else -2) → (∀ d, d < c → V 158 d = -2) →
    ∃ h' V', s_X14_reaches_23 f 104 (jI c) h = s_X14_reaches_97 FU 104 1 1 h' ∧ RC h' S wd t fv nv V' Z A m F B W G ∧ Ou h h' ∧ Sm [153, 157, 158] V V' ∧ (∀ d, d < 416 → bit (V' 153) 0 d = (decide (d < F 12) && (good d && goal d))) ∧
      (∀ d, d < F 12 → V' 157 d = if good d && goal d then 0 else -2) ∧ ∀ d, d < F 12 → V' 158 d = -2
  | _, _, 0, _, _, _, hf, _, _, _, _, _, _ => by omega
  | 0, c, f + 1, h, V, hk, hf, C, hg, hl, h1, h2, h3 => by
    have hc : c = F 12 := by omega
    subst hc
    refine ⟨h, V, ?_, C, Ou.refl, Sm.refl, h1, h2, h3⟩
    obtain ⟨X, -, -, sim, K, hC, s20, s21, s22, s23⟩ := id C
    have h400 := hC.2.2.2.2.1
    have g : gI h (.ref 104) 14 20 = some (jI (F 12)) := s20 ▸ gI_of (ltE (by decide)) X.1 rfl
    show s_X14_reaches_23_b (s_X14_reaches_23 f) 104 (jI (F 12)) h = _
    unfold s_X14_reaches_23_b
    rw [g, Option.bind_some, if_pos ((jI_le (by omega) (by omega)).mpr (by omega))]
  | n + 1, c, f + 1, h, V, hk, hf, C, hg, hl, h1, h2, h3 => by
    obtain ⟨X, -, -, sim, K, hC, s20, s21, s22, s23⟩ := id C
    have h400 := hC.2.2.2.2.1
    have g : gI h (.ref 104) 14 20 = some (jI (F 12)) := s20 ▸ gI_of (ltE (by decide)) X.1 rfl
    have g39 : gO h (.ref 104) 14 39 = some 157 := gO_of (ltE (by decide)) X.1 rfl
    have g27 : gO h (.ref 104) 14 27 = some 146 := gO_of (ltE (by decide)) X.1 rfl
    have g28 : gO h (.ref 104) 14 28 = some 147 := gO_of (ltE (by decide)) X.1 rfl
    have l : ldI .boolean h (.ref 146) (jI c) = some (b01 (good c)) := (hg c (by omega)) ▸ X.ld (a := 146) rfl (show c < 400 by omega)
    have l2 : ldI .boolean h (.ref 147) (jI c) = some (b01 (goal c)) := (hl c (by omega)) ▸ X.ld (a := 147) rfl (show c < 400 by omega)
    obtain ⟨hA, eA, XA, OA⟩ := X.st (a := 157) (j := c) rfl rfl (show c < 400 by omega) (if good c && goal c then 0 else -2)
    have G40 : gO hA (.ref 104) 14 40 = some 158 := gO_of (ltE (by decide)) XA.1 rfl
    obtain ⟨hB, eB, XB, OB⟩ := XA.st (a := 158) (j := c) rfl rfl (show c < 400 by omega) (-2)
    have G39 : gO hB (.ref 104) 14 39 = some 157 := gO_of (ltE (by decide)) XB.1 rfl
    have G35 : gO hB (.ref 104) 14 35 = some 153 := gO_of (ltE (by decide)) XB.1 rfl
    have L : ldI .int hB (.ref 157) (jI c) = some (if good c && goal c then 0 else -2) := by
      have := XB.ld (a := 157) (j := c) rfl (show c < 400 by omega)
      rw [upd2_ne (by decide), upd2_eq, upd_eq] at this
      exact this
    have C2 := (C.to XA OA).to XB OB
    have start : ∀ {x : aO}, s_X14_reaches_60 (s_X14_reaches_23 f) 104 (jI c) (if good c && goal c then 0 else -2) (jI c) 157 h = x → s_X14_reaches_23 (f + 1) 104 (jI c) h = x := by
      intro x hx
      show s_X14_reaches_23_b (s_X14_reaches_23 f) 104 (jI c) h = _
      unfold s_X14_reaches_23_b
      rw [g, Option.bind_some, if_neg (fun q => by have := (jI_le (by omega) (by omega)).mp q; omega), g39, Option.bind_some, g27, Option.bind_some, l, Option.bind_some, g28, Option.bind_some, l2, Option.bind_some]
      unfold s_X14_reaches_58
      cases q1 : good c with
      | false =>
        rw [if_pos b01_f]
        rw [q1] at hx
        exact hx
      | true =>
        rw [if_neg (show ¬ b01 true = 0 by decide)]
        cases q2 : goal c with
        | false =>
          rw [if_pos b01_f]
          rw [q1, q2] at hx
          exact hx
        | true =>
          rw [if_neg (show ¬ b01 true = 0 by decide)]
          rw [q1, q2] at hx
          exact hx
    have tk' : ∀ V2 : Nat → Nat → Int32, V2 157 = upd (V 157) c (if good c && goal c then 0 else -2) → ∀ d, d < c + 1 → V2 157 d = if good d && goal d then 0 else -2 := fun V2 e d hd => by
      rw [e]
      by_cases z : d = c
      · rw [z, upd_eq]
      · rw [upd_ne z]; exact h2 d (by omega)
    have lw' : ∀ V2 : Nat → Nat → Int32, V2 158 = upd (V 158) c (-2) → ∀ d, d < c + 1 → V2 158 d = -2 := fun V2 e d hd => by
      rw [e]
      by_cases z : d = c
      · rw [z, upd_eq]
      · rw [upd_ne z]; exact h3 d (by omega)
    cases q : good c && goal c with
    | false =>
      rw [q] at L
      obtain ⟨h', V', ih, i1, i2, i3, i4⟩ := rch23_go (good := good) (goal := goal) n (c + 1) f hB _ (by omega) (by omega) C2 (fun d hd => by rw [upd2_ne (by decide), upd2_ne (by decide)]; exact hg d hd) (fun d hd => by rw [upd2_ne (by decide), upd2_ne (by decide)]; exact hl d hd) (fun d hd => by
        rw [upd2_ne (by decide), upd2_ne (by decide), h1 d hd]
        by_cases z : d = c
        · rw [z, q, Bool.and_false, Bool.and_false]
        · rw [show decide (d < c + 1) = decide (d < c) from decide_eq_decide.mpr (by omega)]) (tk' _ (by rw [upd2_ne (by decide), upd2_eq])) (lw' _ (by rw [upd2_eq, upd2_ne (by decide)]))
      refine ⟨h', V', ?_, i1, (OA.trans OB).trans i2, ((Sm.refl.upd (by decide)).upd (by decide)).trans i3, i4⟩
      apply start
      unfold s_X14_reaches_60
      rw [eA, Option.bind_some, G40, Option.bind_some, eB, Option.bind_some, G39, Option.bind_some, L, Option.bind_some, if_neg (show ¬ (if false = true then (0 : Int32) else -2) = 0 by decide), jI_inc]
      exact ih
    | true =>
      rw [q] at L
      obtain ⟨hD, eD, XD, OD⟩ := puts_at XB (a := 153) (b := 0) (c := c) rfl rfl (by omega) (show 0 + c / 32 < 13 by omega)
      have eD' : s_X14_puts 153 0 (jI c) hB = some (.inl none, hD) := eD
      obtain ⟨h', V', ih, i1, i2, i3, i4⟩ := rch23_go (good := good) (goal := goal) n (c + 1) f hD _ (by omega) (by omega) (C2.to XD OD) (fun d hd => by rw [upd2_ne (by decide), upd2_ne (by decide), upd2_ne (by decide)]; exact hg d hd) (fun d hd => by rw [upd2_ne (by decide), upd2_ne (by decide), upd2_ne (by decide)]; exact hl d hd) (fun d hd => by
        rw [upd2_eq, upd2_ne (by decide), upd2_ne (by decide), bit_orb, h1 d hd]
        by_cases z : d = c
        · rw [z, q, decide_eq_true (show c = c from rfl), decide_eq_true (show c < c + 1 by omega), Bool.or_true, Bool.and_true]
        · rw [show decide (d < c + 1) = decide (d < c) from decide_eq_decide.mpr (by omega), decide_eq_false z, Bool.or_false]) (tk' _ (by rw [upd2_ne (by decide), upd2_ne (by decide), upd2_eq])) (lw' _ (by rw [upd2_ne (by decide), upd2_eq, upd2_ne (by decide)]))
      refine ⟨h', V', ?_, i1, ((OA.trans OB).trans OD).trans i2, (((Sm.refl.upd (by decide)).upd (by decide)).upd (by decide)).trans i3, i4⟩
      apply start
      unfold s_X14_reaches_60
      rw [eA, Option.bind_some, G40, Option.bind_some, eB, Option.bind_some, G39, Option.bind_some, L, Option.bind_some, if_pos (show (if true = true then (0 : Int32) else -2) = 0 by decide), G35, Option.bind_some, eD']
      simp only [cN, jI_inc]
      exact ih
theorem rch105_go {q r : Int32} {k97 : Nat → Int32 → Int32 → aH → aO} : ∀ (n k f : Nat) (h : aH) (V : Nat → Nat → Int32), k + n = 13 → n < f → RC h S wd t fv nv V Z A m F B W G → (∀ j, j < k → V 154 j = V 153 j) →
    ∃ h' V', s_X14_reaches_105 k97 f 104 q r (jI k) h = s_X14_reaches_131 k97 FU 104 q r 0 h' ∧ RC h' S wd t fv nv V' Z A m F B W G ∧ Ou h h' ∧ Sm [154] V V' ∧ ∀ j, j < 13 → V' 154 j = V 153 j
  | _, _, 0, _, _, _, hf, _, _ => by omega
  | 0, k, f + 1, h, V, hk, hf, C, hz => by
    refine ⟨h, V, ?_, C, Ou.refl, Sm.refl, fun j h1 => hz j (by omega)⟩
    show s_X14_reaches_105_b k97 (s_X14_reaches_105 k97 f) 104 q r (jI k) h = _
    unfold s_X14_reaches_105_b
    rw [show (13 : Int32) = jI 13 from rfl, if_pos ((jI_le (by omega) (by omega)).mpr (by omega))]
  | n + 1, k, f + 1, h, V, hk, hf, C, hz => by
    have X := C.1
    have g36 : gO h (.ref 104) 14 36 = some 154 := gO_of (ltE (by decide)) X.1 rfl
    have g35 : gO h (.ref 104) 14 35 = some 153 := gO_of (ltE (by decide)) X.1 rfl
    have l : ldI .int h (.ref 153) (jI k) = some (V 153 k) := X.ld (a := 153) rfl (show k < 13 by omega)
    obtain ⟨h1, e1, X1, O1⟩ := X.st (a := 154) (j := k) rfl rfl (show k < 13 by omega) (V 153 k)
    obtain ⟨h', V', ih, i1, i2, i3, i4⟩ := rch105_go n (k + 1) f h1 _ (by omega) (by omega) (C.to X1 O1) (fun j hj => by
      rw [upd2_eq, upd2_ne (by decide)]
      by_cases z : j = k
      · rw [z, upd_eq]
      · rw [upd_ne z]; exact hz j (by omega))
    refine ⟨h', V', ?_, i1, O1.trans i2, (Sm.refl.upd (by decide)).trans i3, fun j hj => by rw [i4 j hj, upd2_ne (by decide)]⟩
    show s_X14_reaches_105_b k97 (s_X14_reaches_105 k97 f) 104 q r (jI k) h = _
    unfold s_X14_reaches_105_b
    rw [show (13 : Int32) = jI 13 from rfl, if_neg (fun q => by have := (jI_le (by omega) (by omega)).mp q; omega), g36, Option.bind_some, g35, Option.bind_some, l, Option.bind_some, e1, Option.bind_some, jI_inc]
    exact ih
theorem rch253_go {q : Int32} {r : Nat} {k97 : Nat → Int32 → Int32 → aH → aO} : ∀ (n k f : Nat) (h : aH) (V : Nat → Nat → Int32), k + n = 13 → n < f → RC h S wd t fv nv V Z A m F B W G → (∀ j, j < k → V 153 j = V 154 j) →
    ∃ h' V', s_X14_reaches_253 k97 f 104 q (jI r) (jI k) h = k97 104 q (jI (r + 1)) h' ∧ RC h' S wd t fv nv V' Z A m F B W G ∧ Ou h h' ∧ Sm [153] V V' ∧ ∀ j, j < 13 → V' 153 j = V 154 j
  | _, _, 0, _, _, _, hf, _, _ => by omega
  | 0, k, f + 1, h, V, hk, hf, C, hz => by
    refine ⟨h, V, ?_, C, Ou.refl, Sm.refl, fun j h1 => hz j (by omega)⟩
    show s_X14_reaches_253_b k97 (s_X14_reaches_253 k97 f) 104 q (jI r) (jI k) h = _
    unfold s_X14_reaches_253_b
    rw [show (13 : Int32) = jI 13 from rfl, if_pos ((jI_le (by omega) (by omega)).mpr (by omega)), jI_inc]
  | n + 1, k, f + 1, h, V, hk, hf, C, hz => by
    have X := C.1
    have g36 : gO h (.ref 104) 14 36 = some 154 := gO_of (ltE (by decide)) X.1 rfl
    have g35 : gO h (.ref 104) 14 35 = some 153 := gO_of (ltE (by decide)) X.1 rfl
    have l : ldI .int h (.ref 154) (jI k) = some (V 154 k) := X.ld (a := 154) rfl (show k < 13 by omega)
    obtain ⟨h1, e1, X1, O1⟩ := X.st (a := 153) (j := k) rfl rfl (show k < 13 by omega) (V 154 k)
    obtain ⟨h', V', ih, i1, i2, i3, i4⟩ := rch253_go n (k + 1) f h1 _ (by omega) (by omega) (C.to X1 O1) (fun j hj => by
      rw [upd2_eq, upd2_ne (by decide)]
      by_cases z : j = k
      · rw [z, upd_eq]
      · rw [upd_ne z]; exact hz j (by omega))
    refine ⟨h', V', ?_, i1, O1.trans i2, (Sm.refl.upd (by decide)).trans i3, fun j hj => by rw [i4 j hj, upd2_ne (by decide)]⟩
    show s_X14_reaches_253_b k97 (s_X14_reaches_253 k97 f) 104 q (jI r) (jI k) h = _
    unfold s_X14_reaches_253_b
    rw [show (13 : Int32) = jI 13 from rfl, if_neg (fun q => by have := (jI_le (by omega) (by omega)).mp q; omega), g35, Option.bind_some, g36, Option.bind_some, l, Option.bind_some, e1, Option.bind_some, jI_inc]
    exact ih
theorem rch165_end {k97 : Nat → Int32 → Int32 → aH → aO} {k131 : Nat → Int32 → Int32 → Int32 → aH → aO} {l1 l2 : Int32} {c p : Nat} {h : aH} {V : Nat → Nat → Int32} (C : RC h S wd t fv nv V Z A m F B W G) (hc : c < F 12) (hx : V 158 c ≠ -2) :
    ∀ {f : Nat}, 0 < f → s_X14_reaches_165 k97 k131 f 104 l1 l2 (jI c) (jI p) h = s_X14_reaches_213 k97 k131 104 l1 l2 (jI c) h
  | 0, hf => by omega
  | f + 1, _ => by
    obtain ⟨X, -, -, sim, K, hC, s20, s21, s22, s23⟩ := id C
    have h400 := hC.2.2.2.2.1
    have g : gI h (.ref 104) 14 21 = some (jI (F 13)) := s21 ▸ gI_of (ltE (by decide)) X.1 rfl
    have g40 : gO h (.ref 104) 14 40 = some 158 := gO_of (ltE (by decide)) X.1 rfl
    have l : ldI .int h (.ref 158) (jI c) = some (V 158 c) := X.ld (a := 158) rfl (show c < 400 by omega)
    show s_X14_reaches_165_b k97 k131 (s_X14_reaches_165 k97 k131 f) 104 l1 l2 (jI c) (jI p) h = _
    unfold s_X14_reaches_165_b
    rw [g, Option.bind_some, g40, Option.bind_some, l, Option.bind_some, if_neg hx, ite_self]
theorem rch165_go {k97 : Nat → Int32 → Int32 → aH → aO} {k131 : Nat → Int32 → Int32 → Int32 → aH → aO} {l1 l2 : Int32} {c : Nat} {ld : Nat → Nat → Nat → Int32} {nw : Nat} {T : Nat → Bool} (hl : ∀ c p x, isLd (ld c p x) (F 12)) (hc : c < F 12) :
    ∀ (n p f : Nat) (h : aH) (V : Nat → Nat → Int32), p + n = F 13 → n + 1 < f → RC h S wd t fv nv V Z A m F B W G → okMb V (F 12) (F 13) nw ld → (∀ d, d < F 12 → T d = bit (V 153) 0 d) → V 158 c = -2 →
      ∃ h' V', s_X14_reaches_165 k97 k131 f 104 l1 l2 (jI c) (jI p) h = s_X14_reaches_213 k97 k131 104 l1 l2 (jI c) h' ∧ RC h' S wd t fv nv V' Z A m F B W G ∧ Ou h h' ∧ Sm [158] V V' ∧ V' 158 c = fpF ld nw T c p n ∧ ∀ i, i ≠ c → V' 158 i = V 158 i
  | _, _, 0, _, _, _, hf, _, _, _, _ => by omega
  | 0, p, f + 1, h, V, hk, hf, C, M, hT, hx => by
    refine ⟨h, V, ?_, C, Ou.refl, Sm.refl, hx, fun _ _ => rfl⟩
    obtain ⟨X, -, -, sim, K, hC, s20, s21, s22, s23⟩ := id C
    have h9 := hC.2.2.2.2.2.1
    have g : gI h (.ref 104) 14 21 = some (jI (F 13)) := s21 ▸ gI_of (ltE (by decide)) X.1 rfl
    show s_X14_reaches_165_b k97 k131 (s_X14_reaches_165 k97 k131 f) 104 l1 l2 (jI c) (jI p) h = _
    unfold s_X14_reaches_165_b
    rw [g, Option.bind_some, if_pos ((jI_le (by omega) (by omega)).mpr (by omega))]
  | n + 1, p, f + 1, h, V, hk, hf, C, M, hT, hx => by
    obtain ⟨X, -, -, sim, K, hC, s20, s21, s22, s23⟩ := id C
    have h400 := hC.2.2.2.2.1
    have h9 := hC.2.2.2.2.2.1
    have g : gI h (.ref 104) 14 21 = some (jI (F 13)) := s21 ▸ gI_of (ltE (by decide)) X.1 rfl
    have g40 : gO h (.ref 104) 14 40 = some 158 := gO_of (ltE (by decide)) X.1 rfl
    have g35 : gO h (.ref 104) 14 35 = some 153 := gO_of (ltE (by decide)) X.1 rfl
    have l : ldI .int h (.ref 158) (jI c) = some (-2) := hx ▸ X.ld (a := 158) rfl (show c < 400 by omega)
    have e := leadsInto_at X (a := 153) (c := c) (p := p) rfl rfl rfl (by omega) (by omega)
    rw [M.into h400 hl hc (by omega) hT] at e
    have eq : fpF ld nw T c p (n + 1) = if intoB (ld c p) nw T then jI p else fpF ld nw T c (p + 1) n := rfl
    cases q : intoB (ld c p) nw T with
    | false =>
      rw [q] at e eq
      obtain ⟨h', V', ih, i1, i2, i3, i4, i5⟩ := rch165_go (k97 := k97) (k131 := k131) (l1 := l1) (l2 := l2) hl hc n (p + 1) f h V (by omega) (by omega) C M hT hx
      refine ⟨h', V', ?_, i1, i2, i3, by rw [i4, eq]; rfl, i5⟩
      show s_X14_reaches_165_b k97 k131 (s_X14_reaches_165 k97 k131 f) 104 l1 l2 (jI c) (jI p) h = _
      unfold s_X14_reaches_165_b
      rw [g, Option.bind_some, if_neg (fun q => by have := (jI_le (by omega) (by omega)).mp q; omega), g40, Option.bind_some, l, Option.bind_some, if_pos rfl, g35, Option.bind_some, C.kO, e]
      simp only [cI, jI_inc]
      rw [if_pos b01_f]
      exact ih
    | true =>
      rw [q] at e eq
      obtain ⟨hA, eA, XA, OA⟩ := X.st (a := 158) (j := c) rfl rfl (show c < 400 by omega) (jI p)
      have CA := C.to XA OA
      refine ⟨hA, _, ?_, CA, OA, Sm.refl.upd (by decide), by rw [upd2_eq, upd_eq, eq]; rfl, fun i hi => by rw [upd2_eq, upd_ne hi]⟩
      show s_X14_reaches_165_b k97 k131 (s_X14_reaches_165 k97 k131 f) 104 l1 l2 (jI c) (jI p) h = _
      unfold s_X14_reaches_165_b
      rw [g, Option.bind_some, if_neg (fun q => by have := (jI_le (by omega) (by omega)).mp q; omega), g40, Option.bind_some, l, Option.bind_some, if_pos rfl, g35, Option.bind_some, C.kO, e]
      simp only [cI, jI_inc]
      rw [if_neg (show ¬ b01 true = 0 by decide), g40, Option.bind_some, eA, Option.bind_some]
      exact rch165_end CA hc (by rw [upd2_eq, upd_eq]; exact jI_m2 (by omega)) (by omega)
end
