/-! the reference's keeps -/
theorem okMb.sm {V V' : Nat → Nat → Int32} {C P n : Nat} {ld : Nat → Nat → Nat → Int32} (M : okMb V C P n ld) (h1 : V' 161 = V 161) (h2 : V' 152 = V 152) : okMb V' C P n ld := fun c p hc hp => by
  rw [h1, h2]
  exact M c p hc hp
def gdR (V : Nat → Nat → Int32) (C : Nat) (good : Nat → Bool) : Prop := ∀ c, c < C → V 146 c = b01 (good c)
theorem bit_zero {R : Nat → Int32} {d : Nat} (h : ∀ k, k < 13 → R k = 0) (hd : d < 416) : bit R 0 d = false := by
  unfold bit
  rw [Nat.zero_add, h _ (by omega)]
  simp
theorem b01_t : b01 true = 1 := rfl
theorem b01_f : b01 false = 0 := rfl
theorem b01_0 {b : Bool} : b01 b = 0 ↔ b = false := by cases b <;> decide
section
variable {S : Nat → Int32} {wd : Int64} {t : Nat} {fv nv : Value} {Z : Nat → Nat → Int64} {A : Nat → Nat → Int32} {m F : Nat → Nat} {B : Nat → Nat → Int32} {W : Nat → Int64} {G : Nat → Nat}
theorem keeps223_go {w : Nat} (hw : w ≤ 2) : ∀ (n k f : Nat) (h : aH) (V : Nat → Nat → Int32), k + n = 13 → n < f → RC h S wd t fv nv V Z A m F B W G →
    ∃ h' V', s_X14_keeps_223 f 104 (jI w) (jI k) h = some (.inl none, h') ∧ RC h' S wd t fv nv V' Z A m F B W G ∧ Ou h h' ∧ Sm [156] V V' ∧ (∀ j, k ≤ j → j < 13 → V' 156 (13 * w + j) = V 153 j) ∧ ∀ i, (∀ j, k ≤ j → j < 13 → i ≠ 13 * w + j) → V' 156 i = V 156 i
  | _, _, 0, _, _, _, hf, _ => by omega
  | 0, k, f + 1, h, V, hk, hf, C => by
    refine ⟨h, V, ?_, C, Ou.refl, Sm.refl, fun j h1 h2 => by omega, fun _ _ => rfl⟩
    show s_X14_keeps_223_b (s_X14_keeps_223 f) 104 (jI w) (jI k) h = _
    unfold s_X14_keeps_223_b
    rw [show (13 : Int32) = jI 13 from rfl, if_pos ((jI_le (by omega) (by omega)).mpr (by omega))]
  | n + 1, k, f + 1, h, V, hk, hf, C => by
    have X := C.1
    have g38 : gO h (.ref 104) 14 38 = some 156 := gO_of (ltE (by decide)) X.1 rfl
    have g35 : gO h (.ref 104) 14 35 = some 153 := gO_of (ltE (by decide)) X.1 rfl
    have l : ldI .int h (.ref 153) (jI k) = some (V 153 k) := X.ld (a := 153) rfl (show k < 13 by omega)
    obtain ⟨h1, e1, X1, O1⟩ := X.st (a := 156) (j := 13 * w + k) rfl rfl (show 13 * w + k < 39 by omega) (V 153 k)
    obtain ⟨h', V', ih, i1, i2, i3, i4, i5⟩ := keeps223_go hw n (k + 1) f h1 _ (by omega) (by omega) (C.to X1 O1)
    refine ⟨h', V', ?_, i1, O1.trans i2, (Sm.refl.upd (by decide)).trans i3, ?_, ?_⟩
    · show s_X14_keeps_223_b (s_X14_keeps_223 f) 104 (jI w) (jI k) h = _
      unfold s_X14_keeps_223_b
      rw [show (13 : Int32) = jI 13 from rfl, if_neg (fun q => by have := (jI_le (by omega) (by omega)).mp q; omega), g38, Option.bind_some, g35, Option.bind_some, l, Option.bind_some, jI_mul, jI_add, e1, Option.bind_some, jI_inc]
      exact ih
    · intro j j1 j2
      by_cases q : j = k
      · subst q
        rw [i5 _ (fun i i1 i2 => by omega), upd2_eq, upd_eq]
      · rw [i4 j (by omega) j2, upd2_ne (by decide)]
    · intro i hi
      rw [i5 i (fun j j1 j2 => hi j (by omega) j2), upd2_eq, upd_ne (hi k (Nat.le_refl _) (by omega))]
theorem keeps188_go {w r : Nat} {q : Int32} {k85 : Nat → Int32 → Int32 → Int32 → aH → aO} : ∀ (n k f : Nat) (h : aH) (V : Nat → Nat → Int32), k + n = 13 → n < f → RC h S wd t fv nv V Z A m F B W G → (∀ j, j < k → V 153 j = V 154 j) →
    ∃ h' V', s_X14_keeps_188 k85 f 104 (jI w) q (jI r) (jI k) h = k85 104 (jI w) q (jI (r + 1)) h' ∧ RC h' S wd t fv nv V' Z A m F B W G ∧ Ou h h' ∧ Sm [153] V V' ∧ ∀ j, j < 13 → V' 153 j = V 154 j
  | _, _, 0, _, _, _, hf, _, _ => by omega
  | 0, k, f + 1, h, V, hk, hf, C, hz => by
    refine ⟨h, V, ?_, C, Ou.refl, Sm.refl, fun j h1 => hz j (by omega)⟩
    show s_X14_keeps_188_b k85 (s_X14_keeps_188 k85 f) 104 (jI w) q (jI r) (jI k) h = _
    unfold s_X14_keeps_188_b
    rw [show (13 : Int32) = jI 13 from rfl, if_pos ((jI_le (by omega) (by omega)).mpr (by omega)), jI_inc]
  | n + 1, k, f + 1, h, V, hk, hf, C, hz => by
    have X := C.1
    have g36 : gO h (.ref 104) 14 36 = some 154 := gO_of (ltE (by decide)) X.1 rfl
    have g35 : gO h (.ref 104) 14 35 = some 153 := gO_of (ltE (by decide)) X.1 rfl
    have l : ldI .int h (.ref 154) (jI k) = some (V 154 k) := X.ld (a := 154) rfl (show k < 13 by omega)
    obtain ⟨h1, e1, X1, O1⟩ := X.st (a := 153) (j := k) rfl rfl (show k < 13 by omega) (V 154 k)
    obtain ⟨h', V', ih, i1, i2, i3, i4⟩ := keeps188_go n (k + 1) f h1 _ (by omega) (by omega) (C.to X1 O1) (fun j hj => by
      rw [upd2_eq, upd2_ne (by decide)]
      by_cases z : j = k
      · rw [z, upd_eq]
      · rw [upd_ne z]; exact hz j (by omega))
    refine ⟨h', V', ?_, i1, O1.trans i2, (Sm.refl.upd (by decide)).trans i3, ?_⟩
    · show s_X14_keeps_188_b k85 (s_X14_keeps_188 k85 f) 104 (jI w) q (jI r) (jI k) h = _
      unfold s_X14_keeps_188_b
      rw [show (13 : Int32) = jI 13 from rfl, if_neg (fun q => by have := (jI_le (by omega) (by omega)).mp q; omega), g35, Option.bind_some, g36, Option.bind_some, l, Option.bind_some, e1, Option.bind_some, jI_inc]
      exact ih
    · intro j hj
      rw [i4 j hj, upd2_ne (by decide)]
theorem keeps94_go {w r : Nat} {q : Int32} {k85 : Nat → Int32 → Int32 → Int32 → aH → aO} : ∀ (n k f : Nat) (h : aH) (V : Nat → Nat → Int32), k + n = 13 → n < f → RC h S wd t fv nv V Z A m F B W G → (∀ j, j < k → V 154 j = 0) →
    ∃ h' V', s_X14_keeps_94 k85 f 104 (jI w) q (jI r) (jI k) h = s_X14_keeps_118 k85 FU 104 (jI w) q (jI r) 0 h' ∧ RC h' S wd t fv nv V' Z A m F B W G ∧ Ou h h' ∧ Sm [154] V V' ∧ ∀ j, j < 13 → V' 154 j = 0
  | _, _, 0, _, _, _, hf, _, _ => by omega
  | 0, k, f + 1, h, V, hk, hf, C, hz => by
    refine ⟨h, V, ?_, C, Ou.refl, Sm.refl, fun j h1 => hz j (by omega)⟩
    show s_X14_keeps_94_b k85 (s_X14_keeps_94 k85 f) 104 (jI w) q (jI r) (jI k) h = _
    unfold s_X14_keeps_94_b
    rw [show (13 : Int32) = jI 13 from rfl, if_pos ((jI_le (by omega) (by omega)).mpr (by omega))]
  | n + 1, k, f + 1, h, V, hk, hf, C, hz => by
    have X := C.1
    have g36 : gO h (.ref 104) 14 36 = some 154 := gO_of (ltE (by decide)) X.1 rfl
    obtain ⟨h1, e1, X1, O1⟩ := X.st (a := 154) (j := k) rfl rfl (show k < 13 by omega) 0
    obtain ⟨h', V', ih, i1, i2, i3, i4⟩ := keeps94_go n (k + 1) f h1 _ (by omega) (by omega) (C.to X1 O1) (fun j hj => by
      rw [upd2_eq]
      by_cases z : j = k
      · rw [z, upd_eq]
      · rw [upd_ne z]; exact hz j (by omega))
    refine ⟨h', V', ?_, i1, O1.trans i2, (Sm.refl.upd (by decide)).trans i3, i4⟩
    show s_X14_keeps_94_b k85 (s_X14_keeps_94 k85 f) 104 (jI w) q (jI r) (jI k) h = _
    unfold s_X14_keeps_94_b
    rw [show (13 : Int32) = jI 13 from rfl, if_neg (fun q => by have := (jI_le (by omega) (by omega)).mp q; omega), g36, Option.bind_some, e1, Option.bind_some, jI_inc]
    exact ih
theorem keeps7_go {w : Nat} : ∀ (n k f : Nat) (h : aH) (V : Nat → Nat → Int32), k + n = 13 → n < f → RC h S wd t fv nv V Z A m F B W G → (∀ j, j < k → V 153 j = 0) →
    ∃ h' V', s_X14_keeps_7 f 104 (jI w) (jI k) h = s_X14_keeps_28 FU 104 (jI w) 0 h' ∧ RC h' S wd t fv nv V' Z A m F B W G ∧ Ou h h' ∧ Sm [153] V V' ∧ ∀ j, j < 13 → V' 153 j = 0
  | _, _, 0, _, _, _, hf, _, _ => by omega
  | 0, k, f + 1, h, V, hk, hf, C, hz => by
    refine ⟨h, V, ?_, C, Ou.refl, Sm.refl, fun j h1 => hz j (by omega)⟩
    show s_X14_keeps_7_b (s_X14_keeps_7 f) 104 (jI w) (jI k) h = _
    unfold s_X14_keeps_7_b
    rw [show (13 : Int32) = jI 13 from rfl, if_pos ((jI_le (by omega) (by omega)).mpr (by omega))]
  | n + 1, k, f + 1, h, V, hk, hf, C, hz => by
    have X := C.1
    have g35 : gO h (.ref 104) 14 35 = some 153 := gO_of (ltE (by decide)) X.1 rfl
    obtain ⟨h1, e1, X1, O1⟩ := X.st (a := 153) (j := k) rfl rfl (show k < 13 by omega) 0
    obtain ⟨h', V', ih, i1, i2, i3, i4⟩ := keeps7_go n (k + 1) f h1 _ (by omega) (by omega) (C.to X1 O1) (fun j hj => by
      rw [upd2_eq]
      by_cases z : j = k
      · rw [z, upd_eq]
      · rw [upd_ne z]; exact hz j (by omega))
    refine ⟨h', V', ?_, i1, O1.trans i2, (Sm.refl.upd (by decide)).trans i3, i4⟩
    show s_X14_keeps_7_b (s_X14_keeps_7 f) 104 (jI w) (jI k) h = _
    unfold s_X14_keeps_7_b
    rw [show (13 : Int32) = jI 13 from rfl, if_neg (fun q => by have := (jI_le (by omega) (by omega)).mp q; omega), g35, Option.bind_some, e1, Option.bind_some, jI_inc]
    exact ih
theorem keeps28_go {w : Nat} {good : Nat → Bool} : ∀ (n c f : Nat) (h : aH) (V : Nat → Nat → Int32), c + n = F 12 → n < f → RC h S wd t fv nv V Z A m F B W G → gdR V (F 12) good → (∀ d, d < 416 → bit (V 153) 0 d = (decide (d < c) && good d)) → (∀ d, d < c → V 155 d = if good d then 0 else -2) →
    ∃ h' V', s_X14_keeps_28 f 104 (jI w) (jI c) h = s_X14_keeps_85 FU 104 (jI w) 1 1 h' ∧ RC h' S wd t fv nv V' Z A m F B W G ∧ Ou h h' ∧ Sm [153, 155] V V' ∧ (∀ d, d < 416 → bit (V' 153) 0 d = (decide (d < F 12) && good d)) ∧ ∀ d, d < F 12 → V' 155 d = if good d then 0 else -2
  | _, _, 0, _, _, _, hf, _, _, _, _ => by omega
  | 0, c, f + 1, h, V, hk, hf, C, hg, h1, h2 => by
    have hc : c = F 12 := by omega
    subst hc
    refine ⟨h, V, ?_, C, Ou.refl, Sm.refl, h1, h2⟩
    obtain ⟨X, -, -, sim, K, hC, s20, s21, s22, s23⟩ := id C
    have h400 := hC.2.2.2.2.1
    have g : gI h (.ref 104) 14 20 = some (jI (F 12)) := s20 ▸ gI_of (ltE (by decide)) X.1 rfl
    show s_X14_keeps_28_b (s_X14_keeps_28 f) 104 (jI w) (jI (F 12)) h = _
    unfold s_X14_keeps_28_b
    rw [g, Option.bind_some, if_pos ((jI_le (by omega) (by omega)).mpr (by omega))]
  | n + 1, c, f + 1, h, V, hk, hf, C, hg, h1, h2 => by
    obtain ⟨X, -, -, sim, K, hC, s20, s21, s22, s23⟩ := id C
    have h400 := hC.2.2.2.2.1
    have g : gI h (.ref 104) 14 20 = some (jI (F 12)) := s20 ▸ gI_of (ltE (by decide)) X.1 rfl
    have g37 : gO h (.ref 104) 14 37 = some 155 := gO_of (ltE (by decide)) X.1 rfl
    have g27 : gO h (.ref 104) 14 27 = some 146 := gO_of (ltE (by decide)) X.1 rfl
    have l : ldI .boolean h (.ref 146) (jI c) = some (b01 (good c)) := (hg c (by omega)) ▸ X.ld (a := 146) rfl (show c < 400 by omega)
    obtain ⟨hA, eA, XA, OA⟩ := X.st (a := 155) (j := c) rfl rfl (show c < 400 by omega) (if good c then 0 else -2)
    have G27 : gO hA (.ref 104) 14 27 = some 146 := gO_of (ltE (by decide)) XA.1 rfl
    have G35 : gO hA (.ref 104) 14 35 = some 153 := gO_of (ltE (by decide)) XA.1 rfl
    have L : ldI .boolean hA (.ref 146) (jI c) = some (b01 (good c)) := by
      have := XA.ld (a := 146) (j := c) rfl (show c < 400 by omega)
      rw [upd2_ne (by decide), hg c (by omega)] at this
      exact this
    have lay' : ∀ V2 : Nat → Nat → Int32, V2 155 = upd (V 155) c (if good c then 0 else -2) → ∀ d, d < c + 1 → V2 155 d = if good d then 0 else -2 := fun V2 e d hd => by
      rw [e]
      by_cases z : d = c
      · rw [z, upd_eq]
      · rw [upd_ne z]; exact h2 d (by omega)
    cases q : good c with
    | false =>
      rw [q] at eA XA l L lay'
      obtain ⟨h', V', ih, i1, i2, i3, i4⟩ := keeps28_go (w := w) (good := good) n (c + 1) f hA _ (by omega) (by omega) (C.to XA OA) (fun d hd => by rw [upd2_ne (by decide)]; exact hg d hd) (fun d hd => by
        rw [upd2_ne (by decide), h1 d hd]
        by_cases z : d = c
        · rw [z, q, Bool.and_false, Bool.and_false]
        · rw [show decide (d < c + 1) = decide (d < c) from decide_eq_decide.mpr (by omega)]) (lay' _ upd2_eq)
      refine ⟨h', V', ?_, i1, OA.trans i2, (Sm.refl.upd (by decide)).trans i3, i4⟩
      show s_X14_keeps_28_b (s_X14_keeps_28 f) 104 (jI w) (jI c) h = _
      unfold s_X14_keeps_28_b
      rw [g, Option.bind_some, if_neg (fun q => by have := (jI_le (by omega) (by omega)).mp q; omega), g37, Option.bind_some, g27, Option.bind_some, l, Option.bind_some, if_pos b01_f]
      unfold s_X14_keeps_56
      have eA' : stI h (.ref 155) (jI c) (-2) = some hA := eA
      rw [eA', Option.bind_some, G27, Option.bind_some, L, Option.bind_some, if_pos b01_f, jI_inc]
      exact ih
    | true =>
      rw [q] at eA XA l L lay'
      obtain ⟨hB, eB, XB, OB⟩ := puts_at XA (a := 153) (b := 0) (c := c) rfl rfl (by omega) (show 0 + c / 32 < 13 by omega)
      obtain ⟨h', V', ih, i1, i2, i3, i4⟩ := keeps28_go (w := w) (good := good) n (c + 1) f hB _ (by omega) (by omega) ((C.to XA OA).to XB OB) (fun d hd => by rw [upd2_ne (by decide), upd2_ne (by decide)]; exact hg d hd) (fun d hd => by
        rw [upd2_eq, upd2_ne (by decide), bit_orb, h1 d hd]
        by_cases z : d = c
        · rw [z, q, decide_eq_true (show c = c from rfl), decide_eq_true (show c < c + 1 by omega), Bool.or_true, Bool.and_true]
        · rw [show decide (d < c + 1) = decide (d < c) from decide_eq_decide.mpr (by omega), decide_eq_false z, Bool.or_false]) (lay' _ (by rw [upd2_ne (by decide), upd2_eq]))
      refine ⟨h', V', ?_, i1, (OA.trans OB).trans i2, ((Sm.refl.upd (by decide)).upd (by decide)).trans i3, i4⟩
      show s_X14_keeps_28_b (s_X14_keeps_28 f) 104 (jI w) (jI c) h = _
      unfold s_X14_keeps_28_b
      have nz1 : ¬ b01 true = 0 := by decide
      rw [g, Option.bind_some, if_neg (fun q => by have := (jI_le (by omega) (by omega)).mp q; omega), g37, Option.bind_some, g27, Option.bind_some, l, Option.bind_some, if_neg nz1]
      unfold s_X14_keeps_56
      have eA' : stI h (.ref 155) (jI c) 0 = some hA := eA
      have eB' : s_X14_puts 153 0 (jI c) hA = some (.inl none, hB) := eB
      rw [eA', Option.bind_some, G27, Option.bind_some, L, Option.bind_some, if_neg nz1, G35, Option.bind_some, eB']
      simp only [cN, jI_inc]
      exact ih
end
