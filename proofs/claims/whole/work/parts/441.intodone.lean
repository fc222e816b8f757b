/-! the class's pushIntoDone -/
def okWd (V : Nat → Nat → Int32) (wd row j : Nat) : Prop := (V 59 (row * wd + j) &&& ~~~ (V 67 j)) = 0
/-- what was once looked at need not be again -/
def watI (V : Nat → Nat → Int32) (F : Nat → Nat) : Prop := ∀ c p, c < F 12 → p < F 13 → ∃ w, w ≤ F 12 / 32 + 1 ∧ V 68 (c * F 13 + p) = jI w ∧ ∀ j, j < w → okWd V (F 12 / 32 + 1) (c * F 13 + p) j
theorem okWd_all {V : Nat → Nat → Int32} {A : Nat → Nat → Int32} {m F : Nat → Nat} (K : okW A m F) (hC : okC A m F) (M : okMv V A m F) {T : Nat → Bool} (hT : ∀ d, d < 416 → bit (V 67) 0 d = T d) (hTC : T (F 12) = false) {c p : Nat} (hc : c < F 12) (hp : p < F 13) :
    (∀ j, j < F 12 / 32 + 1 → okWd V (F 12 / 32 + 1) (c * F 13 + p) j) ↔ intoB (ldV A m F c p) (F 14) T = true := by
  have h400 := hC.2.2.2.2.1
  have hl := ldV_is K hC
  rw [intoB_iff (hl c p) (by omega) hTC]
  constructor
  · intro H x hx
    have hm := (hl c p x).mark (by omega)
    have hb := (M.2 c p hc hp (markC (ldV A m F c p x) (F 12)) (by omega)).mpr ⟨x, hx, rfl⟩
    have := (and_zero _ _).mp (H (markC (ldV A m F c p x) (F 12) / 32) (by omega)) (markC (ldV A m F c p x) (F 12) % 32) (Nat.mod_lt _ (by decide))
    rw [not_bit _ (Nat.mod_lt _ (by decide))] at this
    unfold bit at hb
    rw [hb] at this
    rw [← hT _ (by omega)]
    unfold bit
    rw [Nat.zero_add]
    simpa using this
  · intro H j hj
    unfold okWd
    rw [and_zero]
    intro i hi
    rw [not_bit _ hi]
    cases z : (V 59 ((c * F 13 + p) * (F 12 / 32 + 1) + j)).toBitVec.getLsbD i with
    | false => rfl
    | true =>
      have hb : bit (V 59) ((c * F 13 + p) * (F 12 / 32 + 1)) (32 * j + i) = true := by
        unfold bit
        rw [show (32 * j + i) / 32 = j by omega, show (32 * j + i) % 32 = i by omega]
        exact z
      obtain ⟨x, hx, ex⟩ := (M.2 c p hc hp (32 * j + i) (by omega)).mp hb
      have h2 := H x hx
      rw [← ex, ← hT _ (by omega)] at h2
      unfold bit at h2
      rw [show (32 * j + i) / 32 = j by omega, show (32 * j + i) % 32 = i by omega, Nat.zero_add] at h2
      rw [h2]
      rfl
section
variable {S : Nat → Nat → Int32} {Z : Nat → Nat → Int64} {D Ln : Nat → Nat} {b : Nat} {A : Nat → Nat → Int32} {N : Nat → Int64} {m F : Nat → Nat}
theorem pid33_go {h : aH} {V : Nat → Nat → Int32} (C : CC h S V Z D Ln b A N m F) (L : lenMv Ln F) {k2 : Nat → Int32 → Int32 → aH → aO} {c p : Nat} (hc : c < F 12) (hp : p < F 13) :
    ∀ (n w f : Nat), w + n = F 12 / 32 + 1 → n < f → (∀ j, j < w → okWd V (F 12 / 32 + 1) (c * F 13 + p) j) →
      ∃ w', s_X10_pushIntoDone_33 k2 f 60 (jI c) (jI p) (jI (c * F 13 + p)) (jI w) h = s_X10_pushIntoDone_84 k2 60 (jI c) (jI p) (jI (c * F 13 + p)) (jI w') h ∧ w' ≤ F 12 / 32 + 1 ∧ (∀ j, j < w' → okWd V (F 12 / 32 + 1) (c * F 13 + p) j) ∧ (w' = F 12 / 32 + 1 ∨ (w' < F 12 / 32 + 1 ∧ ¬ okWd V (F 12 / 32 + 1) (c * F 13 + p) w'))
  | _, _, 0, _, hf, _ => by omega
  | 0, w, f + 1, hk, hf, hz => by
    obtain ⟨X, HM, K, hC, hw⟩ := id C
    have h400 := hC.2.2.2.2.1
    refine ⟨w, ?_, by omega, hz, Or.inl (by omega)⟩
    have g1 : gO h (.ref 60) 10 1 = some 56 := gO_of (ltE (by decide)) (X.1 60 rfl) rfl
    have gw : gI h (.ref 56) 3 3 = some (jI (F 12 / 32 + 1)) := hw ▸ gI_of (ltE (by decide)) (X.1 56 rfl) rfl
    show s_X10_pushIntoDone_33_b k2 (s_X10_pushIntoDone_33 k2 f) 60 (jI c) (jI p) (jI (c * F 13 + p)) (jI w) h = _
    unfold s_X10_pushIntoDone_33_b
    rw [g1, Option.bind_some, gw, Option.bind_some, if_pos ((jI_le (by omega) (by omega)).mpr (by omega))]
  | n + 1, w, f + 1, hk, hf, hz => by
    obtain ⟨X, HM, K, hC, hw⟩ := id C
    have h400 := hC.2.2.2.2.1
    have g1 : gO h (.ref 60) 10 1 = some 56 := gO_of (ltE (by decide)) (X.1 60 rfl) rfl
    have g10 : gO h (.ref 60) 10 10 = some 67 := gO_of (ltE (by decide)) (X.1 60 rfl) rfl
    have gw : gI h (.ref 56) 3 3 = some (jI (F 12 / 32 + 1)) := hw ▸ gI_of (ltE (by decide)) (X.1 56 rfl) rfl
    have g5 : gO h (.ref 56) 3 5 = some (D 59) := gO_of (ltE (by decide)) (X.1 56 rfl) rfl
    have hrow : (c * F 13 + p) * (F 12 / 32 + 1) + w < Ln 59 := by
      have h1 : (c + 1) * F 13 ≤ F 12 * F 13 := Nat.mul_le_mul_right _ (by omega)
      rw [Nat.add_mul] at h1
      have h2 : (c * F 13 + p + 1) * (F 12 / 32 + 1) ≤ F 12 * F 13 * (F 12 / 32 + 1) := Nat.mul_le_mul_right _ (by omega)
      rw [Nat.add_mul] at h2
      have := L.2
      omega
    have l1 : ldI .int h (.ref (D 59)) (jI ((c * F 13 + p) * (F 12 / 32 + 1) + w)) = some (V 59 ((c * F 13 + p) * (F 12 / 32 + 1) + w)) := X.ldD rfl hrow
    have l2 : ldI .int h (.ref 67) (jI w) = some (V 67 w) := X.ld (a := 67) rfl (show w < 13 by omega)
    have one : s_X10_pushIntoDone_33 k2 (f + 1) 60 (jI c) (jI p) (jI (c * F 13 + p)) (jI w) h = if (V 59 ((c * F 13 + p) * (F 12 / 32 + 1) + w) &&& ~~~ (V 67 w)) = 0 then s_X10_pushIntoDone_33 k2 f 60 (jI c) (jI p) (jI (c * F 13 + p)) (jI (w + 1)) h else s_X10_pushIntoDone_84 k2 60 (jI c) (jI p) (jI (c * F 13 + p)) (jI w) h := by
      show s_X10_pushIntoDone_33_b k2 (s_X10_pushIntoDone_33 k2 f) 60 (jI c) (jI p) (jI (c * F 13 + p)) (jI w) h = _
      unfold s_X10_pushIntoDone_33_b
      simp only [g1, gw, g5, g10, Option.bind_some, jI_mul, jI_add, l1, l2, xor_neg, jI_inc]
      rw [if_neg (fun q => by have := (jI_le (by omega) (by omega)).mp q; omega)]
    by_cases z : okWd V (F 12 / 32 + 1) (c * F 13 + p) w
    · obtain ⟨w', e, i1, i2, i3⟩ := pid33_go C L (k2 := k2) hc hp n (w + 1) f (by omega) (by omega) (fun j hj => by
        by_cases y : j = w
        · rw [y]; exact z
        · exact hz j (by omega))
      have z' : (V 59 ((c * F 13 + p) * (F 12 / 32 + 1) + w) &&& ~~~ (V 67 w)) = 0 := z
      exact ⟨w', by rw [one, if_pos z']; exact e, i1, i2, i3⟩
    · have z' : ¬ (V 59 ((c * F 13 + p) * (F 12 / 32 + 1) + w) &&& ~~~ (V 67 w)) = 0 := z
      exact ⟨w, by rw [one, if_neg z'], by omega, hz, Or.inr ⟨by omega, z⟩⟩
theorem pid2_go {T : Nat → Bool} (hTC : T (F 12) = false) (L : lenMv Ln F) (L2 : F 12 * F 13 ≤ Ln 68) {c : Nat} (hc : c < F 12) :
    ∀ (n p f : Nat) (h : aH) (V : Nat → Nat → Int32), p + n = F 13 → n < f → CC h S V Z D Ln b A N m F → okMv V A m F → (∀ d, d < 416 → bit (V 67) 0 d = T d) → watI V F →
      ∃ h' V', s_X10_pushIntoDone_2 f 60 (jI c) (jI p) h = some (.inl (some (.int (fpF (ldV A m F) (F 14) T c p n))), h') ∧ CC h' S V' Z D Ln b A N m F ∧ Oc D h h' ∧ Sm [68] V V' ∧ watI V' F
  | _, _, 0, _, _, _, hf, _, _, _, _ => by omega
  | 0, p, f + 1, h, V, hk, hf, C, M, hT, hW => by
    obtain ⟨X, HM, K, hC, hw⟩ := id C
    have h9 := hC.2.2.2.2.2.1
    refine ⟨h, V, ?_, C, Oc.refl, Sm.refl, hW⟩
    have g0 : gO h (.ref 60) 10 0 = some 3 := gO_of (ltE (by decide)) (X.1 60 rfl) rfl
    have f13 : gI h (.ref 3) 2 13 = some (jI (F 13)) := gI_of (ltE (by decide)) HM.2.1 rfl
    show s_X10_pushIntoDone_2_b (s_X10_pushIntoDone_2 f) 60 (jI c) (jI p) h = _
    unfold s_X10_pushIntoDone_2_b
    rw [g0, Option.bind_some, f13, Option.bind_some, if_pos ((jI_le (by omega) (by omega)).mpr (by omega))]
    rfl
  | n + 1, p, f + 1, h, V, hk, hf, C, M, hT, hW => by
    obtain ⟨X, HM, K, hC, hw⟩ := id C
    have h9 := hC.2.2.2.2.2.1
    have h400 := hC.2.2.2.2.1
    have hp : p < F 13 := by omega
    have g0 : gO h (.ref 60) 10 0 = some 3 := gO_of (ltE (by decide)) (X.1 60 rfl) rfl
    have g11 : gO h (.ref 60) 10 11 = some (D 68) := gO_of (ltE (by decide)) (X.1 60 rfl) rfl
    have f13 : gI h (.ref 3) 2 13 = some (jI (F 13)) := gI_of (ltE (by decide)) HM.2.1 rfl
    have hrow : c * F 13 + p < Ln 68 := by
      have h1 : (c + 1) * F 13 ≤ F 12 * F 13 := Nat.mul_le_mul_right _ (by omega)
      rw [Nat.add_mul] at h1
      omega
    obtain ⟨w0, hw0, ew0, ok0⟩ := hW c p hc hp
    have l1 : ldI .int h (.ref (D 68)) (jI (c * F 13 + p)) = some (jI w0) := ew0 ▸ X.ldD (i := 68) rfl hrow
    obtain ⟨w', e1, a1, a2, a3⟩ := pid33_go C L (k2 := s_X10_pushIntoDone_2 f) hc hp (F 12 / 32 + 1 - w0) w0 FU (by omega) (by unfold FU; omega) ok0
    obtain ⟨h1, e2, X1, O1⟩ := X.stD (i := 68) (j := c * F 13 + p) rfl hrow (jI w')
    have C1 := C.to X1 O1 rfl
    have G1 : gO h1 (.ref 60) 10 1 = some 56 := gO_of (ltE (by decide)) (X1.1 60 rfl) rfl
    have Gw : gI h1 (.ref 56) 3 3 = some (jI (F 12 / 32 + 1)) := hw ▸ gI_of (ltE (by decide)) (X1.1 56 rfl) rfl
    obtain ⟨V1, hV1⟩ : ∃ V1, V1 = upd2 V 68 (upd (V 68) (c * F 13 + p) (jI w')) := ⟨_, rfl⟩
    rw [← hV1] at C1
    have M1 : Sm [68] V V1 := by rw [hV1]; exact Sm.refl.upd (by decide)
    have okv : ∀ row j, okWd V1 (F 12 / 32 + 1) row j ↔ okWd V (F 12 / 32 + 1) row j := fun row j => by
      unfold okWd
      rw [M1 59 (by decide), M1 67 (by decide)]
    have W1 : watI V1 F := fun c2 p2 h1 h2 => by
      by_cases y : c2 * F 13 + p2 = c * F 13 + p
      · refine ⟨w', a1, ?_, fun j hj => (okv _ j).mpr ?_⟩
        · rw [hV1, upd2_eq, y, upd_eq]
        · rw [y]; exact a2 j hj
      · obtain ⟨w2, b1, b2, b3⟩ := hW c2 p2 h1 h2
        exact ⟨w2, b1, by rw [hV1, upd2_eq, upd_ne y]; exact b2, fun j hj => (okv _ j).mpr (b3 j hj)⟩
    have one : s_X10_pushIntoDone_2 (f + 1) 60 (jI c) (jI p) h = if jI w' = jI (F 12 / 32 + 1) then some (.inl (some (.int (jI p))), h1) else s_X10_pushIntoDone_2 f 60 (jI c) (jI (p + 1)) h1 := by
      show s_X10_pushIntoDone_2_b (s_X10_pushIntoDone_2 f) 60 (jI c) (jI p) h = _
      unfold s_X10_pushIntoDone_2_b
      simp only [g0, f13, g11, Option.bind_some, jI_mul, jI_add, l1]
      rw [if_neg (fun q => by have := (jI_le (by omega) (by omega)).mp q; omega), e1]
      unfold s_X10_pushIntoDone_84
      rw [g11, Option.bind_some, e2, Option.bind_some, G1, Option.bind_some, Gw, Option.bind_some, jI_inc]
    have all := okWd_all K hC M hT hTC hc hp
    have fe : fpF (ldV A m F) (F 14) T c p (n + 1) = if intoB (ldV A m F c p) (F 14) T then jI p else fpF (ldV A m F) (F 14) T c (p + 1) n := rfl
    rw [fe]
    rcases a3 with y | ⟨y1, y2⟩
    · have : intoB (ldV A m F c p) (F 14) T = true := all.mp (fun j hj => a2 j (by omega))
      refine ⟨h1, V1, ?_, C1, O1, M1, W1⟩
      rw [one, if_pos (by rw [y]), this]
      rfl
    · have : intoB (ldV A m F c p) (F 14) T = false := by
        cases z : intoB (ldV A m F c p) (F 14) T with
        | false => rfl
        | true => exact absurd (all.mpr z w' y1) y2
      obtain ⟨h', V', ih, i1, i2, i3, i4⟩ := pid2_go hTC L L2 hc n (p + 1) f h1 V1 (by omega) (by omega) C1 ⟨fun c p w x1 x2 x3 => by rw [M1 58 (by decide)]; exact M.1 c p w x1 x2 x3, fun c p x1 x2 e he => by rw [M1 59 (by decide)]; exact M.2 c p x1 x2 e he⟩ (fun d hd => by rw [M1 67 (by decide)]; exact hT d hd) W1
      refine ⟨h', V', ?_, i1, O1.trans i2, M1.trans i3, i4⟩
      rw [one, if_neg (fun z => by have := (jI_inj (by omega) (by omega)).mp z; omega), this]
      exact ih
theorem intoDone_at {T : Nat → Bool} (hTC : T (F 12) = false) (L : lenMv Ln F) (L2 : F 12 * F 13 ≤ Ln 68) {c : Nat} (hc : c < F 12) {h : aH} {V : Nat → Nat → Int32} (C : CC h S V Z D Ln b A N m F) (M : okMv V A m F) (hT : ∀ d, d < 416 → bit (V 67) 0 d = T d) (hW : watI V F) :
    ∃ h' V', s_X10_pushIntoDone 60 (jI c) h = some (.inl (some (.int (fpF (ldV A m F) (F 14) T c 0 (F 13)))), h') ∧ CC h' S V' Z D Ln b A N m F ∧ Oc D h h' ∧ Sm [68] V V' ∧ watI V' F := by
  have h9 := C.2.2.2.1.2.2.2.2.2.1
  exact pid2_go hTC L L2 hc (F 13) 0 FU h V (by omega) (by unfold FU; omega) C M hT hW
theorem okMv.sm {V V' : Nat → Nat → Int32} (M : okMv V A m F) (h1 : V' 58 = V 58) (h2 : V' 59 = V 59) : okMv V' A m F := ⟨fun c p w x1 x2 x3 => by rw [h1]; exact M.1 c p w x1 x2 x3, fun c p x1 x2 e he => by rw [h2]; exact M.2 c p x1 x2 e he⟩
theorem watI.sm {V V' : Nat → Nat → Int32} (W : watI V F) (h1 : V' 59 = V 59) (h2 : V' 67 = V 67) (h3 : V' 68 = V 68) : watI V' F := fun c p x1 x2 => by
  obtain ⟨w, b1, b2, b3⟩ := W c p x1 x2
  exact ⟨w, b1, by rw [h3]; exact b2, fun j hj => by unfold okWd; rw [h1, h2]; exact b3 j hj⟩
/-- done only grows -/
theorem watI.grow {V V' : Nat → Nat → Int32} (W : watI V F) (h1 : V' 59 = V 59) (h3 : V' 68 = V 68) (hg : ∀ j i, i < 32 → (V 67 j).toBitVec.getLsbD i = true → (V' 67 j).toBitVec.getLsbD i = true) : watI V' F := fun c p x1 x2 => by
  obtain ⟨w, b1, b2, b3⟩ := W c p x1 x2
  refine ⟨w, b1, by rw [h3]; exact b2, fun j hj => ?_⟩
  have := (and_zero _ _).mp (b3 j hj)
  unfold okWd
  rw [and_zero, h1]
  intro i hi
  have t := this i hi
  rw [not_bit _ hi] at t ⊢
  cases z : (V 59 ((c * F 13 + p) * (F 12 / 32 + 1) + j)).toBitVec.getLsbD i with
  | false => rfl
  | true =>
    rw [z] at t
    rw [hg j i hi (by simpa using t)]
    rfl
end
