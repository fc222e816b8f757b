/-! the class: pushes that are kept -/
def bitI (x : Int32) (q : Nat) : Bool := x.toBitVec.getLsbD q
theorem bitI_clr {k : Int32} {p q : Nat} (hp : p < 32) (hq : q < 32) : bitI (k &&& ((1 <<< (jI p &&& 31)) ^^^ (-1))) q = true ↔ bitI k q = true ∧ q ≠ p := by
  unfold bitI
  rw [sh1 p hp, xor_neg, Int32.toBitVec_and, BitVec.getLsbD_and, not_bit _ hq, b1_bit p hp q hq, Bool.and_eq_true]
  by_cases z : q = p
  · rw [decide_eq_true z]
    exact ⟨fun h => absurd h.2 (by decide), fun h => absurd z h.2⟩
  · rw [decide_eq_false z]
    exact ⟨fun h => ⟨h.1, z⟩, fun h => ⟨h.1, rfl⟩⟩
theorem bitI_test {k : Int32} {p : Nat} (hp : p < 32) : ((k >>> (jI p &&& 31)) &&& 1) = 0 ↔ bitI k p = false := bit_test k p hp
theorem bitI_zero {x : Int32} : x = 0 ↔ ∀ q, q < 32 → bitI x q = false := by
  constructor
  · rintro rfl q _
    unfold bitI
    simp
  · intro h
    apply Int32.toBitVec_inj.mp
    apply BitVec.eq_of_getLsbD_eq
    intro i hi
    have := h i hi
    unfold bitI at this
    rw [this]
    simp
theorem cpI_of {h : aH} {a b n0 n1 n : Nat} {f g : Nat → Int32} (ha : a < aE) (hb : b < aE) (h1 : h[a]? = some (.inl (.int, n0, .inl f))) (h2 : h[b]? = some (.inl (.int, n1, .inl g))) (hn : n ≤ n0) (hn1 : n ≤ n1) (hs : n < 2147483648) :
    ∃ g', cpI h (.ref a) 0 (.ref b) 0 (jI n) = some (h.set b (.inl (.int, n1, .inl g'))) ∧ ∀ j, g' j = if j < n then f j else g j := by
  have z : ¬ (0 : Int32) < 0 := by decide
  have z2 : (0 : Int32).toNatClampNeg = 0 := by decide
  unfold cpI
  simp only [ha, hb, h1, h2, and_self, if_true]
  rw [if_pos ⟨z, z, jI_neg hs, by rw [z2, jI_cl hs]; omega, by rw [z2, jI_cl hs]; omega⟩]
  refine ⟨_, rfl, fun j => ?_⟩
  simp only [z2, jI_cl hs, va_cpy, Nat.zero_add, Nat.zero_le, true_and, Nat.sub_zero]
section
variable {S : Nat → Nat → Int32} {Z : Nat → Nat → Int64} {D Ln : Nat → Nat} {b : Nat} {A : Nat → Nat → Int32} {N : Nat → Int64} {m F : Nat → Nat}
theorem kp44_go {h : aH} {V : Nat → Nat → Int32} (C : CC h S V Z D Ln b A N m F) {k6 : Nat → Nat → Int32 → Int32 → Int32 → Int32 → Int32 → aH → aO} {rid : Nat} (hr : dyC rid = true) {c lo la st p : Nat} (hp : p < 9) (hla : la < 13) (hst : st + la < Ln rid) :
    ∀ (n w f : Nat) (k : Int32), w + n = la + 1 → n < f →
      ∃ k', s_X7_keptPushes_44 k6 f 69 (D rid) (jI c) (jI lo) (jI la) k (jI p) (jI st) (jI w) h = k6 69 (D rid) (jI c) (jI lo) (jI la) k' (jI (p + 1)) h ∧
        ∀ q, q < 32 → (bitI k' q = true ↔ bitI k q = true ∧ (q = p → ∀ j, w ≤ j → j ≤ la → (V rid (st + j) &&& V 76 j) = 0))
  | _, _, 0, _, _, hf => by omega
  | 0, w, f + 1, k, hw, hf => by
    refine ⟨k, ?_, fun q hq => ⟨fun z => ⟨z, fun _ j h1 h2 => by omega⟩, fun z => z.1⟩⟩
    show s_X7_keptPushes_44_b k6 (s_X7_keptPushes_44 k6 f) 69 (D rid) (jI c) (jI lo) (jI la) k (jI p) (jI st) (jI w) h = _
    unfold s_X7_keptPushes_44_b
    rw [if_pos ((jI_lt (by omega) (by omega)).mpr (by omega)), jI_inc]
  | n + 1, w, f + 1, k, hw, hf => by
    have X := C.1
    have hL := X.lnD hr
    have g12 : gO h (.ref 69) 7 12 = some 76 := gO_of (ltE (by decide)) (X.1 69 rfl) rfl
    have l1 : ldI .int h (.ref (D rid)) (jI (st + w)) = some (V rid (st + w)) := X.ldD hr (by omega)
    have l2 : ldI .int h (.ref 76) (jI w) = some (V 76 w) := X.ld (a := 76) rfl (show w < 13 by omega)
    have hn : ¬ jI la < jI w := fun z => by have := (jI_lt (by omega) (by omega)).mp z; omega
    cases qb : bitI k p with
    | false =>
      refine ⟨k, ?_, fun q hq => ⟨fun z => ⟨z, fun e => by rw [e, qb] at z; cases z⟩, fun z => z.1⟩⟩
      show s_X7_keptPushes_44_b k6 (s_X7_keptPushes_44 k6 f) 69 (D rid) (jI c) (jI lo) (jI la) k (jI p) (jI st) (jI w) h = _
      unfold s_X7_keptPushes_44_b
      rw [if_neg hn, if_pos ((bitI_test (by omega)).mpr qb), jI_inc]
    | true =>
      have nb : ¬ ((k >>> (jI p &&& 31)) &&& 1) = 0 := fun z => by rw [(bitI_test (by omega)).mp z] at qb; cases qb
      by_cases z : (V rid (st + w) &&& V 76 w) = 0
      · obtain ⟨k', e, ih⟩ := kp44_go C (k6 := k6) (c := c) (lo := lo) hr hp hla hst n (w + 1) f k (by omega) (by omega)
        refine ⟨k', ?_, fun q hq => (ih q hq).trans (and_congr Iff.rfl ⟨fun H e j h1 h2 => ?_, fun H e j h1 h2 => H e j (by omega) h2⟩)⟩
        · show s_X7_keptPushes_44_b k6 (s_X7_keptPushes_44 k6 f) 69 (D rid) (jI c) (jI lo) (jI la) k (jI p) (jI st) (jI w) h = _
          unfold s_X7_keptPushes_44_b
          rw [if_neg hn, if_neg nb, jI_add, l1, Option.bind_some, g12, Option.bind_some, l2, Option.bind_some, if_pos z, jI_inc]
          exact e
        · by_cases y : j = w
          · rw [y]; exact z
          · exact H e j (by omega) h2
      · obtain ⟨k', e, ih⟩ := kp44_go C (k6 := k6) (c := c) (lo := lo) hr hp hla hst n (w + 1) f (k &&& ((1 <<< (jI p &&& 31)) ^^^ (-1))) (by omega) (by omega)
        refine ⟨k', ?_, fun q hq => (ih q hq).trans ?_⟩
        · show s_X7_keptPushes_44_b k6 (s_X7_keptPushes_44 k6 f) 69 (D rid) (jI c) (jI lo) (jI la) k (jI p) (jI st) (jI w) h = _
          unfold s_X7_keptPushes_44_b
          rw [if_neg hn, if_neg nb, jI_add, l1, Option.bind_some, g12, Option.bind_some, l2, Option.bind_some, if_neg z, jI_inc]
          exact e
        · rw [bitI_clr (by omega) hq]
          constructor
          · rintro ⟨⟨h1, h2⟩, h3⟩
            exact ⟨h1, fun e => absurd e h2⟩
          · rintro ⟨h1, h2⟩
            have hne : q ≠ p := fun e => z (h2 e w (Nat.le_refl _) (by omega))
            exact ⟨⟨h1, hne⟩, fun e => absurd e hne⟩
theorem kp6_go {h : aH} {V : Nat → Nat → Int32} (C : CC h S V Z D Ln b A N m F) {rid : Nat} (hr : dyC rid = true) {c lo la : Nat} (hc : c < F 12) (hlo : lo ≤ la + 1) (hla : la < F 12 / 32 + 1) (hlen : F 12 * F 13 * (F 12 / 32 + 1) ≤ Ln rid) :
    ∀ (n p f : Nat) (k : Int32), p + n = F 13 → n < f →
      ∃ k', s_X7_keptPushes_6 f 69 (D rid) (jI c) (jI lo) (jI la) k (jI p) h = some (.inl (some (.int k')), h) ∧
        ∀ q, q < 32 → (bitI k' q = true ↔ bitI k q = true ∧ (p ≤ q → q < F 13 → ∀ j, lo ≤ j → j ≤ la → (V rid ((c * F 13 + q) * (F 12 / 32 + 1) + j) &&& V 76 j) = 0))
  | _, _, 0, _, _, hf => by omega
  | 0, p, f + 1, k, hk, hf => by
    obtain ⟨X, HM, K, hC, hw⟩ := id C
    have h9 := hC.2.2.2.2.2.1
    refine ⟨k, ?_, fun q hq => ⟨fun z => ⟨z, fun h1 h2 => by omega⟩, fun z => z.1⟩⟩
    have g0 : gO h (.ref 69) 7 0 = some 3 := gO_of (ltE (by decide)) (X.1 69 rfl) rfl
    have g13 : gI h (.ref 3) 2 13 = some (jI (F 13)) := gI_of (ltE (by decide)) HM.2.1 rfl
    show s_X7_keptPushes_6_b (s_X7_keptPushes_6 f) 69 (D rid) (jI c) (jI lo) (jI la) k (jI p) h = _
    unfold s_X7_keptPushes_6_b
    rw [g0, Option.bind_some, g13, Option.bind_some, if_pos ((jI_le (by omega) (by omega)).mpr (by omega))]
  | n + 1, p, f + 1, k, hk, hf => by
    obtain ⟨X, HM, K, hC, hw⟩ := id C
    have h9 := hC.2.2.2.2.2.1
    have h400 := hC.2.2.2.2.1
    have g0 : gO h (.ref 69) 7 0 = some 3 := gO_of (ltE (by decide)) (X.1 69 rfl) rfl
    have g1 : gO h (.ref 69) 7 1 = some 56 := gO_of (ltE (by decide)) (X.1 69 rfl) rfl
    have g13 : gI h (.ref 3) 2 13 = some (jI (F 13)) := gI_of (ltE (by decide)) HM.2.1 rfl
    have gw : gI h (.ref 56) 3 3 = some (jI (F 12 / 32 + 1)) := hw ▸ gI_of (ltE (by decide)) (X.1 56 rfl) rfl
    have hrow : (c * F 13 + p) * (F 12 / 32 + 1) + la < Ln rid := by
      have h1 : (c + 1) * F 13 ≤ F 12 * F 13 := Nat.mul_le_mul_right _ (by omega)
      rw [Nat.add_mul] at h1
      have h2 : (c * F 13 + p + 1) * (F 12 / 32 + 1) ≤ F 12 * F 13 * (F 12 / 32 + 1) := Nat.mul_le_mul_right _ (by omega)
      rw [Nat.add_mul] at h2
      omega
    obtain ⟨k1, e1, a1⟩ := kp44_go C (k6 := s_X7_keptPushes_6 f) (c := c) (lo := lo) (st := (c * F 13 + p) * (F 12 / 32 + 1)) hr (show p < 9 by omega) (show la < 13 by omega) hrow (la + 1 - lo) lo FU k (by omega) (by unfold FU; omega)
    obtain ⟨k', ih, i1⟩ := kp6_go C hr hc hlo hla hlen n (p + 1) f k1 (by omega) (by omega)
    refine ⟨k', ?_, fun q hq => (i1 q hq).trans ?_⟩
    · show s_X7_keptPushes_6_b (s_X7_keptPushes_6 f) 69 (D rid) (jI c) (jI lo) (jI la) k (jI p) h = _
      unfold s_X7_keptPushes_6_b
      simp only [g0, g1, g13, gw, Option.bind_some]
      rw [if_neg (fun q => by have := (jI_le (by omega) (by omega)).mp q; omega), jI_mul, jI_add, jI_mul, e1]
      exact ih
    · rw [a1 q hq]
      constructor
      · rintro ⟨⟨h1, h2⟩, h3⟩
        refine ⟨h1, fun q1 q2 => ?_⟩
        by_cases z : q = p
        · rw [z]; exact h2 z
        · exact h3 (by omega) q2
      · rintro ⟨h1, h2⟩
        exact ⟨⟨h1, fun e => by rw [← e]; exact h2 (by omega) (by omega)⟩, fun q1 q2 => h2 (by omega) q2⟩
theorem kept_at {h : aH} {V : Nat → Nat → Int32} (C : CC h S V Z D Ln b A N m F) {rid : Nat} (hr : dyC rid = true) {c lo la : Nat} (hc : c < F 12) (hlo : lo ≤ la + 1) (hla : la < F 12 / 32 + 1) (hlen : F 12 * F 13 * (F 12 / 32 + 1) ≤ Ln rid) (k : Int32) :
    ∃ k', s_X7_keptPushes 69 (D rid) (jI c) k (jI lo) (jI la) h = some (.inl (some (.int k')), h) ∧
      ∀ q, q < 32 → (bitI k' q = true ↔ bitI k q = true ∧ (q < F 13 → ∀ j, lo ≤ j → j ≤ la → (V rid ((c * F 13 + q) * (F 12 / 32 + 1) + j) &&& V 76 j) = 0)) := by
  have h9 := C.2.2.2.1.2.2.2.2.2.1
  obtain ⟨k', e, i⟩ := kp6_go C hr hc hlo hla hlen (F 13) 0 FU k (by omega) (by unfold FU; omega)
  exact ⟨k', e, fun q hq => (i q hq).trans (and_congr Iff.rfl ⟨fun H => H (Nat.zero_le _), fun H _ => H⟩)⟩
end
