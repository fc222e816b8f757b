/-! the reference: whether a push leads into a set -/
/-- what the walk over thirteen words finds -/
def wdsB (M X : Nat → Int32) (b : Nat) : Nat → Nat → Bool
  | _, 0 => true
  | k, n + 1 => decide ((M (b + k) &&& ~~~ (X k)) = 0) && wdsB M X b (k + 1) n
theorem wdsB_iff {M X : Nat → Int32} {b : Nat} : ∀ (n k : Nat), wdsB M X b k n = true ↔ ∀ j, k ≤ j → j < k + n → (M (b + j) &&& ~~~ (X j)) = 0
  | 0, k => ⟨fun _ j h1 h2 => by omega, fun _ => rfl⟩
  | n + 1, k => by
    show (decide ((M (b + k) &&& ~~~ (X k)) = 0) && wdsB M X b (k + 1) n) = true ↔ _
    rw [Bool.and_eq_true, decide_eq_true_eq, wdsB_iff n (k + 1)]
    constructor
    · rintro ⟨h1, h2⟩ j j1 j2
      by_cases q : j = k
      · subst q; exact h1
      · exact h2 j (by omega) (by omega)
    · intro H
      exact ⟨H k (Nat.le_refl _) (by omega), fun j j1 j2 => H j (by omega) (by omega)⟩
theorem wdsB_bit {M X : Nat → Int32} {b : Nat} : wdsB M X b 0 13 = true ↔ ∀ d, d < 416 → bit M b d = true → bit X 0 d = true := by
  rw [wdsB_iff]
  constructor
  · intro H d hd hb
    have := (and_zero _ _).mp (H (d / 32) (Nat.zero_le _) (by omega)) (d % 32) (Nat.mod_lt _ (by decide))
    rw [not_bit _ (Nat.mod_lt _ (by decide))] at this
    unfold bit at hb ⊢
    rw [hb] at this
    rw [Nat.zero_add]
    simpa using this
  · intro H j _ hj
    rw [and_zero]
    intro i hi
    rw [not_bit _ hi]
    have := H (32 * j + i) (by omega)
    unfold bit at this
    rw [show (32 * j + i) / 32 = j by omega, show (32 * j + i) % 32 = i by omega, Nat.zero_add] at this
    cases q : (M (b + j)).toBitVec.getLsbD i with
    | false => rfl
    | true => rw [this q]; rfl
theorem b01_and (a b : Bool) : (if b01 a = 0 then (0 : Int32) else b01 b) = b01 (a && b) := by
  cases a <;> cases b <;> rfl
section
variable {h : aH} {S : Nat → Int32} {wd : Int64} {t fv nv : Value} {V : Nat → Nat → Int32} {Z : Nat → Nat → Int64}
theorem into28_go (X : RW h S wd t fv nv V Z) {a e : Nat} (ha : inR a = true) (hty : ryR a = .int) (hln : lnR a = 13) (he : e < 3600) :
    ∀ (n k f : Nat) (q : Bool), k + n = 13 → n < f → s_X14_leadsInto_28 f 104 a (jI e) (b01 q) (jI k) h = some (.inl (some (.int (b01 (q && wdsB (V 152) (V a) (13 * e) k n)))), h)
  | _, _, 0, _, _, hf => by omega
  | 0, k, f + 1, q, hk, hf => by
    show s_X14_leadsInto_28_b (s_X14_leadsInto_28 f) 104 a (jI e) (b01 q) (jI k) h = _
    unfold s_X14_leadsInto_28_b
    rw [show (13 : Int32) = jI 13 from rfl, if_pos ((jI_le (by omega) (by omega)).mpr (by omega))]
    cases q <;> rfl
  | n + 1, k, f + 1, q, hk, hf => by
    have g34 : gO h (.ref 104) 14 34 = some 152 := gO_of (ltE (by decide)) X.1 rfl
    have l1 : ldI .int h (.ref 152) (jI (13 * e + k)) = some (V 152 (13 * e + k)) := X.ld (a := 152) rfl (show 13 * e + k < 46800 by omega)
    have l2 : ldI .int h (.ref a) (jI k) = some (V a k) := by
      have := X.ld (j := k) ha (by omega)
      rw [hty] at this
      exact this
    have ih := fun q => into28_go X ha hty hln he n (k + 1) f q (by omega) (by omega)
    show s_X14_leadsInto_28_b (s_X14_leadsInto_28 f) 104 a (jI e) (b01 q) (jI k) h = _
    unfold s_X14_leadsInto_28_b
    rw [show (13 : Int32) = jI 13 from rfl, if_neg (fun q => by have := (jI_le (by omega) (by omega)).mp q; omega)]
    have i0 := ih false
    have i1 := ih true
    have w : wdsB (V 152) (V a) (13 * e) k (n + 1) = (decide ((V 152 (13 * e + k) &&& ~~~ (V a k)) = 0) && wdsB (V 152) (V a) (13 * e) (k + 1) n) := rfl
    rw [w]
    simp only [s_X14_leadsInto_67, s_X14_leadsInto_68, g34, Option.bind_some, jI_mul, jI_add, l1, l2, xor_neg, jI_inc]
    cases q with
    | false =>
      rw [if_pos (show b01 false = 0 from rfl)]
      exact i0
    | true =>
      rw [if_neg (show ¬ b01 true = 0 by decide)]
      by_cases z : (V 152 (13 * e + k) &&& ~~~ (V a k)) = 0
      · rw [if_pos z, decide_eq_true z]
        exact i1
      · rw [if_neg z, decide_eq_false z]
        exact i0
theorem leadsInto_at (X : RW h S wd t fv nv V Z) {a c p : Nat} (ha : inR a = true) (hty : ryR a = .int) (hln : lnR a = 13) (hc : c < 400) (hp : p < 9) :
    s_X14_leadsInto 104 (jI c) (jI p) a h = some (.inl (some (.int (b01 (decide (V 161 (c * 9 + p) = 0) && wdsB (V 152) (V a) (13 * (c * 9 + p)) 0 13)))), h) := by
  have g43 : gO h (.ref 104) 14 43 = some 161 := gO_of (ltE (by decide)) X.1 rfl
  have l1 : ldI .boolean h (.ref 161) (jI (c * 9 + p)) = some (V 161 (c * 9 + p)) := X.ld (a := 161) rfl (show c * 9 + p < 3600 by omega)
  have ei : jI c * 9 + jI p = jI (c * 9 + p) := by rw [show (9 : Int32) = jI 9 from rfl, jI_mul, jI_add]
  unfold s_X14_leadsInto
  rw [g43, Option.bind_some, ei, l1, Option.bind_some]
  unfold s_X14_leadsInto_23
  by_cases q : V 161 (c * 9 + p) = 0
  · rw [if_pos q, decide_eq_true q]
    exact into28_go X ha hty hln (by omega) 13 0 FU true rfl (by decide)
  · rw [if_neg q, decide_eq_false q]
    exact into28_go X ha hty hln (by omega) 13 0 FU false rfl (by decide)
end
/-- the reference's rows of what may be led to stand for ld, over n worlds -/
def okMb (V : Nat → Nat → Int32) (C P n : Nat) (ld : Nat → Nat → Nat → Int32) : Prop :=
  ∀ c p, c < C → p < P → (V 161 (c * 9 + p) = 0 ↔ ∀ x, x < n → ld c p x ≠ -2) ∧ ∀ d, d < 416 → (bit (V 152) (13 * (c * 9 + p)) d = true ↔ ∃ x, x < n ∧ ld c p x = jI d)
theorem b01_inj {a b : Bool} (h : a = true ↔ b = true) : b01 a = b01 b := by
  cases a <;> cases b <;> simp_all [b01]
theorem okMb.into {V : Nat → Nat → Int32} {C P n : Nat} {ld : Nat → Nat → Nat → Int32} (M : okMb V C P n ld) (hC : C ≤ 400) (hl : ∀ c p x, isLd (ld c p x) C) {c p : Nat} (hc : c < C) (hp : p < P) {Y : Nat → Int32} {T : Nat → Bool} (hT : ∀ d, d < C → T d = bit Y 0 d) :
    (decide (V 161 (c * 9 + p) = 0) && wdsB (V 152) Y (13 * (c * 9 + p)) 0 13) = intoB (ld c p) n T := by
  obtain ⟨m1, m2⟩ := M c p hc hp
  have key : (decide (V 161 (c * 9 + p) = 0) && wdsB (V 152) Y (13 * (c * 9 + p)) 0 13) = true ↔ intoB (ld c p) n T = true := by
    unfold intoB
    rw [Bool.and_eq_true, decide_eq_true_eq, m1, wdsB_bit, List.all_eq_true]
    constructor
    · rintro ⟨h1, h2⟩ x hx
      have hx := List.mem_range.mp hx
      rcases hl c p x with z | ⟨d, z, hd⟩
      · exact absurd z (h1 x hx)
      · rw [z, tst_in (by omega), hT d hd]
        exact h2 d (by omega) ((m2 d (by omega)).mpr ⟨x, hx, z⟩)
    · intro H
      constructor
      · intro x hx e
        have := H x (List.mem_range.mpr hx)
        rw [e, tst_out] at this
        cases this
      · intro d hd hb
        obtain ⟨x, hx, e⟩ := (m2 d hd).mp hb
        have := H x (List.mem_range.mpr hx)
        have hdC : d < C := by
          rcases hl c p x with z | ⟨d', z, hd'⟩
          · rw [z, tst_out] at this
            cases this
          · have : d = d' := (jI_inj (by omega) (by omega)).mp (e.symm.trans z)
            omega
        rw [e, tst_in (by omega), hT d hdC] at this
        exact this
  cases h1 : (decide (V 161 (c * 9 + p) = 0) && wdsB (V 152) Y (13 * (c * 9 + p)) 0 13) with
  | true => exact (key.mp h1).symm
  | false =>
    cases h2 : intoB (ld c p) n T with
    | false => rfl
    | true => rw [key.mpr h2] at h1; cases h1
section
variable {h : aH} {S : Nat → Int32} {wd : Int64} {t fv nv : Value} {V : Nat → Nat → Int32} {Z : Nat → Nat → Int64}
theorem canGo_go (X : RW h S wd t fv nv V Z) {C P n : Nat} {ld : Nat → Nat → Nat → Int32} (hP : S 21 = jI P) (hP9 : P ≤ 9) (M : okMb V C P n ld) (hC : C ≤ 400) (hl : ∀ c p x, isLd (ld c p x) C) {c : Nat} (hc : c < C) {a : Nat} (ha : inR a = true) (hty : ryR a = .int) (hln : lnR a = 13) {T : Nat → Bool} (hT : ∀ d, d < C → T d = bit (V a) 0 d) :
    ∀ (k p f : Nat) (q : Bool), p + k = P → k < f → s_X14_canGo_5 f 104 (jI c) a (b01 q) (jI p) h = some (.inl (some (.int (b01 (q || (List.range' p k).any (fun p => intoB (ld c p) n T))))), h)
  | _, _, 0, _, _, hf => by omega
  | 0, p, f + 1, q, hk, hf => by
    show s_X14_canGo_5_b (s_X14_canGo_5 f) 104 (jI c) a (b01 q) (jI p) h = _
    unfold s_X14_canGo_5_b
    have g : gI h (.ref 104) 14 21 = some (jI P) := hP ▸ gI_of (ltE (by decide)) X.1 rfl
    rw [g, Option.bind_some, if_pos ((jI_le (by omega) (by omega)).mpr (by omega))]
    cases q <;> rfl
  | k + 1, p, f + 1, q, hk, hf => by
    have g : gI h (.ref 104) 14 21 = some (jI P) := hP ▸ gI_of (ltE (by decide)) X.1 rfl
    have ih := fun q => canGo_go X hP hP9 M hC hl hc ha hty hln hT k (p + 1) f q (by omega) (by omega)
    have e := leadsInto_at X (c := c) (p := p) ha hty hln (by omega) (by omega)
    rw [M.into hC hl hc (by omega) hT] at e
    show s_X14_canGo_5_b (s_X14_canGo_5 f) 104 (jI c) a (b01 q) (jI p) h = _
    unfold s_X14_canGo_5_b
    rw [g, Option.bind_some, if_neg (fun q => by have := (jI_le (by omega) (by omega)).mp q; omega)]
    rw [List.range'_succ, List.any_cons]
    simp only [s_X14_canGo_29, s_X14_canGo_34, X.kO, e, cI, jI_inc]
    have i0 := ih false
    have i1 := ih true
    cases q with
    | true =>
      rw [if_neg (show ¬ b01 true = 0 by decide)]
      exact i1
    | false =>
      rw [if_pos (show b01 false = 0 from rfl)]
      cases z : intoB (ld c p) n T with
      | false =>
        rw [if_pos (show b01 false = 0 from rfl)]
        exact i0
      | true =>
        rw [if_neg (show ¬ b01 true = 0 by decide)]
        exact i1
theorem canGo_at (X : RW h S wd t fv nv V Z) {C P n : Nat} {ld : Nat → Nat → Nat → Int32} (hP : S 21 = jI P) (hP9 : P ≤ 9) (M : okMb V C P n ld) (hC : C ≤ 400) (hl : ∀ c p x, isLd (ld c p x) C) {c : Nat} (hc : c < C) {a : Nat} (ha : inR a = true) (hty : ryR a = .int) (hln : lnR a = 13) {T : Nat → Bool} (hT : ∀ d, d < C → T d = bit (V a) 0 d) :
    s_X14_canGo 104 (jI c) a h = some (.inl (some (.int (b01 (canB ld P n T c)))), h) := by
  have e := canGo_go X hP hP9 M hC hl hc ha hty hln hT P 0 FU false (by omega) (by unfold FU; omega)
  rw [← List.range_eq_range'] at e
  exact e
end
