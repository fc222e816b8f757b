/-! is a thing linear: what is meant, and the class's look -/
def okSt (A : Nat → Nat → Int32) (m F : Nat → Nat) : Prop := ∀ i, i < F 4 → ∃ s, s < m 0 ∧ A 5 i = jI s
def nrR (g : Nat → Int32) (i : Nat) : Nat → Bool
  | 0 => true
  | n + 1 => (decide (-20 ≤ g i) && decide (g i ≤ 20)) && nrR g (i + 1) n
theorem nrR_iff {g : Nat → Int32} : ∀ (n i : Nat), nrR g i n = true ↔ ∀ j, j < n → -20 ≤ g (i + j) ∧ g (i + j) ≤ 20
  | 0, _ => ⟨fun _ j hj => absurd hj (Nat.not_lt_zero j), fun _ => rfl⟩
  | n + 1, i => by
    show ((decide (-20 ≤ g i) && decide (g i ≤ 20)) && nrR g (i + 1) n) = true ↔ _
    rw [Bool.and_eq_true, Bool.and_eq_true, decide_eq_true_iff, decide_eq_true_iff, nrR_iff n (i + 1)]
    constructor
    · rintro ⟨q, r⟩ j hj
      cases j with
      | zero => exact q
      | succ j => have := r j (by omega); rw [show i + 1 + j = i + (j + 1) by omega] at this; exact this
    · intro q
      exact ⟨q 0 (by omega), fun j hj => by have := q (j + 1) (by omega); rw [show i + (j + 1) = i + 1 + j by omega] at this; exact this⟩
def lk1 (g : Bool) (A : Nat → Nat → Int32) : Nat → Nat → (Nat → Bool) → (Nat → Nat → Int32) → Option ((Nat → Bool) × (Nat → Nat → Int32))
  | 0, _, Q, M => some (Q, M)
  | n + 1, i, Q, M => if (sgo A 8 9 i).isEmpty = true ∧ Q (A 5 i).toNatClampNeg = false then (lnG (A 3) (sgm A 6 7 i) (-1) 0 (fun _ => 0)).bind fun P => if g = true ∧ nrR P 0 5 = false then none else lk1 g A n (i + 1) (upd2 Q (A 5 i).toNatClampNeg true) (upd2 M (A 5 i).toNatClampNeg P) else none
def lk2 (g : Bool) (A : Nat → Nat → Int32) : Nat → Nat → (Nat → Nat → Int32) → Option (Nat → Nat → Int32)
  | 0, _, M => some M
  | n + 1, j, M => (lnG (A 3) (sgm A 10 11 j) (-1) 0 (fun _ => 0)).bind fun P => if g = true ∧ nrR P 0 3 = false then none else lk2 g A n (j + 1) (upd2 M j P)
/-- the rows of what is told, and of what stays -/
def rwS (Q : Nat → Bool) (M : Nat → Nat → Int32) (i r : Nat) : Nat → Int32 := if Q r = true then M r else if r < i then fun k => if k = r then 1 else 0 else fun _ => 0
def nrM (a c : Nat → Nat → Int32) : Bool := (nrR (a 0) 0 5 && (nrR (a 1) 0 5 && nrR (a 2) 0 5)) && (nrR (c 0) 0 3 && nrR (c 1) 0 3)
theorem nrM_iff {a c : Nat → Nat → Int32} : nrM a c = true ↔ (∀ s, s < 3 → nrR (a s) 0 5 = true) ∧ ∀ j, j < 2 → nrR (c j) 0 3 = true := by
  unfold nrM
  rw [Bool.and_eq_true, Bool.and_eq_true, Bool.and_eq_true, Bool.and_eq_true]
  constructor
  · rintro ⟨⟨a0, a1, a2⟩, c0, c1⟩
    refine ⟨fun s hs => ?_, fun j hj => ?_⟩
    · match s, hs with
      | 0, _ => exact a0
      | 1, _ => exact a1
      | 2, _ => exact a2
    · match j, hj with
      | 0, _ => exact c0
      | 1, _ => exact c1
  · rintro ⟨p, q⟩
    exact ⟨⟨p 0 (by decide), p 1 (by decide), p 2 (by decide)⟩, q 0 (by decide), q 1 (by decide)⟩
theorem rwS_ne {Q : Nat → Bool} {M : Nat → Nat → Int32} {i r : Nat} (h : r ≠ i ∨ Q r = true) : rwS Q M (i + 1) r = rwS Q M i r := by
  unfold rwS
  by_cases w : Q r = true
  · rw [if_pos w, if_pos w]
  · rw [if_neg w, if_neg w]
    have : r ≠ i := h.elim id (fun z => absurd z w)
    by_cases u : r < i
    · rw [if_pos u, if_pos (by omega)]
    · rw [if_neg u, if_neg (by omega)]
def lin (g : Bool) (A : Nat → Nat → Int32) (m F : Nat → Nat) : Option ((Nat → Nat → Int32) × (Nat → Nat → Int32)) :=
  (lk1 g A (F 4) 0 (fun _ => false) (fun _ _ => 0)).bind fun x => (lk2 g A (m 4) 0 (fun _ _ => 0)).bind fun c => some (rwS x.1 x.2 (m 0), c)
def okLn (V : Nat → Nat → Int32) (a c : Nat → Nat → Int32) : Prop := (∀ r, r < 3 → okRw V false r (a r)) ∧ ∀ r, r < 2 → okRw V true r (c r)
theorem rwK.keepA {V V' : Nat → Nat → Int32} {see : Bool} {s r : Nat} {P : Nat → Int32} (K : rwK V V' see s) (h : okRw V false r P) (q : r ≠ s ∨ see = true) : okRw V' false r P := by
  have h' : (∀ k, k < 3 → V 82 (r * 3 + k) = P k) ∧ ∀ k, k < 2 → V 83 (r * 2 + k) = P (3 + k) := h
  rcases q with q | q
  · exact ⟨fun k hk => (K.2.2.2.1 _ (by omega)).1.trans (h'.1 k hk), fun k hk => (K.2.2.2.2 _ (by omega)).trans (h'.2 k hk)⟩
  · have := K.2.1 q
    exact ⟨fun k hk => by rw [this.1]; exact h'.1 k hk, fun k hk => by rw [this.2]; exact h'.2 k hk⟩
theorem rwK.keepC {V V' : Nat → Nat → Int32} {see : Bool} {s r : Nat} {P : Nat → Int32} (K : rwK V V' see s) (h : okRw V true r P) (q : r ≠ s ∨ see = false) : okRw V' true r P := by
  have h' : ∀ k, k < 3 → V 84 (r * 3 + k) = P k := h
  rcases q with q | q
  · exact fun k hk => (K.2.2.2.1 _ (by omega)).2.trans (h' k hk)
  · have := K.2.2.1 q
    exact fun k hk => by rw [this]; exact h' k hk
theorem nrM_of {V a c : Nat → Nat → Int32} (O : okLn V a c) : (nrR (V 82) 0 9 && (nrR (V 83) 0 6 && nrR (V 84) 0 6)) = nrM a c := by
  rw [Bool.eq_iff_iff, nrM_iff, Bool.and_eq_true, Bool.and_eq_true, nrR_iff, nrR_iff, nrR_iff]
  have hA : ∀ r, r < 3 → (∀ k, k < 3 → V 82 (r * 3 + k) = a r k) ∧ ∀ k, k < 2 → V 83 (r * 2 + k) = a r (3 + k) := O.1
  have hC : ∀ r, r < 2 → ∀ k, k < 3 → V 84 (r * 3 + k) = c r k := O.2
  constructor
  · rintro ⟨q1, q2, q3⟩
    refine ⟨fun s hs => (nrR_iff 5 0).mpr fun k hk => ?_, fun j hj => (nrR_iff 3 0).mpr fun k hk => ?_⟩
    · by_cases k3 : k < 3
      · have := q1 (s * 3 + k) (by omega)
        rw [Nat.zero_add, (hA s hs).1 k k3] at this
        rw [Nat.zero_add]
        exact this
      · have := q2 (s * 2 + (k - 3)) (by omega)
        rw [Nat.zero_add, (hA s hs).2 (k - 3) (by omega), show 3 + (k - 3) = k by omega] at this
        rw [Nat.zero_add]
        exact this
    · have := q3 (j * 3 + k) (by omega)
      rw [Nat.zero_add, hC j hj k hk] at this
      rw [Nat.zero_add]
      exact this
  · rintro ⟨q1, q2⟩
    refine ⟨fun j hj => ?_, fun j hj => ?_, fun j hj => ?_⟩
    · have := (nrR_iff 5 0).mp (q1 (j / 3) (by omega)) (j % 3) (by omega)
      rw [Nat.zero_add, ← (hA (j / 3) (by omega)).1 (j % 3) (by omega), show j / 3 * 3 + j % 3 = j by omega] at this
      rw [Nat.zero_add]
      exact this
    · have := (nrR_iff 5 0).mp (q1 (j / 2) (by omega)) (3 + j % 2) (by omega)
      rw [Nat.zero_add, ← (hA (j / 2) (by omega)).2 (j % 2) (by omega), show j / 2 * 2 + j % 2 = j by omega] at this
      rw [Nat.zero_add]
      exact this
    · have := (nrR_iff 3 0).mp (q2 (j / 3) (by omega)) (j % 3) (by omega)
      rw [Nat.zero_add, ← hC (j / 3) (by omega) (j % 3) (by omega), show j / 3 * 3 + j % 3 = j by omega] at this
      rw [Nat.zero_add]
      exact this
theorem nr7_go {h : aH} {a len : Nat} {g : Nat → Int32} (ha : a < aE) (hl : len < 1000000) (hc : h[a]? = some (.inl (.int, len, .inl g))) : ∀ (n i f : Nat), i + n = len → n < f →
    s_X1_allNear_7 f a (jI len) (jI i) h = some (.inl (some (.int (b01 (nrR g i n)))), h)
  | _, _, 0, _, hf => by omega
  | 0, i, f + 1, hn, hf => by
    show s_X1_allNear_7_b (s_X1_allNear_7 f) a (jI len) (jI i) h = _
    unfold s_X1_allNear_7_b
    rw [if_pos ((jI_le (by omega) (by omega)).mpr (by omega))]
    rfl
  | n + 1, i, f + 1, hn, hf => by
    show s_X1_allNear_7_b (s_X1_allNear_7 f) a (jI len) (jI i) h = some (.inl (some (.int (b01 ((decide (-20 ≤ g i) && decide (g i ≤ 20)) && nrR g (i + 1) n)))), h)
    unfold s_X1_allNear_7_b
    have l : ldI .int h (.ref a) (jI i) = some (g i) := ldI_of ha hc (by omega) (by omega)
    rw [if_neg (fun u => by have := (jI_le (by omega) (by omega)).mp u; omega), l, Option.bind_some]
    by_cases q1 : g i < -20
    · rw [if_pos q1, decide_eq_false (i32_nle.mpr q1)]
      rfl
    · rw [if_neg q1, decide_eq_true (i32_nlt.mp q1)]
      by_cases q2 : g i ≤ 20
      · rw [if_pos q2, decide_eq_true q2, jI_inc]
        exact nr7_go ha hl hc n (i + 1) f (by omega) (by omega)
      · rw [if_neg q2, decide_eq_false q2]
        rfl
theorem near_at {h : aH} {a len : Nat} {g : Nat → Int32} (ha : a < aE) (hl : len < 1000) (hc : h[a]? = some (.inl (.int, len, .inl g))) : s_X1_allNear a h = some (.inl (some (.int (b01 (nrR g 0 len)))), h) := by
  unfold s_X1_allNear
  have e : lnA h (.ref a) = some (jI len) := by simp [lnA, aG, ha, hc, jI]
  rw [e, Option.bind_some]
  exact nr7_go ha (by omega) hc len 0 FU (by omega) (by show len < 1000000; omega)
section
variable {S : Nat → Nat → Int32} {Z : Nat → Nat → Int64} {D Ln : Nat → Nat} {b : Nat} {A : Nat → Nat → Int32} {N : Nat → Int64} {m F : Nat → Nat}
theorem CC.addTerms {h : aH} {V : Nat → Nat → Int32} (C : CC h S V Z D Ln b A N m F) {see : Bool} {r : Nat} (hr : r < 3) (hr2 : see = true → r < 2) {f t i : Nat} (hp : okP2 A f t i (F 20)) (R : okRw V see r (fun _ => 0)) :
    ∃ h' V', s_X1_addTerms 81 (A f i) (A t i) (jI r) (b01 see) h = some (.inl (some (.int (b01 (lnG (A 3) (sgm A f t i) (-1) 0 (fun _ => 0)).isSome))), h') ∧ CC h' S V' Z D Ln b A N m F ∧ Oc D h h' ∧ rwK V V' see r ∧ ∀ P', lnG (A 3) (sgm A f t i) (-1) 0 (fun _ => 0) = some P' → okRw V' see r P' := by
  obtain ⟨x, y, e1, e2, hxy⟩ := hp
  have h60 := C.2.2.1.1.2.2.2.1
  have es : sgm A f t i = seg3 (A 13) (A 14) (A 15) x y := by
    unfold sgm
    rw [e1, e2, jI_cl (by omega), jI_cl (by omega), show x + y - x = y by omega]
  obtain ⟨h', V', e, r1⟩ := at18_go hr hr2 (show x + y ≤ 60 by omega) y x FU h V (-1) 0 (fun _ => 0) rfl (by show y < 1000000; omega) C (Or.inl rfl) R
  rw [es]
  refine ⟨h', V', ?_, r1⟩
  have g0 : gO h (.ref 81) 1 0 = some 3 := gO_of (ltE (by decide)) (C.1.1 81 rfl) rfl
  have g16 : gO h (.ref 3) 2 16 = some 15 := C.2.1.fm
  unfold s_X1_addTerms
  rw [g0, Option.bind_some, g16, Option.bind_some, e1, e2]
  exact e
theorem lk175_go {a : Nat → Nat → Int32} : ∀ (n j f : Nat) (h : aH) (V M : Nat → Nat → Int32), j + n = m 4 → n < f → CC h S V Z D Ln b A N m F → okLn V a M → (∀ r, j ≤ r → M r = fun _ => 0) →
    ∃ h' V', s_X1_look_175 f 81 (jI j) h = some (.inl (some (.int (b01 ((lk2 false A n j M).any fun c => nrM a c)))), h') ∧ CC h' S V' Z D Ln b A N m F ∧ Oc D h h' ∧ Sm [82, 83, 84] V V' ∧ ∀ c, lk2 false A n j M = some c → okLn V' a c
  | _, _, 0, _, _, _, _, hf, _, _, _ => by omega
  | 0, j, f + 1, h, V, M, hn, hf, C, O, hz => by
    have h2 := C.2.2.1.1.1.2.2.2.2
    refine ⟨h, V, ?_, C, Oc.refl, Sm.refl, fun c e => by cases e; exact O⟩
    show s_X1_look_175_b (s_X1_look_175 f) 81 (jI j) h = some (.inl (some (.int (b01 (nrM a M)))), h)
    unfold s_X1_look_175_b
    have g0 : gO h (.ref 81) 1 0 = some 3 := gO_of (ltE (by decide)) (C.1.1 81 rfl) rfl
    have g3 : gO h (.ref 81) 1 3 = some 82 := gO_of (ltE (by decide)) (C.1.1 81 rfl) rfl
    have g4 : gO h (.ref 81) 1 4 = some 83 := gO_of (ltE (by decide)) (C.1.1 81 rfl) rfl
    have g5 : gO h (.ref 81) 1 5 = some 84 := gO_of (ltE (by decide)) (C.1.1 81 rfl) rfl
    have gm : gO h (.ref 3) 2 0 = some 4 := C.2.1.mn
    have l4 : ldI .int h (.ref 4) 4 = some (jI (m 4)) := (C.2.2.1.1.2.1 4 (by decide)) ▸ C.2.1.ldmn (s := 4) (by decide)
    have n1 := near_at (ltE (by decide)) (show 9 < 1000 by decide) (C.1.2.1 82 rfl)
    have n2 := near_at (ltE (by decide)) (show 6 < 1000 by decide) (C.1.2.1 83 rfl)
    have n3 := near_at (ltE (by decide)) (show 6 < 1000 by decide) (C.1.2.1 84 rfl)
    rw [g0, Option.bind_some, gm, Option.bind_some, l4, Option.bind_some, if_pos ((jI_le (by omega) (by omega)).mpr (by omega)), g3, Option.bind_some, n1, ← nrM_of O]
    simp only [cI]
    cases nrR (V 82) 0 9 with
    | false => rfl
    | true =>
      rw [if_neg (show ¬ b01 true = 0 by decide), g4, Option.bind_some, n2]
      simp only []
      cases nrR (V 83) 0 6 with
      | false => rfl
      | true =>
        rw [if_neg (show ¬ b01 true = 0 by decide), g5, Option.bind_some, n3]
        simp only []
        cases nrR (V 84) 0 6 <;> rfl
  | n + 1, j, f + 1, h, V, M, hn, hf, C, O, hz => by
    have h2 := C.2.2.1.1.1.2.2.2.2
    have g0 : gO h (.ref 81) 1 0 = some 3 := gO_of (ltE (by decide)) (C.1.1 81 rfl) rfl
    have gm : gO h (.ref 3) 2 0 = some 4 := C.2.1.mn
    have l4 : ldI .int h (.ref 4) 4 = some (jI (m 4)) := (C.2.2.1.1.2.1 4 (by decide)) ▸ C.2.1.ldmn (s := 4) (by decide)
    have g10 : gO h (.ref 3) 2 10 = some 13 := gO_of (ltE (by decide)) C.2.1.2.1 rfl
    have g11 : gO h (.ref 3) 2 11 = some 14 := gO_of (ltE (by decide)) C.2.1.2.1 rfl
    have l10 : ldI .int h (.ref 13) (jI j) = some (A 10 j) := ldI_of (ltE (by decide)) (C.2.1.2.2.2.2.1 10 (by decide) (by decide)) (show j < 2 by omega) (by decide)
    have l11 : ldI .int h (.ref 14) (jI j) = some (A 11 j) := ldI_of (ltE (by decide)) (C.2.1.2.2.2.2.1 11 (by decide) (by decide)) (show j < 2 by omega) (by decide)
    have hp := C.2.2.1.1.2.2.2.2.2.2.2.2 j (by omega)
    obtain ⟨h1, V1, e1, C1, O1, K1, a1⟩ := C.addTerms (see := true) (r := j) (by omega) (fun _ => by omega) hp (by have := O.2 j (by omega); rw [hz j (Nat.le_refl j)] at this; exact this)
    have start : ∀ {y : aO}, (if b01 (lnG (A 3) (sgm A 10 11 j) (-1) 0 (fun _ => 0)).isSome = 0 then rtZ 0 h1 else s_X1_look_175 f 81 (jI (j + 1)) h1) = y → s_X1_look_175 (f + 1) 81 (jI j) h = y := by
      intro y hy
      show s_X1_look_175_b (s_X1_look_175 f) 81 (jI j) h = _
      unfold s_X1_look_175_b
      have e1' : s_X1_addTerms 81 (A 10 j) (A 11 j) (jI j) 1 h = _ := e1
      rw [g0, Option.bind_some, gm, Option.bind_some, l4, Option.bind_some, if_neg (fun u => by have := (jI_le (by omega) (by omega)).mp u; omega), Option.bind_some, g10, Option.bind_some, l10, Option.bind_some, Option.bind_some, g11, Option.bind_some, l11, Option.bind_some, kO_of (ltE (by decide)) (C.1.1 81 rfl), e1', jI_inc]
      exact hy
    have unf : lk2 false A (n + 1) j M = (lnG (A 3) (sgm A 10 11 j) (-1) 0 (fun _ => 0)).bind fun P => lk2 false A n (j + 1) (upd2 M j P) := rfl
    rw [unf]
    cases ea : lnG (A 3) (sgm A 10 11 j) (-1) 0 (fun _ => 0) with
    | none =>
      refine ⟨h1, V1, start ?_, C1, O1, K1.1, fun c e => by cases e⟩
      rw [ea]
      rfl
    | some P =>
      have O' : okLn V1 a (upd2 M j P) := by
        refine ⟨fun r hr => K1.keepA (O.1 r hr) (Or.inr rfl), fun r hr => ?_⟩
        by_cases q : r = j
        · subst q
          rw [upd2_eq]
          exact a1 P ea
        · rw [upd2_ne q]
          exact K1.keepC (O.2 r hr) (Or.inl q)
      obtain ⟨h', V', e, i1, i2, i3, i4⟩ := lk175_go n (j + 1) f h1 V1 (upd2 M j P) (by omega) (by omega) C1 O' (fun r hr => by rw [upd2_ne (by omega)]; exact hz r (by omega))
      refine ⟨h', V', start ?_, i1, O1.trans i2, K1.1.trans i3, i4⟩
      rw [ea, if_neg (show ¬ b01 (some P).isSome = 0 from fun z => absurd (show b01 true = 0 from z) (by decide))]
      exact e
theorem lk135_go {Q : Nat → Bool} {M : Nat → Nat → Int32} {x : Int32} (hx : ∀ q, q < 3 → bitI x q = Q q) : ∀ (n i f : Nat) (h : aH) (V : Nat → Nat → Int32), i + n = m 0 → n < f → CC h S V Z D Ln b A N m F → okLn V (rwS Q M i) (fun _ _ => 0) →
    ∃ h' V', s_X1_look_135 f 81 x (jI i) h = some (.inl (some (.int (b01 ((lk2 false A (m 4) 0 (fun _ _ => 0)).any fun c => nrM (rwS Q M (m 0)) c)))), h') ∧ CC h' S V' Z D Ln b A N m F ∧ Oc D h h' ∧ Sm [82, 83, 84] V V' ∧ ∀ c, lk2 false A (m 4) 0 (fun _ _ => 0) = some c → okLn V' (rwS Q M (m 0)) c
  | _, _, 0, _, _, _, hf, _, _ => by omega
  | 0, i, f + 1, h, V, hn, hf, C, O => by
    have h3 := C.2.2.1.1.1.1
    have h2 := C.2.2.1.1.1.2.2.2.2
    have g0 : gO h (.ref 81) 1 0 = some 3 := gO_of (ltE (by decide)) (C.1.1 81 rfl) rfl
    have gm : gO h (.ref 3) 2 0 = some 4 := C.2.1.mn
    have l0 : ldI .int h (.ref 4) 0 = some (jI (m 0)) := (C.2.2.1.1.2.1 0 (by decide)) ▸ C.2.1.ldmn (s := 0) (by decide)
    have ei : i = m 0 := by omega
    subst ei
    obtain ⟨h', V', e, r⟩ := lk175_go (m 4) 0 FU h V (fun _ _ => 0) (by omega) (by show m 4 < 1000000; omega) C O (fun _ _ => rfl)
    refine ⟨h', V', ?_, r⟩
    show s_X1_look_135_b (s_X1_look_135 f) 81 x (jI (m 0)) h = _
    unfold s_X1_look_135_b
    rw [g0, Option.bind_some, gm, Option.bind_some, l0, Option.bind_some, if_pos ((jI_le (by omega) (by omega)).mpr (by omega))]
    exact e
  | n + 1, i, f + 1, h, V, hn, hf, C, O => by
    have h3 := C.2.2.1.1.1.1
    have g0 : gO h (.ref 81) 1 0 = some 3 := gO_of (ltE (by decide)) (C.1.1 81 rfl) rfl
    have gm : gO h (.ref 3) 2 0 = some 4 := C.2.1.mn
    have l0 : ldI .int h (.ref 4) 0 = some (jI (m 0)) := (C.2.2.1.1.2.1 0 (by decide)) ▸ C.2.1.ldmn (s := 0) (by decide)
    have hA : ∀ r, r < 3 → (∀ k, k < 3 → V 82 (r * 3 + k) = rwS Q M i r k) ∧ ∀ k, k < 2 → V 83 (r * 2 + k) = rwS Q M i r (3 + k) := O.1
    by_cases q : Q i = true
    · have O' : okLn V (rwS Q M (i + 1)) (fun _ _ => 0) := by
        refine ⟨fun r hr => ?_, O.2⟩
        have : rwS Q M (i + 1) r = rwS Q M i r := rwS_ne (if z : r = i then Or.inr (z ▸ q) else Or.inl z)
        rw [this]
        exact O.1 r hr
      obtain ⟨h', V', e, r⟩ := lk135_go hx n (i + 1) f h V (by omega) (by omega) C O'
      refine ⟨h', V', ?_, r⟩
      show s_X1_look_135_b (s_X1_look_135 f) 81 x (jI i) h = _
      unfold s_X1_look_135_b
      rw [g0, Option.bind_some, gm, Option.bind_some, l0, Option.bind_some, if_neg (fun u => by have := (jI_le (by omega) (by omega)).mp u; omega), if_neg (fun u => by have := (bitI_test (by omega)).mp u; rw [hx i (by omega), q] at this; exact Bool.noConfusion this), jI_inc]
      exact e
    · have qf : Q i = false := by cases hq : Q i with | true => exact absurd hq q | false => rfl
      have g3 : gO h (.ref 81) 1 3 = some 82 := gO_of (ltE (by decide)) (C.1.1 81 rfl) rfl
      have ei : (jI i * 3) + jI i = jI (i * 3 + i) := by rw [show (3 : Int32) = jI 3 from rfl, jI_mul, jI_add]
      obtain ⟨h1, e1, X1, O1⟩ := C.1.st (a := 82) (j := i * 3 + i) rfl (show i * 3 + i < 9 by omega) 1
      have O' : okLn (upd2 V 82 (upd (V 82) (i * 3 + i) 1)) (rwS Q M (i + 1)) (fun _ _ => 0) := by
        refine ⟨fun r hr => ⟨fun k hk => ?_, fun k hk => ?_⟩, fun r hr => ?_⟩
        · rw [upd2_eq]
          by_cases u : r = i
          · subst u
            have e0 := (hA r hr).1 k hk
            unfold rwS at e0 ⊢
            rw [if_neg q, if_neg (by omega)] at e0
            rw [if_neg q, if_pos (by omega)]
            by_cases w : k = r
            · rw [w, upd_eq, if_pos rfl]
            · rw [upd_ne (by omega), e0, if_neg w]
          · rw [upd_ne (by omega), (hA r hr).1 k hk, rwS_ne (Or.inl u)]
        · rw [upd2_ne (by decide), (hA r hr).2 k hk]
          by_cases u : r = i
          · subst u
            unfold rwS
            rw [if_neg q, if_neg q, if_neg (by omega), if_pos (by omega), if_neg (by omega)]
          · rw [rwS_ne (Or.inl u)]
        · show ∀ k, k < 3 → _
          intro k hk
          rw [upd2_ne (by decide)]
          exact O.2 r hr k hk
      obtain ⟨h', V', e, i1, i2, i3, i4⟩ := lk135_go hx n (i + 1) f h1 _ (by omega) (by omega) (C.to X1 O1 rfl) O'
      refine ⟨h', V', ?_, i1, O1.trans i2, (Sm.refl.upd (by decide)).trans i3, i4⟩
      show s_X1_look_135_b (s_X1_look_135 f) 81 x (jI i) h = _
      unfold s_X1_look_135_b
      rw [g0, Option.bind_some, gm, Option.bind_some, l0, Option.bind_some, if_neg (fun u => by have := (jI_le (by omega) (by omega)).mp u; omega), if_pos ((bitI_test (by omega)).mpr (by rw [hx i (by omega)]; exact qf)), g3, Option.bind_some, ei, e1, Option.bind_some, jI_inc]
      exact e
/-- what the class says -/
def lkB (A : Nat → Nat → Int32) (m : Nat → Nat) (x : Option ((Nat → Bool) × (Nat → Nat → Int32))) : Bool := x.any fun q => (lk2 false A (m 4) 0 (fun _ _ => 0)).any fun c => nrM (rwS q.1 q.2 (m 0)) c
theorem lk28_go (hS : okSt A m F) : ∀ (n i f : Nat) (h : aH) (V : Nat → Nat → Int32) (Q : Nat → Bool) (M : Nat → Nat → Int32) (x : Int32), i + n = F 4 → n < f → CC h S V Z D Ln b A N m F → okLn V (rwS Q M 0) (fun _ _ => 0) → (∀ q, q < 3 → bitI x q = Q q) →
    ∃ h' V', s_X1_look_28 f 81 x (jI i) h = some (.inl (some (.int (b01 (lkB A m (lk1 false A n i Q M))))), h') ∧ CC h' S V' Z D Ln b A N m F ∧ Oc D h h' ∧ Sm [82, 83, 84] V V' ∧ ∀ q c, lk1 false A n i Q M = some q → lk2 false A (m 4) 0 (fun _ _ => 0) = some c → okLn V' (rwS q.1 q.2 (m 0)) c
  | _, _, 0, _, _, _, _, _, _, hf, _, _, _ => by omega
  | 0, i, f + 1, h, V, Q, M, x, hn, hf, C, O, hx => by
    have h8 := C.2.2.1.1.2.2.1
    have h3 := C.2.2.1.1.1.1
    have g0 : gO h (.ref 81) 1 0 = some 3 := gO_of (ltE (by decide)) (C.1.1 81 rfl) rfl
    have g4 : gI h (.ref 3) 2 4 = some (jI (F 4)) := gI_of (ltE (by decide)) C.2.1.2.1 rfl
    obtain ⟨h', V', e, r1, r2, r3, r4⟩ := lk135_go (M := M) hx (m 0) 0 FU h V (by omega) (by show m 0 < 1000000; omega) C O
    refine ⟨h', V', ?_, r1, r2, r3, fun q c eq ec => by cases eq; exact r4 c ec⟩
    show s_X1_look_28_b (s_X1_look_28 f) 81 x (jI i) h = _
    unfold s_X1_look_28_b
    rw [g0, Option.bind_some, g4, Option.bind_some, if_pos ((jI_le (by omega) (by omega)).mpr (by omega))]
    exact e
  | n + 1, i, f + 1, h, V, Q, M, x, hn, hf, C, O, hx => by
    have h8 := C.2.2.1.1.2.2.1
    have h3 := C.2.2.1.1.1.1
    have h30 := C.2.2.1.1.2.2.2.2.1
    have g0 : gO h (.ref 81) 1 0 = some 3 := gO_of (ltE (by decide)) (C.1.1 81 rfl) rfl
    have g4 : gI h (.ref 3) 2 4 = some (jI (F 4)) := gI_of (ltE (by decide)) C.2.1.2.1 rfl
    have rw8 : ∀ k : Nat, 5 ≤ k → k ≤ 9 → ldI .int h (.ref (3 + k)) (jI i) = some (A k i) := fun k k1 k2 => by
      have := C.2.1.2.2.2.2.1 k (by omega) (by omega)
      have el : lenM k = 8 := by unfold lenM; rw [if_neg (by omega), if_pos (by omega)]
      rw [el] at this
      exact ldI_of (ltE (by omega)) this (show i < 8 by omega) (by decide)
    have g5 : gO h (.ref 3) 2 5 = some 8 := gO_of (ltE (by decide)) C.2.1.2.1 rfl
    have g6 : gO h (.ref 3) 2 6 = some 9 := gO_of (ltE (by decide)) C.2.1.2.1 rfl
    have g7 : gO h (.ref 3) 2 7 = some 10 := gO_of (ltE (by decide)) C.2.1.2.1 rfl
    have g8 : gO h (.ref 3) 2 8 = some 11 := gO_of (ltE (by decide)) C.2.1.2.1 rfl
    have g9 : gO h (.ref 3) 2 9 = some 12 := gO_of (ltE (by decide)) C.2.1.2.1 rfl
    have l5 : ldI .int h (.ref 8) (jI i) = some (A 5 i) := rw8 5 (by decide) (by decide)
    have l6 : ldI .int h (.ref 9) (jI i) = some (A 6 i) := rw8 6 (by decide) (by decide)
    have l7 : ldI .int h (.ref 10) (jI i) = some (A 7 i) := rw8 7 (by decide) (by decide)
    have l8 : ldI .int h (.ref 11) (jI i) = some (A 8 i) := rw8 8 (by decide) (by decide)
    have l9 : ldI .int h (.ref 12) (jI i) = some (A 9 i) := rw8 9 (by decide) (by decide)
    obtain ⟨hp1, x8, y8, e8, e9, hxy⟩ := C.2.2.1.1.2.2.2.2.2.2.2.1 i (by omega)
    obtain ⟨s, hs, es⟩ := hS i (by omega)
    have ecl : (A 5 i).toNatClampNeg = s := by rw [es, jI_cl (by omega)]
    have emp : (sgo A 8 9 i).isEmpty = decide (y8 = 0) := by
      unfold sgo
      rw [e8, e9, jI_cl (by omega), jI_cl (by omega), show x8 + y8 - x8 = y8 by omega]
      cases y8 <;> rfl
    have unf : lk1 false A (n + 1) i Q M = if (sgo A 8 9 i).isEmpty = true ∧ Q (A 5 i).toNatClampNeg = false then (lnG (A 3) (sgm A 6 7 i) (-1) 0 (fun _ => 0)).bind fun P => lk1 false A n (i + 1) (upd2 Q (A 5 i).toNatClampNeg true) (upd2 M (A 5 i).toNatClampNeg P) else none := rfl
    have start : ∀ {y : aO}, (if y8 = 0 then (if bitI x s = false then (kO h 81 1 (cI (s_X1_addTerms 81 (A 6 i) (A 7 i) (jI s) 0 h) fun x119 h119 => if x119 = 0 then rtZ 0 h119 else s_X1_look_28 f 81 (x ||| (1 <<< (jI s &&& 31))) (jI (i + 1)) h119)) else rtZ 0 h) else rtZ 0 h) = y → s_X1_look_28 (f + 1) 81 x (jI i) h = y := by
      intro y hy
      show s_X1_look_28_b (s_X1_look_28 f) 81 x (jI i) h = _
      unfold s_X1_look_28_b s_X1_look_75
      rw [g0, Option.bind_some, g4, Option.bind_some, if_neg (fun u => by have := (jI_le (by omega) (by omega)).mp u; omega), Option.bind_some, g5, Option.bind_some, l5, Option.bind_some, Option.bind_some, g9, Option.bind_some, l9, Option.bind_some, Option.bind_some, g8, Option.bind_some, l8, Option.bind_some, es, e8, e9]
      by_cases q0 : y8 = 0
      · rw [if_pos q0] at hy
        rw [if_pos ((jI_le (by omega) (by omega)).mpr (by omega)), if_pos rfl]
        by_cases q1 : bitI x s = false
        · rw [if_pos q1] at hy
          rw [if_pos ((bitI_test (by omega)).mpr q1), Option.bind_some, g6, Option.bind_some, l6, Option.bind_some, Option.bind_some, g7, Option.bind_some, l7, Option.bind_some, jI_inc]
          exact hy
        · rw [if_neg q1] at hy
          rw [if_neg (fun u => q1 ((bitI_test (by omega)).mp u))]
          exact hy
      · rw [if_neg q0] at hy
        rw [if_neg (fun u => by have := (jI_le (by omega) (by omega)).mp u; omega), if_neg (by decide)]
        exact hy
    by_cases q0 : y8 = 0
    · by_cases q1 : Q s = false
      · rw [unf, if_pos ⟨by rw [emp, decide_eq_true q0], by rw [ecl]; exact q1⟩, ecl]
        have R0 : okRw V false s (fun _ => 0) := by
          have := O.1 s (by omega)
          unfold rwS at this
          rw [if_neg (by rw [q1]; decide), if_neg (by omega)] at this
          exact this
        obtain ⟨h1, V1, e1, C1, O1, K1, a1⟩ := C.addTerms (see := false) (r := s) (by omega) (fun z => Bool.noConfusion z) hp1 R0
        have e1' : s_X1_addTerms 81 (A 6 i) (A 7 i) (jI s) 0 h = _ := e1
        have start2 : ∀ {y : aO}, (if b01 (lnG (A 3) (sgm A 6 7 i) (-1) 0 (fun _ => 0)).isSome = 0 then rtZ 0 h1 else s_X1_look_28 f 81 (x ||| (1 <<< (jI s &&& 31))) (jI (i + 1)) h1) = y → s_X1_look_28 (f + 1) 81 x (jI i) h = y := by
          intro y hy
          refine start ?_
          rw [if_pos q0, if_pos (by rw [hx s (by omega)]; exact q1), kO_of (ltE (by decide)) (C.1.1 81 rfl), e1']
          exact hy
        cases ea : lnG (A 3) (sgm A 6 7 i) (-1) 0 (fun _ => 0) with
        | none =>
          refine ⟨h1, V1, start2 ?_, C1, O1, K1.1, fun q c eq _ => by cases eq⟩
          rw [ea]
          rfl
        | some P =>
          have O' : okLn V1 (rwS (upd2 Q s true) (upd2 M s P) 0) (fun _ _ => 0) := by
            refine ⟨fun r hr => ?_, fun r hr => K1.keepC (O.2 r hr) (Or.inr rfl)⟩
            by_cases q : r = s
            · subst q
              unfold rwS
              rw [upd2_eq, if_pos rfl, upd2_eq]
              exact a1 P ea
            · have : rwS (upd2 Q s true) (upd2 M s P) 0 r = rwS Q M 0 r := by
                unfold rwS
                rw [upd2_ne q, upd2_ne q]
              rw [this]
              exact K1.keepA (O.1 r hr) (Or.inl q)
          obtain ⟨h', V', e, i1, i2, i3, i4⟩ := lk28_go hS n (i + 1) f h1 V1 (upd2 Q s true) (upd2 M s P) (x ||| (1 <<< (jI s &&& 31))) (by omega) (by omega) C1 O' (fun q hq => by
            rw [bitI_or1 (by omega) (by omega), hx q hq]
            by_cases u : q = s
            · rw [u, upd2_eq, decide_eq_true rfl, Bool.or_true]
            · rw [upd2_ne u, decide_eq_false u, Bool.or_false])
          refine ⟨h', V', start2 ?_, i1, O1.trans i2, K1.1.trans i3, i4⟩
          rw [ea, if_neg (show ¬ b01 (some P).isSome = 0 from fun z => absurd (show b01 true = 0 from z) (by decide))]
          exact e
      · rw [unf, if_neg (fun z => q1 (by rw [← ecl]; exact z.2))]
        refine ⟨h, V, start ?_, C, Oc.refl, Sm.refl, fun q c eq _ => by cases eq⟩
        rw [if_pos q0, if_neg (by rw [hx s (by omega)]; exact q1)]
        rfl
    · rw [unf, if_neg (fun z => q0 (by have := z.1; rw [emp, decide_eq_true_iff] at this; exact this))]
      refine ⟨h, V, start ?_, C, Oc.refl, Sm.refl, fun q c eq _ => by cases eq⟩
      rw [if_neg q0]
      rfl
theorem CC.look {h : aH} {V : Nat → Nat → Int32} (C : CC h S V Z D Ln b A N m F) (hS : okSt A m F) :
    ∃ h' V', s_X1_look 81 h = some (.inl (some (.int (b01 ((lin false A m F).any fun x => nrM x.1 x.2)))), h') ∧ CC h' S V' Z D Ln b A N m F ∧ Oc D h h' ∧ Sm [82, 83, 84] V V' ∧ ∀ a c, lin false A m F = some (a, c) → okLn V' a c := by
  have h8 := C.2.2.1.1.2.2.1
  obtain ⟨h1, e1, C1, O1⟩ := C.fill13 (a := 82) rfl (n := 9) rfl 0
  obtain ⟨h2, e2, C2, O2⟩ := C1.fill13 (a := 83) rfl (n := 6) rfl 0
  obtain ⟨h3, e3, C3, O3⟩ := C2.fill13 (a := 84) rfl (n := 6) rfl 0
  obtain ⟨V3, hV3⟩ : ∃ V3, V3 = upd2 (upd2 (upd2 V 82 (filF (V 82) 0 9 0)) 83 (filF (upd2 V 82 (filF (V 82) 0 9 0) 83) 0 6 0)) 84 (filF (upd2 (upd2 V 82 (filF (V 82) 0 9 0)) 83 (filF (upd2 V 82 (filF (V 82) 0 9 0) 83) 0 6 0) 84) 0 6 0) := ⟨_, rfl⟩
  rw [← hV3] at C3
  have v82 : ∀ j, j < 9 → V3 82 j = 0 := fun j hj => by rw [hV3, upd2_ne (by decide), upd2_ne (by decide), upd2_eq]; exact if_pos ⟨Nat.zero_le j, hj⟩
  have v83 : ∀ j, j < 6 → V3 83 j = 0 := fun j hj => by rw [hV3, upd2_ne (by decide), upd2_eq]; exact if_pos ⟨Nat.zero_le j, hj⟩
  have v84 : ∀ j, j < 6 → V3 84 j = 0 := fun j hj => by rw [hV3, upd2_eq]; exact if_pos ⟨Nat.zero_le j, hj⟩
  have sm3 : Sm [82, 83, 84] V V3 := by rw [hV3]; exact ((Sm.refl.upd (by decide)).upd (by decide)).upd (by decide)
  have O0 : okLn V3 (rwS (fun _ => false) (fun _ _ => 0) 0) (fun _ _ => 0) := by
    refine ⟨fun r hr => ?_, fun r hr => fun k hk => v84 _ (by omega)⟩
    have : rwS (fun _ => false) (fun _ _ => 0) 0 r = fun _ => 0 := by
      unfold rwS
      rw [if_neg Bool.false_ne_true, if_neg (by omega)]
    rw [this]
    exact ⟨fun k hk => v82 _ (by omega), fun k hk => v83 _ (by omega)⟩
  obtain ⟨h', V', e, i1, i2, i3, i4⟩ := lk28_go hS (F 4) 0 FU h3 V3 (fun _ => false) (fun _ _ => 0) 0 (by omega) (by show F 4 < 1000000; omega) C3 O0 (fun q hq => bitI_00 (by omega))
  have g3 : ∀ {h : aH} {V : Nat → Nat → Int32}, CC h S V Z D Ln b A N m F → gO h (.ref 81) 1 3 = some 82 ∧ gO h (.ref 81) 1 4 = some 83 ∧ gO h (.ref 81) 1 5 = some 84 := fun C => ⟨gO_of (ltE (by decide)) (C.1.1 81 rfl) rfl, gO_of (ltE (by decide)) (C.1.1 81 rfl) rfl, gO_of (ltE (by decide)) (C.1.1 81 rfl) rfl⟩
  have ans : lkB A m (lk1 false A (F 4) 0 (fun _ => false) (fun _ _ => 0)) = (lin false A m F).any fun x => nrM x.1 x.2 := by
    unfold lkB lin
    cases lk1 false A (F 4) 0 (fun _ => false) (fun _ _ => 0) with
    | none => rfl
    | some q => cases lk2 false A (m 4) 0 (fun _ _ => 0) <;> rfl
  refine ⟨h', V', ?_, i1, ((O1.trans O2).trans O3).trans i2, sm3.trans i3, fun a c eq => ?_⟩
  · unfold s_X1_look
    rw [(g3 C).1, Option.bind_some, e1]
    simp only [cN]
    rw [(g3 C1).2.1, Option.bind_some, e2]
    simp only []
    rw [(g3 C2).2.2, Option.bind_some, e3, ← ans]
    exact e
  · unfold lin at eq
    cases e5 : lk1 false A (F 4) 0 (fun _ => false) (fun _ _ => 0) with
    | none => rw [e5] at eq; cases eq
    | some q =>
      cases e6 : lk2 false A (m 4) 0 (fun _ _ => 0) with
      | none => rw [e5, e6] at eq; cases eq
      | some c' =>
        rw [e5, e6] at eq
        cases eq
        exact i4 q c e5 e6
end
