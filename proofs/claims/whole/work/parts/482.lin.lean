/-! the two answers are one -/
section
variable {wd : Int64} {t : Nat} {fv nv : Value} {A : Nat → Nat → Int32} {m F : Nat → Nat} {B : Nat → Nat → Int32} {W : Nat → Int64} {G : Nat → Nat}
theorem li58_go : ∀ (n i f : Nat) (h : aH) (S : Nat → Int32) (V : Nat → Nat → Int32) (Z : Nat → Nat → Int64), i + n = 6 → n < f → RC h S wd t fv nv V Z A m F B W G → (∀ k, k < i → V 164 k = 0 ∧ V 165 k = 0) →
    ∃ h' V', s_X14_isLinear_58 f 104 (jI i) h = s_X14_isLinear_88 FU 104 0 0 h' ∧ RC h' S wd t fv nv V' Z A m F B W G ∧ Ou h h' ∧ Sm [164, 165] V V' ∧ ∀ k, k < 6 → V' 164 k = 0 ∧ V' 165 k = 0
  | _, _, 0, _, _, _, _, _, hf, _, _ => by omega
  | 0, i, f + 1, h, S, V, Z, hn, hf, C, hz => by
    refine ⟨h, V, ?_, C, Ou.refl, Sm.refl, fun k hk => hz k (by omega)⟩
    show s_X14_isLinear_58_b (s_X14_isLinear_58 f) 104 (jI i) h = _
    unfold s_X14_isLinear_58_b
    rw [if_pos (show (6 : Int32) ≤ jI i from (jI_le (j := 6) (by omega) (by omega)).mpr (by omega))]
  | n + 1, i, f + 1, h, S, V, Z, hn, hf, C, hz => by
    have g46 : gO h (.ref 104) 14 46 = some 164 := gO_of (ltE (by decide)) C.1.1 rfl
    obtain ⟨h1, e1, X1, O1⟩ := C.1.st (a := 164) (j := i) rfl rfl (show i < 6 by omega) 0
    have C1 := C.to X1 O1
    have g47 : gO h1 (.ref 104) 14 47 = some 165 := gO_of (ltE (by decide)) C1.1.1 rfl
    obtain ⟨h2, e2, X2, O2⟩ := C1.1.st (a := 165) (j := i) rfl rfl (show i < 6 by omega) 0
    obtain ⟨h', V', i1, i2, i3, i4, i5⟩ := li58_go n (i + 1) f h2 S _ Z (by omega) (by omega) (C1.to X2 O2) (fun k hk => by
      rw [upd2_ne (show (164 : Nat) ≠ 165 by decide), upd2_eq, upd2_eq, upd2_ne (by decide)]
      by_cases u : k = i
      · rw [u, upd_eq, upd_eq]; exact ⟨rfl, rfl⟩
      · rw [upd_ne u, upd_ne u]; exact hz k (by omega))
    refine ⟨h', V', ?_, i2, (O1.trans O2).trans i3, ((Sm.refl.upd (by decide)).upd (by decide)).trans i4, i5⟩
    show s_X14_isLinear_58_b (s_X14_isLinear_58 f) 104 (jI i) h = _
    unfold s_X14_isLinear_58_b
    rw [if_neg (fun u => by have := (jI_le (j := 6) (by omega) (by omega)).mp u; omega), g46, Option.bind_some, e1, Option.bind_some, g47, Option.bind_some, e2, Option.bind_some, jI_inc]
    exact i1
def idV (m0 j : Nat) : Int32 := if j / 3 = j % 3 ∧ j / 3 < m0 then 1 else 0
theorem li17_go {m0 : Nat} (hm : m0 ≤ 3) : ∀ (n i f : Nat) (h : aH) (S : Nat → Int32) (V : Nat → Nat → Int32) (Z : Nat → Nat → Int64), i + n = 9 → n < f → RC h S wd t fv nv V Z A m F B W G → (∀ k, k < i → V 163 k = idV m0 k) →
    ∃ h' V', s_X14_isLinear_17 f 104 (jI m0) (jI i) h = s_X14_isLinear_58 FU 104 0 h' ∧ RC h' S wd t fv nv V' Z A m F B W G ∧ Ou h h' ∧ Sm [163] V V' ∧ ∀ k, k < 9 → V' 163 k = idV m0 k
  | _, _, 0, _, _, _, _, _, hf, _, _ => by omega
  | 0, i, f + 1, h, S, V, Z, hn, hf, C, hz => by
    refine ⟨h, V, ?_, C, Ou.refl, Sm.refl, fun k hk => hz k (by omega)⟩
    show s_X14_isLinear_17_b (s_X14_isLinear_17 f) 104 (jI m0) (jI i) h = _
    unfold s_X14_isLinear_17_b
    rw [if_pos (show (9 : Int32) ≤ jI i from (jI_le (j := 9) (by omega) (by omega)).mpr (by omega))]
  | n + 1, i, f + 1, h, S, V, Z, hn, hf, C, hz => by
    have g45 : gO h (.ref 104) 14 45 = some 163 := gO_of (ltE (by decide)) C.1.1 rfl
    obtain ⟨h1, e1, X1, O1⟩ := C.1.st (a := 163) (j := i) rfl rfl (show i < 9 by omega) (idV m0 i)
    obtain ⟨h', V', i1, i2, i3, i4, i5⟩ := li17_go hm n (i + 1) f h1 S _ Z (by omega) (by omega) (C.to X1 O1) (fun k hk => by
      rw [upd2_eq]
      by_cases u : k = i
      · rw [u, upd_eq]
      · rw [upd_ne u]; exact hz k (by omega))
    refine ⟨h', V', ?_, i2, O1.trans i3, (Sm.refl.upd (by decide)).trans i4, i5⟩
    have d3 : jI i / 3 = jI (i / 3) := jI_div (w := 3) (by omega) (by decide) (by decide)
    have m3 : jI i - jI i / 3 * 3 = jI (i % 3) := jI_mod (w := 3) (by omega) (by decide) (by decide)
    have tail : ∀ x : Int32, x = idV m0 i → s_X14_isLinear_49 (s_X14_isLinear_17 f) 104 (jI m0) (jI i) x (jI i) 163 h = s_X14_isLinear_58 FU 104 0 h' := by
      intro x hx
      subst hx
      unfold s_X14_isLinear_49
      rw [e1, Option.bind_some, jI_inc]
      exact i1
    show s_X14_isLinear_17_b (s_X14_isLinear_17 f) 104 (jI m0) (jI i) h = _
    unfold s_X14_isLinear_17_b s_X14_isLinear_48
    rw [if_neg (fun u => by have := (jI_le (j := 9) (by omega) (by omega)).mp u; omega), g45, Option.bind_some, nz_of (by decide), nz_of (by decide), nz_of (by decide), m3, d3]
    by_cases u : i / 3 = i % 3
    · rw [if_pos (by rw [u])]
      by_cases w : i / 3 < m0
      · rw [if_neg (fun z => by have := (jI_le (by omega) (by omega)).mp z; omega)]
        exact tail 1 (by unfold idV; rw [if_pos ⟨u, w⟩])
      · rw [if_pos ((jI_le (by omega) (by omega)).mpr (by omega))]
        exact tail 0 (by unfold idV; rw [if_neg (fun z => w z.2)])
    · rw [if_neg (fun z => u ((jI_inj (by omega) (by omega)).mp z))]
      exact tail 0 (by unfold idV; rw [if_neg (fun z => u z.1)])
theorem RC.isLinear {h : aH} {S : Nat → Int32} {V : Nat → Nat → Int32} {Z : Nat → Nat → Int64} (C : RC h S wd t fv nv V Z A m F B W G) (hSt : okSt A m F) :
    ∃ h' V' Z', s_X14_isLinear 104 h = some (.inl (some (.int (b01 (lin true A m F).isSome))), h') ∧ RC h' (upd S 50 (b01 (lin true A m F).isSome)) wd t fv nv V' Z' A m F B W G ∧ Ou h h' ∧ Sm [163, 164, 165, 166] V V' ∧ SmZ [162, 167] Z Z' ∧ ∀ a c, lin true A m F = some (a, c) → okLr V' a c := by
  have K := C.2.2.2.2.1
  have h3 := K.1.1.1
  have h8 := K.1.2.2.1
  have hT := C.2.1.1
  obtain ⟨h0, e0, C0, O0⟩ := C.pl true
  have g4 : gO h0 (.ref 104) 14 4 = some t := gO_of (ltE (by decide)) C0.1.1 rfl
  have g0 : gO h0 (.ref t) 13 0 = some (t + 1) := gO_of (by omega) C0.2.1.2.1 rfl
  have l0 : ldI .int h0 (.ref (t + 1)) 0 = some (jI (m 0)) := (C.2.2.2.1.1 0 (by decide)) ▸ C0.2.1.ld (j := 0) (by decide) (by decide) (by decide) (by decide)
  obtain ⟨h1, V1, e1, C1, O1, s1, v1⟩ := li17_go (m0 := m 0) h3 9 0 FU h0 _ V Z rfl (by decide) C0 (fun k hk => absurd hk (Nat.not_lt_zero k))
  obtain ⟨h2, V2, e2, C2, O2, s2, v2⟩ := li58_go 6 0 FU h1 _ V1 Z rfl (by decide) C1 (fun k hk => absurd hk (Nat.not_lt_zero k))
  obtain ⟨h', V', Z', i1, i2, i3, i4, i5, i6⟩ := li88_go hSt (F 4) 0 FU h2 _ V2 Z (fun _ => false) (fun _ _ => 0) 0 true (by omega) (by show F 4 < 1000000; omega) C2 upd_eq (fun _ => by
    refine ⟨fun r hr => ⟨fun k hk => ?_, fun k hk => ?_⟩, fun r hr k hk => (v2 _ (by omega)).2⟩
    · rw [s2 163 (by decide), v1 _ (by omega)]
      unfold idV rwS
      rw [if_neg Bool.false_ne_true, show (3 * r + k) / 3 = r by omega, show (3 * r + k) % 3 = k by omega]
      by_cases u : r < m 0
      · rw [if_pos u]
        by_cases w : k = r
        · rw [if_pos ⟨w.symm, u⟩, if_pos w]
        · rw [if_neg (fun z => w z.1.symm), if_neg w]
      · rw [if_neg u, if_neg (fun z => u z.2)]
    · rw [(v2 _ (by omega)).1]
      unfold rwS
      rw [if_neg Bool.false_ne_true]
      by_cases u : r < m 0
      · rw [if_pos u, if_neg (by omega)]
      · rw [if_neg u]) (fun _ s hs => bitI_00 (by omega))
  rw [upd_tw, Bool.true_and] at i2
  rw [Bool.true_and] at i1
  have ans : ((lk1 true A (F 4) 0 (fun _ => false) (fun _ _ => 0)).isSome && (lk2 true A (m 4) 0 (fun _ _ => 0)).isSome) = (lin true A m F).isSome := by
    unfold lin
    cases lk1 true A (F 4) 0 (fun _ => false) (fun _ _ => 0) with
    | none => rfl
    | some q => cases lk2 true A (m 4) 0 (fun _ _ => 0) <;> rfl
  rw [ans] at i1 i2
  refine ⟨h', V', Z', ?_, i2, ((O0.trans O1).trans O2).trans i3, ((s1.mono (by decide)).trans (s2.mono (by decide))).trans i4, i5, fun a c eq => ?_⟩
  · unfold s_X14_isLinear
    have e0' : pZ h (.ref 104) 14 50 1 = some h0 := e0
    rw [e0', Option.bind_some, g4, Option.bind_some, g0, Option.bind_some, l0, Option.bind_some]
    exact e1.trans (e2.trans i1)
  · unfold lin at eq
    cases e5 : lk1 true A (F 4) 0 (fun _ => false) (fun _ _ => 0) with
    | none => rw [e5] at eq; cases eq
    | some q =>
      cases e6 : lk2 true A (m 4) 0 (fun _ _ => 0) with
      | none => rw [e5, e6] at eq; cases eq
      | some c' =>
        rw [e5, e6] at eq
        cases eq
        exact i6 rfl q c e5 e6
end
/-! near row by row, or near in the end -/
theorem lk1_keep {A : Nat → Nat → Int32} : ∀ (n i : Nat) (Q : Nat → Bool) (M : Nat → Nat → Int32) (y : (Nat → Bool) × (Nat → Nat → Int32)), lk1 false A n i Q M = some y → ∀ s, Q s = true → y.1 s = true ∧ y.2 s = M s
  | 0, i, Q, M, y, e, s, h => by
    have e' : some (Q, M) = some y := e
    cases e'
    exact ⟨h, rfl⟩
  | n + 1, i, Q, M, y, e, s, h => by
    obtain ⟨s', hs⟩ : ∃ s, s = (A 5 i).toNatClampNeg := ⟨_, rfl⟩
    have u2 : lk1 false A (n + 1) i Q M = if (sgo A 8 9 i).isEmpty = true ∧ Q s' = false then (lnG (A 3) (sgm A 6 7 i) (-1) 0 (fun _ => 0)).bind fun P => lk1 false A n (i + 1) (upd2 Q s' true) (upd2 M s' P) else none := by rw [hs]; rfl
    rw [u2] at e
    by_cases cnd : (sgo A 8 9 i).isEmpty = true ∧ Q s' = false
    · rw [if_pos cnd] at e
      cases eP : lnG (A 3) (sgm A 6 7 i) (-1) 0 (fun _ => 0) with
      | none => rw [eP] at e; cases e
      | some P =>
        rw [eP, Option.bind_some] at e
        have ne : s ≠ s' := fun z => by rw [z, cnd.2] at h; exact Bool.noConfusion h
        have := lk1_keep n (i + 1) _ _ y e s (by rw [upd2_ne ne]; exact h)
        rw [upd2_ne ne] at this
        exact this
    · rw [if_neg cnd] at e; cases e
theorem lk1_tf {A : Nat → Nat → Int32} : ∀ (n i : Nat) (Q : Nat → Bool) (M : Nat → Nat → Int32) (y : (Nat → Bool) × (Nat → Nat → Int32)),
    lk1 true A n i Q M = some y ↔ lk1 false A n i Q M = some y ∧ (∀ s, y.1 s = true → Q s = false → nrR (y.2 s) 0 5 = true)
  | 0, i, Q, M, y => by
    constructor
    · intro e
      have e' : some (Q, M) = some y := e
      cases e'
      exact ⟨rfl, fun s h1 h2 => by rw [show Q s = true from h1] at h2; exact Bool.noConfusion h2⟩
    · exact fun z => z.1
  | n + 1, i, Q, M, y => by
    obtain ⟨s, hs⟩ : ∃ s, s = (A 5 i).toNatClampNeg := ⟨_, rfl⟩
    have u1 : lk1 true A (n + 1) i Q M = if (sgo A 8 9 i).isEmpty = true ∧ Q s = false then (lnG (A 3) (sgm A 6 7 i) (-1) 0 (fun _ => 0)).bind fun P => if true = true ∧ nrR P 0 5 = false then none else lk1 true A n (i + 1) (upd2 Q s true) (upd2 M s P) else none := by rw [hs]; rfl
    have u2 : lk1 false A (n + 1) i Q M = if (sgo A 8 9 i).isEmpty = true ∧ Q s = false then (lnG (A 3) (sgm A 6 7 i) (-1) 0 (fun _ => 0)).bind fun P => lk1 false A n (i + 1) (upd2 Q s true) (upd2 M s P) else none := by rw [hs]; rfl
    rw [u1, u2]
    by_cases cnd : (sgo A 8 9 i).isEmpty = true ∧ Q s = false
    · rw [if_pos cnd, if_pos cnd]
      cases eP : lnG (A 3) (sgm A 6 7 i) (-1) 0 (fun _ => 0) with
      | none => exact ⟨fun z => (by cases z), fun z => (by cases z.1)⟩
      | some P =>
        rw [Option.bind_some, Option.bind_some]
        have ih := lk1_tf (A := A) n (i + 1) (upd2 Q s true) (upd2 M s P) y
        have keep : lk1 false A n (i + 1) (upd2 Q s true) (upd2 M s P) = some y → y.1 s = true ∧ y.2 s = P := fun z => by
          have := lk1_keep n (i + 1) (upd2 Q s true) (upd2 M s P) y z s upd2_eq
          rw [upd2_eq] at this
          exact this
        cases nP : nrR P 0 5 with
        | false =>
          rw [if_pos ⟨rfl, rfl⟩]
          refine ⟨fun z => (by cases z), fun z => ?_⟩
          obtain ⟨k1, k2⟩ := keep z.1
          have := z.2 s k1 cnd.2
          rw [k2, nP] at this
          exact Bool.noConfusion this
        | true =>
          rw [if_neg (fun z => Bool.noConfusion z.2), ih]
          constructor
          · rintro ⟨z1, z2⟩
            refine ⟨z1, fun s' h1 h2 => ?_⟩
            by_cases u : s' = s
            · rw [u, (keep z1).2]; exact nP
            · exact z2 s' h1 (by rw [upd2_ne u]; exact h2)
          · rintro ⟨z1, z2⟩
            refine ⟨z1, fun s' h1 h2 => ?_⟩
            by_cases u : s' = s
            · rw [u, upd2_eq] at h2; exact Bool.noConfusion h2
            · rw [upd2_ne u] at h2; exact z2 s' h1 h2
    · rw [if_neg cnd, if_neg cnd]
      exact ⟨fun z => (by cases z), fun z => (by cases z.1)⟩
theorem lk2_keep {A : Nat → Nat → Int32} : ∀ (n j : Nat) (M c : Nat → Nat → Int32), lk2 false A n j M = some c → ∀ r, (r < j ∨ j + n ≤ r) → c r = M r
  | 0, j, M, c, e, r, h => by
    have e' : some M = some c := e
    cases e'
    rfl
  | n + 1, j, M, c, e, r, h => by
    have u2 : lk2 false A (n + 1) j M = (lnG (A 3) (sgm A 10 11 j) (-1) 0 (fun _ => 0)).bind fun P => lk2 false A n (j + 1) (upd2 M j P) := rfl
    rw [u2] at e
    cases eP : lnG (A 3) (sgm A 10 11 j) (-1) 0 (fun _ => 0) with
    | none => rw [eP] at e; cases e
    | some P =>
      rw [eP, Option.bind_some] at e
      have := lk2_keep n (j + 1) _ c e r (by omega)
      rw [upd2_ne (by omega)] at this
      exact this
theorem lk2_tf {A : Nat → Nat → Int32} : ∀ (n j : Nat) (M c : Nat → Nat → Int32), lk2 true A n j M = some c ↔ lk2 false A n j M = some c ∧ ∀ r, j ≤ r → r < j + n → nrR (c r) 0 3 = true
  | 0, j, M, c => ⟨fun e => ⟨e, fun r h1 h2 => by omega⟩, fun z => z.1⟩
  | n + 1, j, M, c => by
    have u1 : lk2 true A (n + 1) j M = (lnG (A 3) (sgm A 10 11 j) (-1) 0 (fun _ => 0)).bind fun P => if true = true ∧ nrR P 0 3 = false then none else lk2 true A n (j + 1) (upd2 M j P) := rfl
    have u2 : lk2 false A (n + 1) j M = (lnG (A 3) (sgm A 10 11 j) (-1) 0 (fun _ => 0)).bind fun P => lk2 false A n (j + 1) (upd2 M j P) := rfl
    rw [u1, u2]
    cases eP : lnG (A 3) (sgm A 10 11 j) (-1) 0 (fun _ => 0) with
    | none => exact ⟨fun z => (by cases z), fun z => (by cases z.1)⟩
    | some P =>
      rw [Option.bind_some, Option.bind_some]
      have keep : lk2 false A n (j + 1) (upd2 M j P) = some c → c j = P := fun z => by
        have := lk2_keep n (j + 1) _ c z j (by omega)
        rw [upd2_eq] at this
        exact this
      cases nP : nrR P 0 3 with
      | false =>
        rw [if_pos ⟨rfl, rfl⟩]
        refine ⟨fun z => (by cases z), fun z => ?_⟩
        have := z.2 j (Nat.le_refl j) (by omega)
        rw [keep z.1, nP] at this
        exact Bool.noConfusion this
      | true =>
        rw [if_neg (fun z => Bool.noConfusion z.2), lk2_tf n (j + 1)]
        constructor
        · rintro ⟨z1, z2⟩
          refine ⟨z1, fun r h1 h2 => ?_⟩
          by_cases u : r = j
          · rw [u, keep z1]; exact nP
          · exact z2 r (by omega) (by omega)
        · rintro ⟨z1, z2⟩
          exact ⟨z1, fun r h1 h2 => z2 r (by omega) (by omega)⟩
theorem nr_unit {i n k : Nat} : nrR (fun j => if j = k then 1 else 0) i n = true := (nrR_iff n i).mpr fun j hj => by
  by_cases u : i + j = k
  · show -20 ≤ (if i + j = k then (1 : Int32) else 0) ∧ (if i + j = k then (1 : Int32) else 0) ≤ 20
    rw [if_pos u]; decide
  · show -20 ≤ (if i + j = k then (1 : Int32) else 0) ∧ (if i + j = k then (1 : Int32) else 0) ≤ 20
    rw [if_neg u]; decide
theorem nr_zero {i n : Nat} : nrR (fun _ => 0) i n = true := (nrR_iff n i).mpr fun j hj => by decide
/-- told rows are rows of states -/
theorem lk1_dom {A : Nat → Nat → Int32} {m F : Nat → Nat} (hS : okSt A m F) (h3 : m 0 ≤ 3) : ∀ (n i : Nat) (Q : Nat → Bool) (M : Nat → Nat → Int32) (y : (Nat → Bool) × (Nat → Nat → Int32)), i + n = F 4 → lk1 false A n i Q M = some y → (∀ s, Q s = true → s < 3) → ∀ s, y.1 s = true → s < 3
  | 0, i, Q, M, y, _, e, hQ, s, h => by
    have e' : some (Q, M) = some y := e
    cases e'
    exact hQ s h
  | n + 1, i, Q, M, y, hi, e, hQ, s, h => by
    obtain ⟨s', hs', es⟩ := hS i (by omega)
    have ecl : (A 5 i).toNatClampNeg = s' := by rw [es, jI_cl (by omega)]
    have u2 : lk1 false A (n + 1) i Q M = if (sgo A 8 9 i).isEmpty = true ∧ Q s' = false then (lnG (A 3) (sgm A 6 7 i) (-1) 0 (fun _ => 0)).bind fun P => lk1 false A n (i + 1) (upd2 Q s' true) (upd2 M s' P) else none := by rw [← ecl]; rfl
    rw [u2] at e
    by_cases cnd : (sgo A 8 9 i).isEmpty = true ∧ Q s' = false
    · rw [if_pos cnd] at e
      cases eP : lnG (A 3) (sgm A 6 7 i) (-1) 0 (fun _ => 0) with
      | none => rw [eP] at e; cases e
      | some P =>
        rw [eP, Option.bind_some] at e
        exact lk1_dom hS h3 n (i + 1) _ _ y (by omega) e (fun r hr => by
          by_cases u : r = s'
          · omega
          · rw [upd2_ne u] at hr; exact hQ r hr) s h
    · rw [if_neg cnd] at e; cases e
theorem lin_tf {A : Nat → Nat → Int32} {m F : Nat → Nat} (hS : okSt A m F) (h3 : m 0 ≤ 3) (h2 : m 4 ≤ 2) (x : (Nat → Nat → Int32) × (Nat → Nat → Int32)) : lin true A m F = some x ↔ lin false A m F = some x ∧ nrM x.1 x.2 = true := by
  unfold lin
  have t1 := lk1_tf (A := A) (F 4) 0 (fun _ => false) (fun _ _ => 0)
  have t2 := lk2_tf (A := A) (m 4) 0 (fun _ _ => 0)
  constructor
  · intro e
    cases e5 : lk1 true A (F 4) 0 (fun _ => false) (fun _ _ => 0) with
    | none => rw [e5] at e; cases e
    | some q =>
      cases e6 : lk2 true A (m 4) 0 (fun _ _ => 0) with
      | none => rw [e5, e6] at e; cases e
      | some c =>
        rw [e5, e6] at e
        have e' : some (rwS q.1 q.2 (m 0), c) = some x := e
        cases e'
        obtain ⟨f1, f2⟩ := (t1 q).mp e5
        obtain ⟨f3, f4⟩ := (t2 c).mp e6
        rw [f1, f3]
        refine ⟨rfl, nrM_iff.mpr ⟨fun s hs => ?_, fun j hj => ?_⟩⟩
        · show nrR (rwS q.1 q.2 (m 0) s) 0 5 = true
          unfold rwS
          by_cases u : q.1 s = true
          · rw [if_pos u]; exact f2 s u rfl
          · rw [if_neg u]
            by_cases w : s < m 0
            · rw [if_pos w]; exact nr_unit
            · rw [if_neg w]; exact nr_zero
        · by_cases u : j < m 4
          · exact f4 j (Nat.zero_le j) (by omega)
          · have := lk2_keep (m 4) 0 (fun _ _ => 0) c f3 j (by omega)
            show nrR (c j) 0 3 = true
            rw [this]; exact nr_zero
  · rintro ⟨e, en⟩
    cases e5 : lk1 false A (F 4) 0 (fun _ => false) (fun _ _ => 0) with
    | none => rw [e5] at e; cases e
    | some q =>
      cases e6 : lk2 false A (m 4) 0 (fun _ _ => 0) with
      | none => rw [e5, e6] at e; cases e
      | some c =>
        rw [e5, e6] at e
        have e' : some (rwS q.1 q.2 (m 0), c) = some x := e
        cases e'
        obtain ⟨n1, n2⟩ := nrM_iff.mp en
        have f1 := (t1 q).mpr ⟨e5, fun s h1 _ => by
          have hs3 := lk1_dom hS h3 (F 4) 0 _ _ q (by omega) e5 (fun s z => Bool.noConfusion z) s h1
          have := n1 s hs3
          have e : rwS q.1 q.2 (m 0) s = q.2 s := if_pos h1
          rw [← e]
          exact this⟩
        have f2 := (t2 c).mpr ⟨e6, fun r _ hr => n2 r (by omega)⟩
        rw [f1, f2]
        rfl
/-- linear or not: one answer -/
theorem lin_ans {A : Nat → Nat → Int32} {m F : Nat → Nat} (hS : okSt A m F) (h3 : m 0 ≤ 3) (h2 : m 4 ≤ 2) : ((lin false A m F).any fun x => nrM x.1 x.2) = (lin true A m F).isSome := by
  have k := lin_tf hS h3 h2
  cases e1 : lin true A m F with
  | some x =>
    obtain ⟨a, c⟩ := (k x).mp e1
    rw [a]
    exact c
  | none =>
    cases e2 : lin false A m F with
    | none => rfl
    | some x =>
      show nrM x.1 x.2 = false
      cases hn : nrM x.1 x.2 with
      | false => rfl
      | true =>
        have := (k x).mpr ⟨e2, hn⟩
        rw [e1] at this
        cases this
