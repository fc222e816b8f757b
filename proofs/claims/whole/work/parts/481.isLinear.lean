/-! is a thing linear: the reference's answer -/
def okRr (V : Nat → Nat → Int32) (r : Nat) (P : Nat → Int32) : Prop := (∀ k, k < 3 → V 163 (3 * r + k) = P k) ∧ ∀ k, k < 2 → V 164 (2 * r + k) = P (3 + k)
def okRd (V : Nat → Nat → Int32) (r : Nat) (P : Nat → Int32) : Prop := ∀ k, k < 3 → V 165 (3 * r + k) = P k
def okLr (V : Nat → Nat → Int32) (a c : Nat → Nat → Int32) : Prop := (∀ r, r < 3 → okRr V r (a r)) ∧ ∀ r, r < 2 → okRd V r (c r)
section
variable {wd : Int64} {t : Nat} {fv nv : Value} {A : Nat → Nat → Int32} {m F : Nat → Nat} {B : Nat → Nat → Int32} {W : Nat → Int64} {G : Nat → Nat}
theorem sgm_len {f t' i : Nat} {M : Nat} (hp : okP2 A f t' i M) (hM : M ≤ 60) : (sgm A f t' i).length ≤ 60 := by
  obtain ⟨x, y, e1, e2, hxy⟩ := hp
  unfold sgm
  rw [seg3_len, e1, e2, jI_cl (by omega), jI_cl (by omega)]
  omega
theorem li266_go {a : Nat → Nat → Int32} : ∀ (n j f : Nat) (h : aH) (S : Nat → Int32) (V : Nat → Nat → Int32) (Z : Nat → Nat → Int64) (M : Nat → Nat → Int32) (q : Bool), j + n = m 4 → n < f → RC h S wd t fv nv V Z A m F B W G → S 50 = b01 q → (q = true → okLr V a M) →
    ∃ h' V' Z', s_X14_isLinear_266 f 104 (jI j) h = some (.inl (some (.int (b01 (q && (lk2 true A n j M).isSome)))), h') ∧ RC h' (upd S 50 (b01 (q && (lk2 true A n j M).isSome))) wd t fv nv V' Z' A m F B W G ∧ Ou h h' ∧ Sm [163, 164, 165, 166] V V' ∧ SmZ [162, 167] Z Z' ∧ (q = true → ∀ c, lk2 true A n j M = some c → okLr V' a c)
  | _, _, 0, _, _, _, _, _, _, _, hf, _, _, _ => by omega
  | 0, j, f + 1, h, S, V, Z, M, q, hn, hf, C, hq, hO => by
    have h2 := C.2.2.2.2.1.1.1.2.2.2.2
    have H := C.2.1
    have hT := H.1
    have g4 : gO h (.ref 104) 14 4 = some t := gO_of (ltE (by decide)) C.1.1 rfl
    have g0 : gO h (.ref t) 13 0 = some (t + 1) := gO_of (by omega) H.2.1 rfl
    have l4 : ldI .int h (.ref (t + 1)) 4 = some (jI (m 4)) := (C.2.2.2.1.1 4 (by decide)) ▸ H.ld (j := 4) (by decide) (by decide) (by decide) (by decide)
    have g50 : gI h (.ref 104) 14 50 = some (b01 q) := by rw [← hq]; exact C.1.gS rfl
    have eq : (q && (lk2 true A 0 j M).isSome) = q := Bool.and_true q
    rw [eq]
    refine ⟨h, V, Z, ?_, ?_, Ou.refl, Sm.refl, SmZ.refl, fun hqt c e => by cases e; exact hO hqt⟩
    · show s_X14_isLinear_266_b (s_X14_isLinear_266 f) 104 (jI j) h = _
      unfold s_X14_isLinear_266_b
      rw [g4, Option.bind_some, g0, Option.bind_some, l4, Option.bind_some, if_pos ((jI_le (by omega) (by omega)).mpr (by omega)), g50, Option.bind_some]
      exact rtZ_b q h
    · rw [← hq, upd_self]
      exact C
  | n + 1, j, f + 1, h, S, V, Z, M, q, hn, hf, C, hq, hO => by
    have K := C.2.2.2.2.1
    have h2 := K.1.1.2.2.2.2
    have H := C.2.1
    have hT := H.1
    have g4 : gO h (.ref 104) 14 4 = some t := gO_of (ltE (by decide)) C.1.1 rfl
    have g0 : gO h (.ref t) 13 0 = some (t + 1) := gO_of (by omega) H.2.1 rfl
    have l4 : ldI .int h (.ref (t + 1)) 4 = some (jI (m 4)) := (C.2.2.2.1.1 4 (by decide)) ▸ H.ld (j := 4) (by decide) (by decide) (by decide) (by decide)
    have g3 : gO h (.ref t) 13 3 = some (t + 4) := gO_of (by omega) H.2.1 rfl
    have g5 : gO h (.ref t) 13 4 = some (t + 5) := gO_of (by omega) H.2.1 rfl
    obtain ⟨x, y, b4, b5, hxy, hseg⟩ := C.2.2.2.1.2.2.2.2 j (by omega)
    have lb4 : ldI .int h (.ref (t + 4)) (jI (9 + j)) = some (jI x) := b4 ▸ H.ld (by decide) (by decide) (by decide) (show 9 + j < 11 by omega)
    have lb5 : ldI .int h (.ref (t + 5)) (jI (9 + j)) = some (jI (x + y)) := b5 ▸ H.ld (by decide) (by decide) (by decide) (show 9 + j < 11 by omega)
    have so : s_X14_slotOf 4 h = some (.inl (some (.int (jI 9))), h) := slotOfR_at h 4 (by decide)
    have hlen : (sgm A 10 11 j).length ≤ 60 := sgm_len (K.1.2.2.2.2.2.2.2.2 j (by omega)) (K.1.2.2.2.1)
    obtain ⟨h1, V1, Z1, e1, C1, O1, s1, z1, p1⟩ := C.factorsOf (w := 3) (by decide) hxy (K.2.2.2.2 j (by omega)) (K.2.1.2 j (by omega)) hlen hseg hq
    obtain ⟨h2', V2, e2, C2, O2, s2, o2, w2⟩ := li315_go (K := s_X14_isLinear_266 f) (j := j) (by omega) 3 0 FU h1 _ V1 Z1 rfl (by decide) C1
    have start : ∀ {y : aO}, s_X14_isLinear_266 f 104 (jI (j + 1)) h2' = y → s_X14_isLinear_266 (f + 1) 104 (jI j) h = y := by
      intro y' hy
      show s_X14_isLinear_266_b (s_X14_isLinear_266 f) 104 (jI j) h = _
      unfold s_X14_isLinear_266_b
      rw [g4, Option.bind_some, g0, Option.bind_some, l4, Option.bind_some, if_neg (fun u => by have := (jI_le (by omega) (by omega)).mp u; omega), Option.bind_some, g3, Option.bind_some, so]
      simp only [cI]
      have e1' : s_X14_factorsOf 104 (jI x) (jI (x + y)) 3 h = _ := e1
      rw [jI_add, lb4, Option.bind_some, g4, Option.bind_some, g5, Option.bind_some, so]
      simp only []
      rw [jI_add, lb5, Option.bind_some, C.kO, e1']
      exact e2.trans hy
    have unf : lk2 true A (n + 1) j M = (lnG (A 3) (sgm A 10 11 j) (-1) 0 (fun _ => 0)).bind fun P => if true = true ∧ nrR P 0 3 = false then none else lk2 true A n (j + 1) (upd2 M j P) := rfl
    have o163 : ∀ r, okRr V r (a r) → okRr V2 r (a r) := fun r hr => by
      unfold okRr
      rw [s2 163 (by decide), s1 163 (by decide), s2 164 (by decide), s1 164 (by decide)]
      exact hr
    have ih := fun M q => li266_go (a := a) n (j + 1) f h2' _ V2 Z1 M q (by omega) (by omega) C2
    by_cases good : q = true ∧ ∃ P, lnG (A 3) (sgm A 10 11 j) (-1) 0 (fun _ => 0) = some P ∧ nrR P 0 3 = true
    · obtain ⟨rfl, P, eP, nP⟩ := good
      have q' : (true && (lnG (A 3) (sgm A 10 11 j) (-1) 0 (fun _ => 0)).any fun P => nrR P 0 3) = true := by rw [eP]; exact nP
      have eL : lk2 true A (n + 1) j M = lk2 true A n (j + 1) (upd2 M j P) := by
        rw [unf, eP, Option.bind_some, if_neg (by rw [nP]; exact fun z => Bool.noConfusion z.2)]
      obtain ⟨h', V', Z', i1, i2, i3, i4, i5, i6⟩ := ih (upd2 M j P) true (by rw [upd_eq, q']) (fun _ => by
        refine ⟨fun r hr => o163 r ((hO rfl).1 r hr), fun r hr => ?_⟩
        by_cases u : r = j
        · subst u
          rw [upd2_eq]
          exact fun k hk => (w2 k (Nat.zero_le k) hk).trans ((p1 rfl P eP).to32 (by omega))
        · rw [upd2_ne u]
          intro k hk
          rw [o2 _ (by omega), s1 165 (by decide)]
          exact (hO rfl).2 r hr k hk)
      rw [eL]
      rw [upd_tw] at i2
      exact ⟨h', V', Z', start i1, i2, (O1.trans O2).trans i3, ((s1.mono (by decide)).trans (s2.mono (by decide))).trans i4, z1.trans i5, i6⟩
    · have q' : (q && (lnG (A 3) (sgm A 10 11 j) (-1) 0 (fun _ => 0)).any fun P => nrR P 0 3) = false := by
        cases hqq : q with
        | false => rfl
        | true =>
          rw [Bool.true_and]
          cases eP : lnG (A 3) (sgm A 10 11 j) (-1) 0 (fun _ => 0) with
          | none => rfl
          | some P =>
            show nrR P 0 3 = false
            cases nP : nrR P 0 3 with
            | false => rfl
            | true => exact absurd ⟨hqq, P, eP, nP⟩ good
      have eL : q = true → lk2 true A (n + 1) j M = none := fun hqt => by
        rw [unf]
        cases eP : lnG (A 3) (sgm A 10 11 j) (-1) 0 (fun _ => 0) with
        | none => rfl
        | some P =>
          rw [Option.bind_some]
          cases nP : nrR P 0 3 with
          | false => rfl
          | true => exact absurd ⟨hqt, P, eP, nP⟩ good
      have ans : (q && (lk2 true A (n + 1) j M).isSome) = false := by
        cases hqq : q with
        | false => rfl
        | true => rw [eL hqq]; rfl
      obtain ⟨h', V', Z', i1, i2, i3, i4, i5, i6⟩ := ih M false (by rw [upd_eq, q']) (fun z => Bool.noConfusion z)
      rw [ans]
      rw [upd_tw] at i2
      exact ⟨h', V', Z', start i1, i2, (O1.trans O2).trans i3, ((s1.mono (by decide)).trans (s2.mono (by decide))).trans i4, z1.trans i5, fun hqt c e => by rw [eL hqt] at e; cases e⟩
theorem sgo_nil (C : simT A m F B G) (K : okW A m F) {i : Nat} (hi : i < F 4) : ∃ a b c : Nat, B 8 i = jI a ∧ B 9 i = jI (a + b) ∧ B 10 i = jI (a + b + c) ∧ a + b + c ≤ 400 ∧ seg2 (B 11) (B 12) a b = postV (sgm A 6 7 i) ∧ (c = 0 ↔ (sgo A 8 9 i).isEmpty = true) := by
  obtain ⟨-, a, b, c, b8, b9, b10, habc, s1, s2⟩ := C.2.2.2.1 i hi
  refine ⟨a, b, c, b8, b9, b10, habc, s1, ?_⟩
  have nq := K.2.1.1 i hi
  have bq := K.2.2.2.1 i hi
  have hU : ∀ o ∈ sgo A 8 9 i, okU o := fun o ho => okU_of K.1.1 (bq.2 o ho) (nq.2 o ho).1 (nq.2 o ho).2
  rw [List.isEmpty_iff, ← testI_nil hU, ← s2]
  constructor
  · rintro rfl; rfl
  · intro z
    have := seg2_len (B 11) (B 12) c (a + b)
    rw [z] at this
    exact this.symm
theorem li88_go (hSt : okSt A m F) : ∀ (n i f : Nat) (h : aH) (S : Nat → Int32) (V : Nat → Nat → Int32) (Z : Nat → Nat → Int64) (Q : Nat → Bool) (M : Nat → Nat → Int32) (x : Int32) (q : Bool), i + n = F 4 → n < f → RC h S wd t fv nv V Z A m F B W G → S 50 = b01 q → (q = true → okLr V (rwS Q M (m 0)) (fun _ _ => 0)) → (q = true → ∀ s, s < 3 → bitI x s = Q s) →
    ∃ h' V' Z', s_X14_isLinear_88 f 104 x (jI i) h = some (.inl (some (.int (b01 (q && ((lk1 true A n i Q M).isSome && (lk2 true A (m 4) 0 (fun _ _ => 0)).isSome))))), h') ∧ RC h' (upd S 50 (b01 (q && ((lk1 true A n i Q M).isSome && (lk2 true A (m 4) 0 (fun _ _ => 0)).isSome)))) wd t fv nv V' Z' A m F B W G ∧ Ou h h' ∧ Sm [163, 164, 165, 166] V V' ∧ SmZ [162, 167] Z Z' ∧ (q = true → ∀ y c, lk1 true A n i Q M = some y → lk2 true A (m 4) 0 (fun _ _ => 0) = some c → okLr V' (rwS y.1 y.2 (m 0)) c)
  | _, _, 0, _, _, _, _, _, _, _, _, _, hf, _, _, _, _ => by omega
  | 0, i, f + 1, h, S, V, Z, Q, M, x, q, hn, hf, C, hq, hO, hx => by
    have K := C.2.2.2.2.1
    have h8 := K.1.2.2.1
    have h2 := K.1.1.2.2.2.2
    have H := C.2.1
    have hT := H.1
    have g4 : gO h (.ref 104) 14 4 = some t := gO_of (ltE (by decide)) C.1.1 rfl
    have g6 : gI h (.ref t) 13 6 = some (jI (F 4)) := C.2.2.2.1.2.2.1 ▸ gI_of (by omega) H.2.1 rfl
    have eq : (q && ((lk1 true A 0 i Q M).isSome && (lk2 true A (m 4) 0 (fun _ _ => 0)).isSome)) = (q && (lk2 true A (m 4) 0 (fun _ _ => 0)).isSome) := by
      show (q && (true && _)) = _
      rw [Bool.true_and]
    rw [eq]
    obtain ⟨h', V', Z', i1, i2, i3, i4, i5, i6⟩ := li266_go (a := rwS Q M (m 0)) (m 4) 0 FU h S V Z (fun _ _ => 0) q (by omega) (by show m 4 < 1000000; omega) C hq hO
    refine ⟨h', V', Z', ?_, i2, i3, i4, i5, fun hqt y c ey ec => by cases ey; exact i6 hqt c ec⟩
    show s_X14_isLinear_88_b (s_X14_isLinear_88 f) 104 x (jI i) h = _
    unfold s_X14_isLinear_88_b
    rw [g4, Option.bind_some, g6, Option.bind_some, if_pos ((jI_le (by omega) (by omega)).mpr (by omega))]
    exact i1
  | n + 1, i, f + 1, h, S, V, Z, Q, M, x, q, hn, hf, C, hq, hO, hx => by
    have K := C.2.2.2.2.1
    have h8 := K.1.2.2.1
    have h3 := K.1.1.1
    have H := C.2.1
    have hT := H.1
    have g4 : gO h (.ref 104) 14 4 = some t := gO_of (ltE (by decide)) C.1.1 rfl
    have g6 : gI h (.ref t) 13 6 = some (jI (F 4)) := C.2.2.2.1.2.2.1 ▸ gI_of (by omega) H.2.1 rfl
    have g50 : gI h (.ref 104) 14 50 = some (b01 q) := by rw [← hq]; exact C.1.gS rfl
    obtain ⟨s, hs, es⟩ := hSt i (by omega)
    have ecl : (A 5 i).toNatClampNeg = s := by rw [es, jI_cl (by omega)]
    obtain ⟨x8, y8, c8, b8, b9, b10, habc, hseg, hc8⟩ := sgo_nil C.2.2.2.1 K (show i < F 4 by omega)
    have b7 : B 7 i = jI s := ((C.2.2.2.1.2.2.2.1 i (by omega)).1).trans es
    have rws : ∀ {h : aH} {S : Nat → Int32} {V : Nat → Nat → Int32} {Z : Nat → Nat → Int64}, RC h S wd t fv nv V Z A m F B W G → gO h (.ref 104) 14 4 = some t ∧ gO h (.ref t) 13 8 = some (t + 7) ∧ gO h (.ref t) 13 9 = some (t + 8) ∧ gO h (.ref t) 13 10 = some (t + 9) ∧ gO h (.ref t) 13 11 = some (t + 10) ∧ ldI .int h (.ref (t + 7)) (jI i) = some (jI s) ∧ ldI .int h (.ref (t + 8)) (jI i) = some (jI x8) ∧ ldI .int h (.ref (t + 9)) (jI i) = some (jI (x8 + y8)) ∧ ldI .int h (.ref (t + 10)) (jI i) = some (jI (x8 + y8 + c8)) := by
      intro h S V Z C
      have H := C.2.1
      exact ⟨gO_of (ltE (by decide)) C.1.1 rfl, gO_of (by omega) H.2.1 rfl, gO_of (by omega) H.2.1 rfl, gO_of (by omega) H.2.1 rfl, gO_of (by omega) H.2.1 rfl, b7 ▸ H.ld (by decide) (by decide) (by decide) (show i < 8 by omega), b8 ▸ H.ld (by decide) (by decide) (by decide) (show i < 8 by omega), b9 ▸ H.ld (by decide) (by decide) (by decide) (show i < 8 by omega), b10 ▸ H.ld (by decide) (by decide) (by decide) (show i < 8 by omega)⟩
    obtain ⟨-, k8, k9, k10, k11, m7, m8, m9, m10⟩ := rws C
    -- is the step plain so far
    obtain ⟨q1, hq1⟩ : ∃ q1 : Bool, q1 = (q && (decide (c8 = 0) && !(bitI x s))) := ⟨_, rfl⟩
    obtain ⟨h0, e0, C0, O0⟩ := C.pl q1
    obtain ⟨p4, p8, p9, p10, p11, n7, n8, n9, n10⟩ := rws C0
    have hlen : (sgm A 6 7 i).length ≤ 60 := sgm_len ((K.1.2.2.2.2.2.2.2.1 i (by omega)).1) (K.1.2.2.2.1)
    obtain ⟨h1, V1, Z1, e1, C1, O1, s1, z1, r1⟩ := C0.factorsOf (w := 5) (by decide) (show x8 + y8 ≤ 400 by omega) ((K.2.2.2.1 i (by omega)).1) ((K.2.1.1 i (by omega)).1) hlen hseg upd_eq
    rw [upd_tw] at C1
    obtain ⟨h2', V2, e2, C2, O2, s2, o2, w2, o3, w3⟩ := li189_go (K := s_X14_isLinear_88 f) (x := x ||| (1 <<< (jI s &&& 31))) (i := i) (s := s) (by omega) 3 0 FU h1 _ V1 Z1 rfl (by decide) C1
    have start : ∀ {y : aO}, s_X14_isLinear_88 f 104 (x ||| (1 <<< (jI s &&& 31))) (jI (i + 1)) h2' = y → s_X14_isLinear_88 (f + 1) 104 x (jI i) h = y := by
      intro y' hy
      have tail : s_X14_isLinear_153 (s_X14_isLinear_88 f) 104 x (jI i) (jI s) (b01 q1) 104 h = y' := by
        unfold s_X14_isLinear_153
        have e1' : s_X14_factorsOf 104 (jI x8) (jI (x8 + y8)) 5 h0 = _ := e1
        rw [e0, Option.bind_some, p4, Option.bind_some, p9, Option.bind_some, n8, Option.bind_some, Option.bind_some, p10, Option.bind_some, n9, Option.bind_some, C0.kO, e1']
        exact e2.trans hy
      show s_X14_isLinear_88_b (s_X14_isLinear_88 f) 104 x (jI i) h = _
      unfold s_X14_isLinear_88_b s_X14_isLinear_152
      rw [g4, Option.bind_some, g6, Option.bind_some, if_neg (fun u => by have := (jI_le (by omega) (by omega)).mp u; omega), Option.bind_some, k8, Option.bind_some, m7, Option.bind_some, g50, Option.bind_some]
      cases hqq : q with
      | false =>
        rw [if_pos b01_f]
        rw [hqq] at hq1
        have : q1 = false := hq1
        rw [this] at tail
        exact tail
      | true =>
        rw [hqq, Bool.true_and] at hq1
        rw [if_neg (show ¬ b01 true = 0 by decide), Option.bind_some, k11, Option.bind_some, m10, Option.bind_some, Option.bind_some, k10, Option.bind_some, m9, Option.bind_some]
        by_cases u : c8 = 0
        · rw [decide_eq_true u, Bool.true_and] at hq1
          rw [if_pos ((jI_inj (by omega) (by omega)).mpr (by omega))]
          cases hb : bitI x s with
          | false =>
            rw [if_pos ((bitI_test (by omega)).mpr hb)]
            rw [hb] at hq1
            have : q1 = true := hq1
            rw [this] at tail
            exact tail
          | true =>
            rw [if_neg (fun z => by rw [(bitI_test (by omega)).mp z] at hb; exact Bool.noConfusion hb)]
            rw [hb] at hq1
            have : q1 = false := hq1
            rw [this] at tail
            exact tail
        · rw [decide_eq_false u, Bool.false_and] at hq1
          rw [if_neg (fun z => u (by have := (jI_inj (by omega) (by omega)).mp z; omega))]
          rw [hq1] at tail
          exact tail
    have unf : lk1 true A (n + 1) i Q M = if (sgo A 8 9 i).isEmpty = true ∧ Q (A 5 i).toNatClampNeg = false then (lnG (A 3) (sgm A 6 7 i) (-1) 0 (fun _ => 0)).bind fun P => if true = true ∧ nrR P 0 5 = false then none else lk1 true A n (i + 1) (upd2 Q (A 5 i).toNatClampNeg true) (upd2 M (A 5 i).toNatClampNeg P) else none := rfl
    rw [ecl] at unf
    have ih := fun Q M q => li88_go hSt n (i + 1) f h2' _ V2 Z1 Q M (x ||| (1 <<< (jI s &&& 31))) q (by omega) (by omega) C2
    by_cases good : q = true ∧ c8 = 0 ∧ Q s = false ∧ ∃ P, lnG (A 3) (sgm A 6 7 i) (-1) 0 (fun _ => 0) = some P ∧ nrR P 0 5 = true
    · obtain ⟨rfl, hc0, hQ, P, eP, nP⟩ := good
      have hq1t : q1 = true := by rw [hq1, decide_eq_true hc0, hx rfl s (by omega), hQ]; rfl
      have q' : (q1 && (lnG (A 3) (sgm A 6 7 i) (-1) 0 (fun _ => 0)).any fun P => nrR P 0 5) = true := by rw [hq1t, eP]; exact nP
      have eL : lk1 true A (n + 1) i Q M = lk1 true A n (i + 1) (upd2 Q s true) (upd2 M s P) := by
        rw [unf, if_pos ⟨hc8.mp hc0, hQ⟩, eP, Option.bind_some, if_neg (by rw [nP]; exact fun z => Bool.noConfusion z.2)]
      have rP := r1 hq1t P eP
      obtain ⟨h', V', Z', i1, i2, i3, i4, i5, i6⟩ := ih (upd2 Q s true) (upd2 M s P) true (by rw [upd_eq, q']) (fun _ => by
        refine ⟨fun r hr => ?_, fun r hr => ?_⟩
        · by_cases u : r = s
          · subst u
            unfold rwS
            rw [upd2_eq, if_pos rfl, upd2_eq]
            exact ⟨fun k hk => (w2 k (Nat.zero_le k) hk).trans (rP.to32 (by omega)), fun k hk => (w3 k hk).trans (rP.to32 (by omega))⟩
          · have er : rwS (upd2 Q s true) (upd2 M s P) (m 0) r = rwS Q M (m 0) r := by
              unfold rwS
              rw [upd2_ne u, upd2_ne u]
            rw [er]
            have old := (hO rfl).1 r hr
            exact ⟨fun k hk => by rw [o2 _ (by omega), s1 163 (by decide)]; exact old.1 k hk, fun k hk => by rw [o3 _ (by omega), s1 164 (by decide)]; exact old.2 k hk⟩
        · intro k hk
          rw [s2 165 (by decide), s1 165 (by decide)]
          exact (hO rfl).2 r hr k hk) (fun _ s' hs' => by
        rw [bitI_or1 (by omega) (by omega), hx rfl s' hs']
        by_cases u : s' = s
        · rw [u, upd2_eq, decide_eq_true rfl, Bool.or_true]
        · rw [upd2_ne u, decide_eq_false u, Bool.or_false])
      rw [eL]
      rw [upd_tw] at i2
      exact ⟨h', V', Z', start i1, i2, ((O0.trans O1).trans O2).trans i3, ((s1.mono (by decide)).trans (s2.mono (by decide))).trans i4, z1.trans i5, i6⟩
    · have q' : (q1 && (lnG (A 3) (sgm A 6 7 i) (-1) 0 (fun _ => 0)).any fun P => nrR P 0 5) = false := by
        cases hqq : q1 with
        | false => rfl
        | true =>
          rw [hq1, Bool.and_eq_true, Bool.and_eq_true, decide_eq_true_iff] at hqq
          obtain ⟨u1, u2, u3⟩ := hqq
          rw [Bool.true_and]
          cases eP : lnG (A 3) (sgm A 6 7 i) (-1) 0 (fun _ => 0) with
          | none => rfl
          | some P =>
            show nrR P 0 5 = false
            cases nP : nrR P 0 5 with
            | false => rfl
            | true =>
              rw [hx u1 s (by omega)] at u3
              cases hQ : Q s with
              | false => exact absurd ⟨u1, u2, hQ, P, eP, nP⟩ good
              | true => rw [hQ] at u3; exact Bool.noConfusion u3
      have eL : q = true → lk1 true A (n + 1) i Q M = none := fun hqt => by
        rw [unf]
        by_cases cnd : (sgo A 8 9 i).isEmpty = true ∧ Q s = false
        · rw [if_pos cnd]
          cases eP : lnG (A 3) (sgm A 6 7 i) (-1) 0 (fun _ => 0) with
          | none => rfl
          | some P =>
            rw [Option.bind_some]
            cases nP : nrR P 0 5 with
            | false => rfl
            | true => exact absurd ⟨hqt, hc8.mpr cnd.1, cnd.2, P, eP, nP⟩ good
        · rw [if_neg cnd]
      have ans : (q && ((lk1 true A (n + 1) i Q M).isSome && (lk2 true A (m 4) 0 (fun _ _ => 0)).isSome)) = false := by
        cases hqq : q with
        | false => rfl
        | true => rw [eL hqq]; rfl
      obtain ⟨h', V', Z', i1, i2, i3, i4, i5, i6⟩ := ih Q M false (by rw [upd_eq, q']) (fun z => Bool.noConfusion z) (fun z => Bool.noConfusion z)
      rw [ans]
      rw [upd_tw] at i2
      exact ⟨h', V', Z', start i1, i2, ((O0.trans O1).trans O2).trans i3, ((s1.mono (by decide)).trans (s2.mono (by decide))).trans i4, z1.trans i5, fun hqt y c e => by rw [eL hqt] at e; cases e⟩
end
