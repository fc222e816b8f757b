/-! linear things: what is meant, and the class's terms -/
def addT (nm am : Int32) (P : Nat → Int32) : Option (Nat → Int32) := if nm < 0 then some P else if am < -20 then none else if am ≤ 20 then some (upd P nm.toNatClampNeg (P nm.toNatClampNeg + am)) else none
def lnG (lo : Nat → Int32) : List pFa → Int32 → Int32 → (Nat → Int32) → Option (Nat → Int32)
  | [], nm, am, P => addT nm am P
  | a :: r, nm, am, P => (if a.1 = 2 then some (nm, am, P) else (addT nm am P).bind fun P' => some (-1, if a.1 = 1 then -1 else 1, P')).bind fun x =>
      if 0 ≤ a.2.1 ∧ a.2.1 < 7 then (if 0 ≤ x.1 then none else lnG lo r a.2.1 x.2.1 x.2.2) else lnG lo r x.1 (cl6 (x.2.1 * (if a.2.1 < 0 then a.2.2 else lo a.2.1.toNatClampNeg))) x.2.2
/-- a row of the matrices -/
def okRw (V : Nat → Nat → Int32) (see : Bool) (r : Nat) (P : Nat → Int32) : Prop :=
  if see then ∀ k, k < 3 → V 84 (r * 3 + k) = P k else (∀ k, k < 3 → V 82 (r * 3 + k) = P k) ∧ ∀ k, k < 2 → V 83 (r * 2 + k) = P (3 + k)
/-- nothing but one row changed -/
def rwK (V V' : Nat → Nat → Int32) (see : Bool) (r : Nat) : Prop :=
  Sm [82, 83, 84] V V' ∧ (see = true → V' 82 = V 82 ∧ V' 83 = V 83) ∧ (see = false → V' 84 = V 84) ∧ (∀ j, (j < r * 3 ∨ r * 3 + 3 ≤ j) → V' 82 j = V 82 j ∧ V' 84 j = V 84 j) ∧ ∀ j, (j < r * 2 ∨ r * 2 + 2 ≤ j) → V' 83 j = V 83 j
theorem rwK.refl {V : Nat → Nat → Int32} {see : Bool} {r : Nat} : rwK V V see r := ⟨Sm.refl, fun _ => ⟨rfl, rfl⟩, fun _ => rfl, fun _ _ => ⟨rfl, rfl⟩, fun _ _ => rfl⟩
theorem rwK.trans {V1 V2 V3 : Nat → Nat → Int32} {see : Bool} {r : Nat} (a : rwK V1 V2 see r) (c : rwK V2 V3 see r) : rwK V1 V3 see r :=
  ⟨a.1.trans c.1, fun z => ⟨(c.2.1 z).1.trans (a.2.1 z).1, (c.2.1 z).2.trans (a.2.1 z).2⟩, fun z => (c.2.2.1 z).trans (a.2.2.1 z), fun j q => ⟨(c.2.2.2.1 j q).1.trans (a.2.2.2.1 j q).1, (c.2.2.2.1 j q).2.trans (a.2.2.2.1 j q).2⟩, fun j q => (c.2.2.2.2 j q).trans (a.2.2.2.2 j q)⟩
/-- a name of a state, push or world; or none -/
def okNm (nm : Int32) : Prop := nm = -1 ∨ ∃ s, nm = jI s ∧ s < 7
theorem okNm.neg {nm : Int32} (h : okNm nm) : (nm < 0 ↔ nm = -1) ∧ (0 ≤ nm ↔ ∃ s, nm = jI s ∧ s < 7) := by
  rcases h with rfl | ⟨s, rfl, hs⟩
  · refine ⟨⟨fun _ => rfl, fun _ => by decide⟩, ⟨fun z => absurd z (by decide), fun ⟨s, e, hs⟩ => ?_⟩⟩
    have := congrArg Int32.toInt e
    rw [jI_int (by omega)] at this
    have h1 : (-1 : Int32).toInt = -1 := rfl
    omega
  · refine ⟨⟨fun z => absurd z (jI_neg (by omega)), fun z => ?_⟩, ⟨fun _ => ⟨s, rfl, hs⟩, fun _ => i32_nlt.mp (jI_neg (by omega))⟩⟩
    have := congrArg Int32.toInt z
    rw [jI_int (by omega)] at this
    have h1 : (-1 : Int32).toInt = -1 := rfl
    omega
section
variable {S : Nat → Nat → Int32} {Z : Nat → Nat → Int64} {D Ln : Nat → Nat} {b : Nat} {A : Nat → Nat → Int32} {N : Nat → Int64} {m F : Nat → Nat}
theorem CC.addTerm {h : aH} {V : Nat → Nat → Int32} (C : CC h S V Z D Ln b A N m F) {see : Bool} {r : Nat} (hr : r < 3) (hr2 : see = true → r < 2) {nm am : Int32} (hn : okNm nm) {P : Nat → Int32} (R : okRw V see r P) :
    ∃ h' V', s_X1_addTerm 81 nm am (jI r) (b01 see) h = some (.inl (some (.int (b01 (addT nm am P).isSome))), h') ∧ CC h' S V' Z D Ln b A N m F ∧ Oc D h h' ∧ rwK V V' see r ∧ ∀ P', addT nm am P = some P' → okRw V' see r P' := by
  obtain ⟨X, HM, K, hC, hwd⟩ := id C
  rcases hn with rfl | ⟨s, rfl, hs⟩
  · refine ⟨h, V, ?_, C, Oc.refl, rwK.refl, fun P' e => ?_⟩
    · unfold s_X1_addTerm addT
      rw [if_neg (by decide), if_pos (by decide)]
      rfl
    · unfold addT at e
      rw [if_pos (by decide)] at e
      cases e
      exact R
  · have n0 : (0 : Int32) ≤ jI s := i32_nlt.mp (jI_neg (by omega))
    have n1 : ¬ jI s < 0 := jI_neg (by omega)
    have lb1 : ldI .int h (.ref (aE + 1)) 1 = some (jI 3) := BASE_of (j := 1) (by decide)
    have lb2 : ldI .int h (.ref (aE + 1)) 2 = some (jI 5) := BASE_of (j := 2) (by decide)
    by_cases z1 : am < -20
    · refine ⟨h, V, ?_, C, Oc.refl, rwK.refl, fun P' e => ?_⟩
      · unfold s_X1_addTerm addT
        rw [if_pos n0, if_pos z1, if_neg n1, if_pos z1]
        rfl
      · unfold addT at e
        rw [if_neg n1, if_pos z1] at e
        cases e
    · by_cases z2 : am ≤ 20
      · have ea : addT (jI s) am P = some (upd P s (P s + am)) := by
          unfold addT
          rw [if_neg n1, if_neg z1, if_pos z2, jI_cl (by omega)]
        rw [ea]
        have e3 : (jI r * 3) + jI s = jI (r * 3 + s) := by rw [show (3 : Int32) = jI 3 from rfl, jI_mul, jI_add]
        by_cases s3 : s < 3
        · have hk : ¬ jI 3 ≤ jI s := fun z => by have := (jI_le (by omega) (by omega)).mp z; omega
          cases see with
          | false =>
            have g3 : gO h (.ref 81) 1 3 = some 82 := gO_of (ltE (by decide)) (X.1 81 rfl) rfl
            have l : ldI .int h (.ref 82) (jI (r * 3 + s)) = some (V 82 (r * 3 + s)) := X.ld (a := 82) rfl (show r * 3 + s < 9 by omega)
            obtain ⟨h1, e1, X1, O1⟩ := X.st (a := 82) (j := r * 3 + s) rfl (show r * 3 + s < 9 by omega) (V 82 (r * 3 + s) + am)
            have R' : (∀ k, k < 3 → V 82 (r * 3 + k) = P k) ∧ ∀ k, k < 2 → V 83 (r * 2 + k) = P (3 + k) := R
            refine ⟨h1, _, ?_, C.to X1 O1 rfl, O1, ⟨Sm.refl.upd (by decide), fun z => Bool.noConfusion z, fun _ => upd2_ne (by decide), fun j q => ⟨by rw [upd2_eq, upd_ne (by omega)], by rw [upd2_ne (by decide)]⟩, fun j q => by rw [upd2_ne (by decide)]⟩, fun P' e => ?_⟩
            · unfold s_X1_addTerm s_X1_addTerm_45
              rw [if_pos n0, if_neg z1, if_pos z2, lb1, Option.bind_some, if_neg hk, if_pos b01_f, g3, Option.bind_some, e3, l, Option.bind_some, e1, Option.bind_some]
              rfl
            · cases e
              refine ⟨fun k hk => ?_, fun k hk => ?_⟩
              · rw [upd2_eq]
                by_cases u : k = s
                · rw [u, upd_eq, upd_eq, R'.1 s s3]
                · rw [upd_ne (by omega), upd_ne u, R'.1 k hk]
              · rw [upd2_ne (by decide), upd_ne (by omega), R'.2 k hk]
          | true =>
            have r2 := hr2 rfl
            have g3 : gO h (.ref 81) 1 5 = some 84 := gO_of (ltE (by decide)) (X.1 81 rfl) rfl
            have l : ldI .int h (.ref 84) (jI (r * 3 + s)) = some (V 84 (r * 3 + s)) := X.ld (a := 84) rfl (show r * 3 + s < 6 by omega)
            obtain ⟨h1, e1, X1, O1⟩ := X.st (a := 84) (j := r * 3 + s) rfl (show r * 3 + s < 6 by omega) (V 84 (r * 3 + s) + am)
            have R' : ∀ k, k < 3 → V 84 (r * 3 + k) = P k := R
            refine ⟨h1, _, ?_, C.to X1 O1 rfl, O1, ⟨Sm.refl.upd (by decide), fun _ => ⟨upd2_ne (by decide), upd2_ne (by decide)⟩, fun z => Bool.noConfusion z, fun j q => ⟨by rw [upd2_ne (by decide)], by rw [upd2_eq, upd_ne (by omega)]⟩, fun j q => by rw [upd2_ne (by decide)]⟩, fun P' e => ?_⟩
            · unfold s_X1_addTerm s_X1_addTerm_45
              rw [if_pos n0, if_neg z1, if_pos z2, lb1, Option.bind_some, if_neg hk, if_neg (show ¬ b01 true = 0 by decide), g3, Option.bind_some, e3, l, Option.bind_some, e1, Option.bind_some]
              rfl
            · cases e
              show ∀ k, k < 3 → _
              intro k hk
              rw [upd2_eq]
              by_cases u : k = s
              · rw [u, upd_eq, upd_eq, R' s s3]
              · rw [upd_ne (by omega), upd_ne u, R' k hk]
        · have hk : jI 3 ≤ jI s := (jI_le (by omega) (by omega)).mpr (by omega)
          have same : okRw V see r (upd P s (P s + am)) ∨ (see = false ∧ s < 5) := by
            cases see with
            | true =>
              refine Or.inl (fun k hk => ?_)
              rw [upd_ne (by omega)]
              have R' : ∀ k, k < 3 → V 84 (r * 3 + k) = P k := R
              exact R' k hk
            | false =>
              by_cases s5 : s < 5
              · exact Or.inr ⟨rfl, s5⟩
              · have R' : (∀ k, k < 3 → V 82 (r * 3 + k) = P k) ∧ ∀ k, k < 2 → V 83 (r * 2 + k) = P (3 + k) := R
                exact Or.inl ⟨fun k hk => by rw [upd_ne (by omega)]; exact R'.1 k hk, fun k hk => by rw [upd_ne (by omega)]; exact R'.2 k hk⟩
          by_cases w : see = false ∧ s < 5
          · obtain ⟨w1, w2⟩ := w
            subst w1
            have g4 : gO h (.ref 81) 1 4 = some 83 := gO_of (ltE (by decide)) (X.1 81 rfl) rfl
            have e2 : ((jI r * 2) + jI s) - jI 3 = jI (r * 2 + (s - 3)) := by
              rw [show (2 : Int32) = jI 2 from rfl, jI_mul, jI_add, jI_sub (by omega)]
              congr 1
              omega
            have l : ldI .int h (.ref 83) (jI (r * 2 + (s - 3))) = some (V 83 (r * 2 + (s - 3))) := X.ld (a := 83) rfl (show r * 2 + (s - 3) < 6 by omega)
            obtain ⟨h1, e1, X1, O1⟩ := X.st (a := 83) (j := r * 2 + (s - 3)) rfl (show r * 2 + (s - 3) < 6 by omega) (V 83 (r * 2 + (s - 3)) + am)
            have R' : (∀ k, k < 3 → V 82 (r * 3 + k) = P k) ∧ ∀ k, k < 2 → V 83 (r * 2 + k) = P (3 + k) := R
            refine ⟨h1, _, ?_, C.to X1 O1 rfl, O1, ⟨Sm.refl.upd (by decide), fun z => Bool.noConfusion z, fun _ => upd2_ne (by decide), fun j q => ⟨by rw [upd2_ne (by decide)], by rw [upd2_ne (by decide)]⟩, fun j q => by rw [upd2_eq, upd_ne (by omega)]⟩, fun P' e => ?_⟩
            · unfold s_X1_addTerm
              rw [if_pos n0, if_neg z1, if_pos z2, lb1, Option.bind_some, if_pos hk, lb2, Option.bind_some, if_neg (fun z => by have := (jI_le (by omega) (by omega)).mp z; omega), if_pos b01_f, g4, Option.bind_some, Option.bind_some, e2, l, Option.bind_some, e1, Option.bind_some]
              rfl
            · cases e
              refine ⟨fun k hk => ?_, fun k hk => ?_⟩
              · rw [upd2_ne (by decide), upd_ne (by omega), R'.1 k hk]
              · rw [upd2_eq]
                by_cases u : k = s - 3
                · rw [u, upd_eq, show 3 + (s - 3) = s by omega, upd_eq, R'.2 (s - 3) (by omega), show 3 + (s - 3) = s by omega]
                · rw [upd_ne (by omega), upd_ne (by omega), R'.2 k hk]
          · refine ⟨h, V, ?_, C, Oc.refl, rwK.refl, fun P' e => by cases e; exact same.elim id (fun v => absurd v w)⟩
            unfold s_X1_addTerm
            rw [if_pos n0, if_neg z1, if_pos z2, lb1, Option.bind_some, if_pos hk, lb2, Option.bind_some]
            by_cases s5 : s < 5
            · rw [if_neg (fun z => by have := (jI_le (by omega) (by omega)).mp z; omega)]
              cases see with
              | false => exact absurd ⟨rfl, s5⟩ w
              | true =>
                rw [if_neg (show ¬ b01 true = 0 by decide)]
                rfl
            · rw [if_pos ((jI_le (by omega) (by omega)).mpr (by omega))]
              rfl
      · refine ⟨h, V, ?_, C, Oc.refl, rwK.refl, fun P' e => ?_⟩
        · unfold s_X1_addTerm addT
          rw [if_pos n0, if_neg z1, if_neg z2, if_neg n1, if_neg z1, if_neg z2]
          rfl
        · unfold addT at e
          rw [if_neg n1, if_neg z1, if_neg z2] at e
          cases e
theorem at18_go {see : Bool} {r to : Nat} (hr : r < 3) (hr2 : see = true → r < 2) (hto : to ≤ 60) : ∀ (n i f : Nat) (h : aH) (V : Nat → Nat → Int32) (nm am : Int32) (P : Nat → Int32), i + n = to → n < f → CC h S V Z D Ln b A N m F → okNm nm → okRw V see r P →
    ∃ h' V', s_X1_addTerms_18 f 81 (jI to) (jI r) (b01 see) 15 nm am (jI i) h = some (.inl (some (.int (b01 (lnG (A 3) (seg3 (A 13) (A 14) (A 15) i n) nm am P).isSome))), h') ∧ CC h' S V' Z D Ln b A N m F ∧ Oc D h h' ∧ rwK V V' see r ∧ ∀ P', lnG (A 3) (seg3 (A 13) (A 14) (A 15) i n) nm am P = some P' → okRw V' see r P'
  | _, _, 0, _, _, _, _, _, _, hf, _, _, _ => by omega
  | 0, i, f + 1, h, V, nm, am, P, hn, hf, C, hnm, R => by
    obtain ⟨h1, V1, e1, C1, O1, K1, a1⟩ := C.addTerm hr hr2 (am := am) hnm R
    refine ⟨h1, V1, ?_, C1, O1, K1, a1⟩
    show s_X1_addTerms_18_b (s_X1_addTerms_18 f) 81 (jI to) (jI r) (b01 see) 15 nm am (jI i) h = some (.inl (some (.int (b01 (addT nm am P).isSome))), h1)
    unfold s_X1_addTerms_18_b
    rw [if_pos ((jI_le (by omega) (by omega)).mpr (by omega)), kO_of (ltE (by decide)) (C.1.1 81 rfl), e1]
    exact rtZ_b _ _
  | n + 1, i, f + 1, h, V, nm, am, P, hn, hf, C, hnm, R => by
    obtain ⟨X, HM, K, hC, hwd⟩ := id C
    have F0 := HM.2.2.2.2.2
    have ih := fun h V nm am P => at18_go hr hr2 hto n (i + 1) f h V nm am P (by omega) (by omega)
    -- the rows of the formulas, in any heap of this class
    have rows : ∀ {h : aH} {V : Nat → Nat → Int32}, CC h S V Z D Ln b A N m F → gO h (.ref 15) 0 1 = some 16 ∧ gO h (.ref 15) 0 2 = some 17 ∧ gO h (.ref 15) 0 3 = some 18 ∧ ldI .int h (.ref 16) (jI i) = some (A 13 i) ∧ ldI .int h (.ref 17) (jI i) = some (A 14 i) ∧ ldI .int h (.ref 18) (jI i) = some (A 15 i) ∧ gO h (.ref 81) 1 0 = some 3 := by
      intro h V C
      obtain ⟨f0, f1, f2, f3, f4, -⟩ := C.2.1.2.2.2.2.2
      exact ⟨gO_of (ltE (by decide)) f1 rfl, gO_of (ltE (by decide)) f1 rfl, gO_of (ltE (by decide)) f1 rfl, ldI_of (ltE (by decide)) f2 (by omega) (by decide), ldI_of (ltE (by decide)) f3 (by omega) (by decide), ldI_of (ltE (by decide)) f4 (by omega) (by decide), gO_of (ltE (by decide)) (C.1.1 81 rfl) rfl⟩
    have hS := K.1.2.2.2.2.2.1
    have lb3 : ∀ h : aH, ldI .int h (.ref (aE + 1)) 3 = some (jI 7) := fun h => BASE_of (j := 3) (by decide)
    -- behind the sign
    have e74 : ∀ (h : aH) (V : Nat → Nat → Int32) (nm am : Int32) (P : Nat → Int32), CC h S V Z D Ln b A N m F → okNm nm → okRw V see r P →
        ∃ h' V', s_X1_addTerms_74 (s_X1_addTerms_18 f) 81 (jI to) (jI r) (b01 see) 15 nm am (jI i) h = some (.inl (some (.int (b01 (if 0 ≤ A 14 i ∧ A 14 i < 7 then (if 0 ≤ nm then none else lnG (A 3) (seg3 (A 13) (A 14) (A 15) (i + 1) n) (A 14 i) am P) else lnG (A 3) (seg3 (A 13) (A 14) (A 15) (i + 1) n) nm (cl6 (am * (if A 14 i < 0 then A 15 i else A 3 (A 14 i).toNatClampNeg))) P).isSome))), h') ∧ CC h' S V' Z D Ln b A N m F ∧ Oc D h h' ∧ rwK V V' see r ∧ ∀ P', (if 0 ≤ A 14 i ∧ A 14 i < 7 then (if 0 ≤ nm then none else lnG (A 3) (seg3 (A 13) (A 14) (A 15) (i + 1) n) (A 14 i) am P) else lnG (A 3) (seg3 (A 13) (A 14) (A 15) (i + 1) n) nm (cl6 (am * (if A 14 i < 0 then A 15 i else A 3 (A 14 i).toNatClampNeg))) P) = some P' → okRw V' see r P' := by
      intro h V nm am P C hnm R
      obtain ⟨q1, q2, q3, q4, q5, q6, q7⟩ := rows C
      have start : ∀ {y : aO}, (if A 14 i < 0 then s_X1_addTerms_18 f 81 (jI to) (jI r) (b01 see) 15 nm (cl6 (am * A 15 i)) (jI (i + 1)) h else if jI 7 ≤ A 14 i then (((ldI .int h (.ref 6) (A 14 i)).bind fun x155 => s_X1_addTerms_18 f 81 (jI to) (jI r) (b01 see) 15 nm (cl6 (am * x155)) (jI (i + 1)) h)) else if nm < 0 then s_X1_addTerms_18 f 81 (jI to) (jI r) (b01 see) 15 (A 14 i) am (jI (i + 1)) h else rtZ 0 h) = y → s_X1_addTerms_74 (s_X1_addTerms_18 f) 81 (jI to) (jI r) (b01 see) 15 nm am (jI i) h = y := by
        intro y hy
        unfold s_X1_addTerms_74 s_X1_addTerms_103 s_X1_addTerms_104 s_X1_addTerms_118 s_X1_addTerms_156
        rw [q2, Option.bind_some, q5, Option.bind_some]
        have hlo : gO h (.ref 3) 2 2 = some 6 := C.2.1.lo
        by_cases z : A 14 i < 0
        · rw [if_pos z] at hy
          rw [if_pos z, if_pos rfl, if_pos rfl, if_neg (i32_nle.mpr z), q3, Option.bind_some, q6, Option.bind_some, jI_inc]
          exact hy
        · rw [if_neg z] at hy
          rw [if_neg z, lb3, Option.bind_some]
          by_cases z2 : jI 7 ≤ A 14 i
          · rw [if_pos z2] at hy
            rw [if_pos z2, if_pos rfl, if_pos rfl, if_pos (i32_nlt.mp z), q7, Option.bind_some, hlo, Option.bind_some, jI_inc]
            exact hy
          · rw [if_neg z2] at hy
            rw [if_neg z2, if_neg (show ¬ (1 : Int32) = 0 by decide), if_neg (show ¬ (1 : Int32) = 0 by decide), jI_inc]
            exact hy
      by_cases z : A 14 i < 0
      · obtain ⟨h', V', e, r⟩ := ih h V nm (cl6 (am * A 15 i)) P C hnm R
        have cond : ¬ (0 ≤ A 14 i ∧ A 14 i < 7) := fun u => i32_nlt.mpr u.1 z
        refine ⟨h', V', start ?_, ?_⟩
        · rw [if_pos z, if_neg cond, if_pos z]
          exact e
        · rw [if_neg cond, if_pos z]
          exact r
      · have zge : 0 ≤ A 14 i := i32_nlt.mp z
        have sl9 := hS i (by omega) zge
        have eji : A 14 i = jI (A 14 i).toNatClampNeg := jI_of z
        obtain ⟨sN, hsN⟩ : ∃ sN, sN = (A 14 i).toNatClampNeg := ⟨_, rfl⟩
        rw [← hsN] at sl9 eji
        by_cases z2 : jI 7 ≤ A 14 i
        · have cond : ¬ (0 ≤ A 14 i ∧ A 14 i < 7) := fun u => i32_nlt.mpr z2 u.2
          have l6 : ldI .int h (.ref 6) (A 14 i) = some (A 3 sN) := by
            rw [eji]
            exact C.2.1.ldlo sl9
          obtain ⟨h', V', e, r⟩ := ih h V nm (cl6 (am * A 3 sN)) P C hnm R
          refine ⟨h', V', start ?_, ?_⟩
          · rw [if_neg z, if_pos z2, l6, Option.bind_some, if_neg cond, if_neg z, ← hsN]
            exact e
          · rw [if_neg cond, if_neg z, ← hsN]
            exact r
        · have lt7 : A 14 i < 7 := i32_nle.mp z2
          have cond : 0 ≤ A 14 i ∧ A 14 i < 7 := ⟨zge, lt7⟩
          have sn7 : sN < 7 := by
            rw [eji] at lt7
            exact (jI_lt (k := 7) (by omega) (by omega)).mp lt7
          by_cases w : nm < 0
          · obtain ⟨h', V', e, r⟩ := ih h V (A 14 i) am P C (Or.inr ⟨sN, eji, sn7⟩) R
            refine ⟨h', V', start ?_, ?_⟩
            · rw [if_neg z, if_neg z2, if_pos w, if_pos cond, if_neg (i32_nle.mpr w)]
              exact e
            · rw [if_pos cond, if_neg (i32_nle.mpr w)]
              exact r
          · refine ⟨h, V, start ?_, C, Oc.refl, rwK.refl, fun P' e => ?_⟩
            · rw [if_neg z, if_neg z2, if_neg w, if_pos cond, if_pos (i32_nlt.mp w)]
              rfl
            · rw [if_pos cond, if_pos (i32_nlt.mp w)] at e
              cases e
    have unf : lnG (A 3) (seg3 (A 13) (A 14) (A 15) i (n + 1)) nm am P = ((if A 13 i = 2 then some (nm, am, P) else (addT nm am P).bind fun P' => some (-1, if A 13 i = 1 then -1 else 1, P')).bind fun x => if 0 ≤ A 14 i ∧ A 14 i < 7 then (if 0 ≤ x.1 then none else lnG (A 3) (seg3 (A 13) (A 14) (A 15) (i + 1) n) (A 14 i) x.2.1 x.2.2) else lnG (A 3) (seg3 (A 13) (A 14) (A 15) (i + 1) n) x.1 (cl6 (x.2.1 * (if A 14 i < 0 then A 15 i else A 3 (A 14 i).toNatClampNeg))) x.2.2) := rfl
    rw [unf]
    obtain ⟨q1, q2, q3, q4, q5, q6, q7⟩ := rows C
    by_cases j2 : A 13 i = 2
    · rw [if_pos j2, Option.bind_some]
      obtain ⟨h', V', e, r'⟩ := e74 h V nm am P C hnm R
      refine ⟨h', V', ?_, r'⟩
      show s_X1_addTerms_18_b (s_X1_addTerms_18 f) 81 (jI to) (jI r) (b01 see) 15 nm am (jI i) h = _
      unfold s_X1_addTerms_18_b
      rw [if_neg (fun u => by have := (jI_le (by omega) (by omega)).mp u; omega), q1, Option.bind_some, q4, Option.bind_some, if_pos j2]
      exact e
    · rw [if_neg j2]
      obtain ⟨h1, V1, e1, C1, O1, K1, a1⟩ := C.addTerm hr hr2 (am := am) hnm R
      obtain ⟨p1, p2, p3, p4, p5, p6, p7⟩ := rows C1
      have start : ∀ {y : aO}, (if b01 (addT nm am P).isSome = 0 then rtZ 0 h1 else s_X1_addTerms_74 (s_X1_addTerms_18 f) 81 (jI to) (jI r) (b01 see) 15 (-1) (if A 13 i = 1 then -1 else 1) (jI i) h1) = y → s_X1_addTerms_18 (f + 1) 81 (jI to) (jI r) (b01 see) 15 nm am (jI i) h = y := by
        intro y hy
        show s_X1_addTerms_18_b (s_X1_addTerms_18 f) 81 (jI to) (jI r) (b01 see) 15 nm am (jI i) h = _
        unfold s_X1_addTerms_18_b s_X1_addTerms_72
        rw [if_neg (fun u => by have := (jI_le (by omega) (by omega)).mp u; omega), q1, Option.bind_some, q4, Option.bind_some, if_neg j2, kO_of (ltE (by decide)) (X.1 81 rfl), e1]
        simp only [cI, p1, p4, Option.bind_some]
        rw [← hy]
        by_cases u : A 13 i = 1
        · rw [if_pos u, if_pos u]
        · rw [if_neg u, if_neg u]
      cases ea : addT nm am P with
      | none =>
        refine ⟨h1, V1, start ?_, C1, O1, K1, fun P' e => ?_⟩
        · rw [ea]
          rfl
        · exact absurd e (by simp)
      | some P1 =>
        obtain ⟨h', V', e, r1, r2, r3, r4⟩ := e74 h1 V1 (-1) (if A 13 i = 1 then -1 else 1) P1 C1 (Or.inl rfl) (a1 P1 ea)
        refine ⟨h', V', start ?_, r1, O1.trans r2, K1.trans r3, r4⟩
        rw [ea, if_neg (show ¬ b01 (some P1).isSome = 0 from fun z => absurd (show b01 true = 0 from z) (by decide))]
        exact e
end
