/-! the reference's thing, once its text is read: marks, claims, code, what was told, leads -/
section
variable {wd : Int64} {fv nv : Value} {Z : Nat → Nat → Int64}
theorem fg7_go {tv : Value} {S : Nat → Int32} : ∀ (r i fu : Nat) (h : aH) (V : Nat → Nat → Int32), i + r = 62 → r < fu → RW h S wd tv fv nv V Z → (∀ j, j < i → V 177 j = -1) →
    ∃ h' V', s_X14_forgets_7 fu 104 (jI i) h = some (.inl none, h') ∧ RW h' S wd tv fv nv V' Z ∧ Ou h h' ∧ Sm [177] V V' ∧ ∀ j, j < 62 → V' 177 j = -1
  | _, _, 0, _, _, _, hf, _, _ => absurd hf (Nat.not_lt_zero _)
  | 0, i, fu + 1, h, V, hi, _, X, hV => by
    refine ⟨h, V, ?_, X, Ou.refl, Sm.refl, fun j hj => hV j (by omega)⟩
    show s_X14_forgets_7_b (s_X14_forgets_7 fu) 104 (jI i) h = _
    unfold s_X14_forgets_7_b
    rw [if_pos (show (62 : Int32) ≤ jI i from (jI_le (j := 62) (by omega) (by omega)).mpr (by omega))]
  | r + 1, i, fu + 1, h, V, hi, hf, X, hV => by
    have g62 : gO h (.ref 104) 14 62 = some 177 := gO_of (ltE (by decide)) X.1 rfl
    obtain ⟨h1, e1, X1, O1⟩ := X.st (a := 177) (j := i) rfl rfl (show i < 62 by omega) (-1)
    obtain ⟨h2, V2, e2, X2, O2, M2, v2⟩ := fg7_go r (i + 1) fu h1 _ (by omega) (by omega) X1 (fun j hj => by
      rw [upd2_eq]
      by_cases u : j = i
      · rw [u, upd_eq]
      · rw [upd_ne u]; exact hV j (by omega))
    refine ⟨h2, V2, ?_, X2, O1.trans O2, (Sm.refl.upd (by decide)).trans M2, v2⟩
    show s_X14_forgets_7_b (s_X14_forgets_7 fu) 104 (jI i) h = _
    unfold s_X14_forgets_7_b
    rw [if_neg (show ¬ (62 : Int32) ≤ jI i from fun z => by have := (jI_le (j := 62) (by omega) (by omega)).mp z; omega), g62, Option.bind_some, e1, Option.bind_some, jI_inc]
    exact e2
theorem RW.forgets {tv : Value} {h : aH} {S : Nat → Int32} {V : Nat → Nat → Int32} (X : RW h S wd tv fv nv V Z) : ∃ h' V', s_X14_forgets 104 h = some (.inl none, h') ∧ RW h' (upd S 59 0) wd tv fv nv V' Z ∧ Ou h h' ∧ Sm [177] V V' ∧ ∀ j, j < 62 → V' 177 j = -1 := by
  obtain ⟨h1, e1, X1, O1⟩ := X.pS (k := 59) rfl 0
  obtain ⟨h2, V2, e2, X2, O2, M2, v2⟩ := fg7_go 62 0 FU h1 V rfl (by unfold FU; omega) X1 (fun j hj => absurd hj (Nat.not_lt_zero _))
  have e2' : s_X14_forgets_7 FU 104 0 h1 = some (.inl none, h2) := e2
  refine ⟨h2, V2, ?_, X2, O1.trans O2, M2, v2⟩
  unfold s_X14_forgets
  rw [e1, Option.bind_some, e2']
end
section
variable {wd : Int64} {t : Nat} {fv nv : Value} {Z : Nat → Nat → Int64} {A : Nat → Nat → Int32} {m F : Nat → Nat} {B : Nat → Nat → Int32} {W : Nat → Int64} {G : Nat → Nat}
theorem RC.pS {h : aH} {S : Nat → Int32} {V : Nat → Nat → Int32} (C : RC h S wd t fv nv V Z A m F B W G) {k : Nat} (hk : scR k = true) (hn : k < 20 ∨ 23 < k) (x : Int32) : ∃ h', pF h (.ref 104) 14 k (.int x) = some h' ∧ RC h' (upd S k x) wd t fv nv V Z A m F B W G ∧ Ou h h' := by
  obtain ⟨h1, e1, X1, O1⟩ := C.1.pS hk x
  exact ⟨h1, e1, C.toS X1 O1 ⟨upd_ne (by omega), upd_ne (by omega), upd_ne (by omega), upd_ne (by omega)⟩, O1⟩
theorem RC.forgets {h : aH} {S : Nat → Int32} {V : Nat → Nat → Int32} (C : RC h S wd t fv nv V Z A m F B W G) : ∃ h' V', s_X14_forgets 104 h = some (.inl none, h') ∧ RC h' (upd S 59 0) wd t fv nv V' Z A m F B W G ∧ Ou h h' ∧ Sm [177] V V' ∧ ∀ j, j < 62 → V' 177 j = -1 := by
  obtain ⟨h1, V1, e1, X1, O1, M1, v1⟩ := C.1.forgets
  exact ⟨h1, V1, e1, C.toS X1 O1 ⟨upd_ne (by omega), upd_ne (by omega), upd_ne (by omega), upd_ne (by omega)⟩, O1, M1, v1⟩
theorem th190_go {S : Nat → Int32} : ∀ (r i fu : Nat) (h : aH) (V : Nat → Nat → Int32), i + r = 3 → r < fu → RC h S wd t fv nv V Z A m F B W G → (∀ j, j < i → V 181 j = 0) →
    ∃ h' V', s_X14_thing_190 fu 104 (jI i) h = ((pF h' (.ref 104) 14 67 (.int 0)).bind fun h210 => (pF h210 (.ref 104) 14 68 (.int 0)).bind fun h215 => kO h215 104 14 (cN (s_X14_forgets 104 h215) fun h219 => kO h219 104 14 (cN (s_X14_leads 104 h219) fun h223 => (pZ h223 (.ref 104) 14 25 0).bind fun h228 => (gI h228 (.ref 104) 14 20).bind fun x233 => kO h228 104 14 (cI (s_X14_done 104 x233 h228) fun x236 h236 => some (.inl (some (.int x236)), h236))))) ∧ RC h' S wd t fv nv V' Z A m F B W G ∧ Ou h h' ∧ Sm [181] V V' ∧ ∀ j, j < 3 → V' 181 j = 0
  | _, _, 0, _, _, _, hf, _, _ => absurd hf (Nat.not_lt_zero _)
  | 0, i, fu + 1, h, V, hi, _, C, hV => by
    refine ⟨h, V, ?_, C, Ou.refl, Sm.refl, fun j hj => hV j (by omega)⟩
    show s_X14_thing_190_b (s_X14_thing_190 fu) 104 (jI i) h = _
    unfold s_X14_thing_190_b
    rw [if_pos (show (3 : Int32) ≤ jI i from (jI_le (j := 3) (by omega) (by omega)).mpr (by omega))]
  | r + 1, i, fu + 1, h, V, hi, hf, C, hV => by
    have g66 : gO h (.ref 104) 14 66 = some 181 := gO_of (ltE (by decide)) C.1.1 rfl
    obtain ⟨h1, e1, X1, O1⟩ := C.1.st (a := 181) (j := i) rfl rfl (show i < 3 by omega) 0
    obtain ⟨h2, V2, e2, X2, O2, M2, v2⟩ := th190_go r (i + 1) fu h1 _ (by omega) (by omega) (C.to X1 O1) (fun j hj => by
      rw [upd2_eq]
      by_cases u : j = i
      · rw [u, upd_eq]
      · rw [upd_ne u]; exact hV j (by omega))
    refine ⟨h2, V2, ?_, X2, O1.trans O2, (Sm.refl.upd (by decide)).trans M2, v2⟩
    show s_X14_thing_190_b (s_X14_thing_190 fu) 104 (jI i) h = _
    unfold s_X14_thing_190_b
    rw [if_neg (show ¬ (3 : Int32) ≤ jI i from fun z => by have := (jI_le (j := 3) (by omega) (by omega)).mp z; omega), g66, Option.bind_some, e1, Option.bind_some, jI_inc]
    exact e2
theorem th190_at {h : aH} {S : Nat → Int32} {V : Nat → Nat → Int32} (C : RC h S wd t fv nv V Z A m F B W G) : ∃ h' S' V', s_X14_thing_190 FU 104 0 h = some (.inl (some (.int (jI (F 12)))), h') ∧ RC h' S' wd t fv nv V' Z A m F B W G ∧ Ou h h' ∧ Sm [148, 149, 151, 177, 181] V V' ∧ okLd V' A m F ∧ (∀ j, j < 3 → V' 181 j = 0) ∧ (∀ j, j < 62 → V' 177 j = -1) ∧ (S' 1 = 0 ∧ S' 2 = -1 ∧ S' 25 = 0 ∧ S' 59 = 0 ∧ S' 67 = 0 ∧ S' 68 = 0) ∧ ∀ j, j ≠ 1 → j ≠ 2 → j ≠ 25 → j ≠ 59 → j ≠ 67 → j ≠ 68 → S' j = S j := by
  obtain ⟨h0, V0, e0, C0, O0, M0, v0⟩ := th190_go 3 0 FU h V rfl (by unfold FU; omega) C (fun j hj => absurd hj (Nat.not_lt_zero _))
  obtain ⟨h1, e1, C1, O1⟩ := C0.pS (k := 67) rfl (Or.inr (by decide)) 0
  obtain ⟨h2, e2, C2, O2⟩ := C1.pS (k := 68) rfl (Or.inr (by decide)) 0
  obtain ⟨h3, V3, e3, C3, O3, M3, v3⟩ := C2.forgets
  obtain ⟨h4, V4, e4, C4, O4, M4, v4⟩ := C3.leads
  obtain ⟨h5, e5, C5, O5⟩ := C4.pS (k := 25) rfl (Or.inr (by decide)) 0
  obtain ⟨h6, e6, C6, O6⟩ := C5.done (jI (F 12))
  have e5' : pZ h4 (.ref 104) 14 25 0 = some h5 := by
    unfold pZ
    rw [if_pos (Or.inl rfl)]
    exact e5
  have e0' : s_X14_thing_190 FU 104 0 h = _ := e0
  refine ⟨h6, _, V4, ?_, C6, ((((((O0.trans O1).trans O2).trans O3).trans O4).trans O5).trans O6), ((M0.mono (by decide)).trans (M3.mono (by decide))).trans (M4.mono (by decide)), v4, fun j hj => ?_, fun j hj => ?_, ⟨rfl, rfl, rfl, rfl, rfl, rfl⟩, fun j j1 j2 j3 j4 j5 j6 => ?_⟩
  · rw [e0', e1, Option.bind_some, e2, Option.bind_some, C2.kO, cN_of e3, C3.kO, cN_of e4, e5', Option.bind_some, C5.g20, Option.bind_some, C5.kO, cI_of e6]
  · rw [M4 181 (by decide), M3 181 (by decide)]
    exact v0 j hj
  · rw [M4 177 (by decide)]
    exact v3 j hj
  · unfold twS
    rw [upd_ne j2, upd_ne j1, upd_ne j3, upd_ne j4, upd_ne j6, upd_ne j5]
theorem th143_go {S : Nat → Int32} : ∀ (r i fu : Nat) (h : aH) (V : Nat → Nat → Int32), i + r = F 12 → r < fu → RC h S wd t fv nv V Z A m F B W G → (∀ j, j < i → V 146 j = 1 ∧ V 147 j = 0 ∧ V 150 j = -1) →
    ∃ h' V', s_X14_thing_143 fu 104 (jI i) h = ((pF h' (.ref 104) 14 24 (.int 0)).bind fun h180 => (pF h180 (.ref 104) 14 32 (.int 0)).bind fun h185 => s_X14_thing_190 FU 104 0 h185) ∧ RC h' S wd t fv nv V' Z A m F B W G ∧ Ou h h' ∧ Sm [146, 147, 150] V V' ∧ ∀ j, j < F 12 → V' 146 j = 1 ∧ V' 147 j = 0 ∧ V' 150 j = -1
  | _, _, 0, _, _, _, hf, _, _ => absurd hf (Nat.not_lt_zero _)
  | 0, i, fu + 1, h, V, hi, _, C, hV => by
    have h400 := C.2.2.2.2.2.1.2.2.2.2.1
    refine ⟨h, V, ?_, C, Ou.refl, Sm.refl, fun j hj => hV j (by omega)⟩
    show s_X14_thing_143_b (s_X14_thing_143 fu) 104 (jI i) h = _
    unfold s_X14_thing_143_b
    rw [C.g20, Option.bind_some, if_pos ((jI_le (by omega) (by omega)).mpr (show F 12 ≤ i by omega))]
  | r + 1, i, fu + 1, h, V, hi, hf, C, hV => by
    have h400 := C.2.2.2.2.2.1.2.2.2.2.1
    have g27 : gO h (.ref 104) 14 27 = some 146 := gO_of (ltE (by decide)) C.1.1 rfl
    obtain ⟨h1, e1, X1, O1⟩ := C.1.stN (a := 146) (j := i) rfl (show i < 400 by omega) 1
    have g28 : gO h1 (.ref 104) 14 28 = some 147 := gO_of (ltE (by decide)) X1.1 rfl
    obtain ⟨h2, e2, X2, O2⟩ := X1.stN (a := 147) (j := i) rfl (show i < 400 by omega) 0
    have g31 : gO h2 (.ref 104) 14 31 = some 150 := gO_of (ltE (by decide)) X2.1 rfl
    obtain ⟨h3, e3, X3, O3⟩ := X2.st (a := 150) (j := i) rfl rfl (show i < 400 by omega) (-1)
    have O03 := (O1.trans O2).trans O3
    obtain ⟨h4, V4, e4, C4, O4, M4, v4⟩ := th143_go r (i + 1) fu h3 _ (by omega) (by omega) (C.to X3 O03) (fun j hj => by
      have b1 : vp_nar (ryR 146) 1 = 1 := rfl
      have b0 : vp_nar (ryR 147) 0 = 0 := rfl
      rw [upd2_ne (show (146 : Nat) ≠ 150 by decide), upd2_ne (show (146 : Nat) ≠ 147 by decide), upd2_eq, upd2_ne (show (147 : Nat) ≠ 150 by decide), upd2_eq, upd2_ne (show (147 : Nat) ≠ 146 by decide), upd2_eq, upd2_ne (show (150 : Nat) ≠ 147 by decide), upd2_ne (show (150 : Nat) ≠ 146 by decide), b1, b0]
      by_cases u : j = i
      · rw [u, upd_eq, upd_eq, upd_eq]
        exact ⟨rfl, rfl, rfl⟩
      · rw [upd_ne u, upd_ne u, upd_ne u]
        exact hV j (by omega))
    refine ⟨h4, V4, ?_, C4, O03.trans O4, (((Sm.refl.upd (by decide)).upd (by decide)).upd (by decide)).trans M4, v4⟩
    have e1' : stN .boolean h (.ref 146) (jI i) 1 = some h1 := e1
    have e2' : stN .boolean h1 (.ref 147) (jI i) 0 = some h2 := e2
    show s_X14_thing_143_b (s_X14_thing_143 fu) 104 (jI i) h = _
    unfold s_X14_thing_143_b
    rw [C.g20, Option.bind_some, if_neg (fun z => by have := (jI_le (by omega) (by omega)).mp z; omega), g27, Option.bind_some, e1', Option.bind_some, g28, Option.bind_some, e2', Option.bind_some, g31, Option.bind_some, e3, Option.bind_some, jI_inc]
    exact e4
theorem th143_at {h : aH} {S : Nat → Int32} {V : Nat → Nat → Int32} (C : RC h S wd t fv nv V Z A m F B W G) : ∃ h' S' V', s_X14_thing_143 FU 104 0 h = some (.inl (some (.int (jI (F 12)))), h') ∧ RC h' S' wd t fv nv V' Z A m F B W G ∧ Ou h h' ∧ Sm [146, 147, 148, 149, 150, 151, 177, 181] V V' ∧ okLd V' A m F ∧ (∀ j, j < 3 → V' 181 j = 0) ∧ (∀ j, j < 62 → V' 177 j = -1) ∧ (∀ j, j < F 12 → V' 146 j = 1 ∧ V' 147 j = 0 ∧ V' 150 j = -1) ∧ (S' 1 = 0 ∧ S' 2 = -1 ∧ S' 24 = 0 ∧ S' 25 = 0 ∧ S' 32 = 0 ∧ S' 59 = 0 ∧ S' 67 = 0 ∧ S' 68 = 0) ∧ ∀ j, j ≠ 1 → j ≠ 2 → j ≠ 24 → j ≠ 25 → j ≠ 32 → j ≠ 59 → j ≠ 67 → j ≠ 68 → S' j = S j := by
  have h400 := C.2.2.2.2.2.1.2.2.2.2.1
  obtain ⟨h0, V0, e0, C0, O0, M0, v0⟩ := th143_go (F 12) 0 FU h V (Nat.zero_add _) (by unfold FU; omega) C (fun j hj => absurd hj (Nat.not_lt_zero _))
  obtain ⟨h1, e1, C1, O1⟩ := C0.pS (k := 24) rfl (Or.inr (by decide)) 0
  obtain ⟨h2, e2, C2, O2⟩ := C1.pS (k := 32) rfl (Or.inr (by decide)) 0
  obtain ⟨h3, S3, V3, e3, C3, O3, M3, l3, a3, b3, ⟨c1, c2, c3, c4, c5, c6⟩, d3⟩ := th190_at C2
  have e0' : s_X14_thing_143 FU 104 0 h = _ := e0
  refine ⟨h3, S3, V3, ?_, C3, ((O0.trans O1).trans O2).trans O3, (M0.mono (by decide)).trans (M3.mono (by decide)), l3, a3, b3, fun j hj => ?_, ⟨c1, c2, ?_, c3, ?_, c4, c5, c6⟩, fun j j1 j2 j3 j4 j5 j6 j7 j8 => ?_⟩
  · rw [e0', e1, Option.bind_some, e2, Option.bind_some, e3]
  · rw [M3 146 (by decide), M3 147 (by decide), M3 150 (by decide)]
    exact v0 j hj
  · rw [d3 24 (by decide) (by decide) (by decide) (by decide) (by decide) (by decide)]
    rfl
  · rw [d3 32 (by decide) (by decide) (by decide) (by decide) (by decide) (by decide)]
    rfl
  · rw [d3 j j1 j2 j4 j6 j7 j8, upd_ne j5, upd_ne j3]
end
