/-! the class's world: objects at 0, 56, 60, 69, 78, 81, 92, 99; rows; eight rows that grow -/
def oF (S : Nat → Nat → Int32) (D : Nat → Nat) (a : Nat) : Nat × List Value := match a with
  | 0 => (11, [.ref 1, .int (S 0 1), .int (S 0 2), .int (S 0 3), .int (S 0 4), .int (S 0 5), .ref 2, .ref 3, .ref 23, .ref 43, .ref 51, .ref 56, .ref 60, .ref 69, .ref 78, .ref 81, .ref 92, .ref 99])
  | 56 => (3, [.ref 3, .ref 57, .int (S 56 2), .int (S 56 3), .ref (D 58), .ref (D 59)])
  | 60 => (10, [.ref 3, .ref 56, .ref 61, .int (S 60 3), .ref 62, .ref 63, .ref (D 64), .int (S 60 7), .ref 65, .ref 66, .ref 67, .ref (D 68)])
  | 69 => (7, [.ref 3, .ref 56, .ref 60, .ref 70, .int (S 69 4), .int (S 69 5), .int (S 69 6), .ref 71, .ref 72, .ref 73, .ref 74, .ref (D 75), .ref 76, .ref 77])
  | 78 => (4, [.ref 3, .ref 56, .ref 60, .int (S 78 3), .ref (D 79), .ref (D 80)])
  | 81 => (1, [.ref 3, .int (S 81 1), .int (S 81 2), .ref 82, .ref 83, .ref 84, .ref 85, .ref 86, .int (S 81 8), .ref 87, .ref 88, .ref 89, .ref 90, .ref 91])
  | 92 => (9, [.ref 3, .ref 56, .ref 60, .ref 93, .int (S 92 4), .ref 94, .ref 95, .ref 96, .ref (D 97), .ref 98, .int (S 92 10)])
  | _ => (5, [.ref 3, .ref 56, .ref 60, .ref 69, .ref 100, .ref 101, .int (S 99 6), .int (S 99 7), .int (S 99 8), .ref 102, .ref 103])
def obC (a : Nat) : Bool := decide (a = 0 ∨ a = 56 ∨ a = 60 ∨ a = 69 ∨ a = 78 ∨ a = 81 ∨ a = 92 ∨ a = 99)
def inC (k : Nat) : Bool := decide (k = 1 ∨ k = 2 ∨ k = 57 ∨ (61 ≤ k ∧ k ≤ 63) ∨ (65 ≤ k ∧ k ≤ 67) ∨ (70 ≤ k ∧ k ≤ 74) ∨ k = 76 ∨ k = 77 ∨ (82 ≤ k ∧ k ≤ 84) ∨ (93 ≤ k ∧ k ≤ 96) ∨ k = 98 ∨ (100 ≤ k ∧ k ≤ 103))
def loC (k : Nat) : Bool := decide (85 ≤ k ∧ k ≤ 91)
def dyC (k : Nat) : Bool := decide (k = 58 ∨ k = 59 ∨ k = 64 ∨ k = 68 ∨ k = 75 ∨ k = 79 ∨ k = 80 ∨ k = 97)
def cC (k : Nat) : Bool := decide (k < 3 ∨ (56 ≤ k ∧ k ≤ 103))
def lnC (k : Nat) : Nat := match k with
  | 1 => 400 | 2 => 9 | 57 => 9 | 61 => 9 | 62 => 13 | 63 => 13 | 65 => 400 | 66 => 400 | 67 => 13 | 70 => 9 | 71 => 400 | 72 => 400 | 73 => 400 | 74 => 400 | 76 => 13 | 77 => 13 | 82 => 9 | 83 => 6 | 84 => 6
  | 85 => 4 | 86 => 18 | 87 => 3 | 88 => 3 | 89 => 3 | 90 => 4 | 91 => 4 | 93 => 9 | 94 => 31 | 95 => 62 | 96 => 62 | 98 => 6 | 100 => 9 | 101 => 3 | 102 => 400 | _ => 400
def mxD (k : Nat) : Nat := match k with
  | 58 => 97200 | 59 => 46800 | 64 => 3600 | 68 => 3600 | 75 => 46800 | 79 => 8400 | 80 => 8400 | _ => 74400
def sumL (Ln : Nat → Nat) : Nat := Ln 58 + Ln 59 + Ln 64 + Ln 68 + Ln 75 + Ln 79 + Ln 80 + Ln 97
/-- where the eight rows lie, and how long they are -/
def DA (h : aH) (D Ln : Nat → Nat) (b : Nat) : Prop := (∀ i, dyC i = true → (D i = i ∧ Ln i = 0) ∨ 183 < D i) ∧ (∀ i j, dyC i = true → dyC j = true → D i = D j → i = j) ∧ (∀ i, dyC i = true → Ln i ≤ 2 * mxD i) ∧ b ≤ 200 ∧ 184 ≤ h.length ∧ h.length ≤ b + sumL Ln
def CW (h : aH) (S : Nat → Nat → Int32) (V : Nat → Nat → Int32) (Z : Nat → Nat → Int64) (D Ln : Nat → Nat) (b : Nat) : Prop :=
  (∀ a, obC a = true → h[a]? = some (.inr (oF S D a))) ∧ (∀ k, inC k = true → h[k]? = some (.inl (.int, lnC k, .inl (V k)))) ∧ (∀ k, loC k = true → h[k]? = some (.inl (.long, lnC k, .inr (.inl (Z k))))) ∧
  (∀ i, dyC i = true → h[D i]? = some (.inl (.int, Ln i, .inl (V i)))) ∧ DA h D Ln b
/-- only the class's own cells are touched -/
def Oc (D : Nat → Nat) (h h' : aH) : Prop := h.length ≤ h'.length ∧ ∀ k, k < h.length → cC k = false → (∀ i, dyC i = true → k ≠ D i) → h'[k]? = h[k]?
theorem Oc.refl {D : Nat → Nat} {h : aH} : Oc D h h := ⟨Nat.le_refl _, fun _ _ _ _ => rfl⟩
theorem Oc.trans {D : Nat → Nat} {h1 h2 h3 : aH} (a : Oc D h1 h2) (b : Oc D h2 h3) : Oc D h1 h3 := ⟨Nat.le_trans a.1 b.1, fun k hk h1 h2 => (b.2 k (Nat.lt_of_lt_of_le hk a.1) h1 h2).trans (a.2 k hk h1 h2)⟩
/-- rows that grew lie behind -/
def Gr (h : aH) (D D' : Nat → Nat) : Prop := ∀ i, dyC i = true → D' i = D i ∨ h.length ≤ D' i
theorem Gr.refl {h : aH} {D : Nat → Nat} : Gr h D D := fun _ _ => Or.inl rfl
theorem Oc.trans2 {D D' : Nat → Nat} {h1 h2 h3 : aH} (a : Oc D h1 h2) (g : Gr h1 D D') (b : Oc D' h2 h3) : Oc D h1 h3 := ⟨Nat.le_trans a.1 b.1, fun k hk q1 q2 => (b.2 k (Nat.lt_of_lt_of_le hk a.1) q1 (fun i hi => by
  rcases g i hi with z | z
  · rw [z]; exact q2 i hi
  · omega)).trans (a.2 k hk q1 q2)⟩
theorem Gr.trans {D1 D2 D3 : Nat → Nat} {h1 h2 : aH} (hl : h1.length ≤ h2.length) (a : Gr h1 D1 D2) (b : Gr h2 D2 D3) : Gr h1 D1 D3 := fun i hi => by
  rcases b i hi with z | z
  · rw [z]; exact a i hi
  · exact Or.inr (by omega)
theorem inC_lt {k : Nat} (h : inC k = true) : k < 104 ∧ cC k = true ∧ obC k = false ∧ loC k = false ∧ dyC k = false := by
  have h := of_decide_eq_true h
  exact ⟨by omega, decide_eq_true (by omega), decide_eq_false (by omega), decide_eq_false (by omega), decide_eq_false (by omega)⟩
theorem loC_lt {k : Nat} (h : loC k = true) : k < 104 ∧ cC k = true ∧ obC k = false ∧ inC k = false ∧ dyC k = false := by
  have h := of_decide_eq_true h
  exact ⟨by omega, decide_eq_true (by omega), decide_eq_false (by omega), decide_eq_false (by omega), decide_eq_false (by omega)⟩
theorem obC_lt {k : Nat} (h : obC k = true) : k < 104 ∧ cC k = true ∧ inC k = false ∧ loC k = false ∧ dyC k = false := by
  have h := of_decide_eq_true h
  exact ⟨by omega, decide_eq_true (by omega), decide_eq_false (by omega), decide_eq_false (by omega), decide_eq_false (by omega)⟩
theorem dyC_lt {k : Nat} (h : dyC k = true) : k < 104 ∧ cC k = true ∧ inC k = false ∧ loC k = false ∧ obC k = false := by
  have h := of_decide_eq_true h
  exact ⟨by omega, decide_eq_true (by omega), decide_eq_false (by omega), decide_eq_false (by omega), decide_eq_false (by omega)⟩
theorem lnC_le (k : Nat) : lnC k ≤ 400 := by
  unfold lnC
  split <;> decide
theorem mxD_le (k : Nat) : mxD k ≤ 97200 := by
  unfold mxD
  split <;> decide
theorem DA.len {h : aH} {D Ln : Nat → Nat} {b : Nat} (A : DA h D Ln b) : h.length ≤ 600000 := by
  obtain ⟨-, -, h3, h4, -, h5⟩ := A
  have a1 : Ln 58 ≤ 2 * 97200 := h3 58 rfl
  have a2 : Ln 59 ≤ 2 * 46800 := h3 59 rfl
  have a3 : Ln 64 ≤ 2 * 3600 := h3 64 rfl
  have a4 : Ln 68 ≤ 2 * 3600 := h3 68 rfl
  have a5 : Ln 75 ≤ 2 * 46800 := h3 75 rfl
  have a6 : Ln 79 ≤ 2 * 8400 := h3 79 rfl
  have a7 : Ln 80 ≤ 2 * 8400 := h3 80 rfl
  have a8 : Ln 97 ≤ 2 * 74400 := h3 97 rfl
  unfold sumL at h5
  omega
section
variable {h : aH} {S : Nat → Nat → Int32} {V : Nat → Nat → Int32} {Z : Nat → Nat → Int64} {D Ln : Nat → Nat} {b : Nat}
/-- a cell below 104 that is none of the eight's is no row of theirs -/
theorem CW.notD (X : CW h S V Z D Ln b) {k i : Nat} (hk : k < 184) (hd : dyC k = false) (hi : dyC i = true) : D i ≠ k := fun e => by
  rcases X.2.2.2.2.1 i hi with ⟨z, -⟩ | z
  · rw [z] at e
    rw [e, hd] at hi
    cases hi
  · omega
theorem CW.dlt (X : CW h S V Z D Ln b) {i : Nat} (hi : dyC i = true) : D i < aE := by
  have h1 := (List.getElem?_eq_some_iff.mp (X.2.2.2.1 i hi)).1
  have h2 := X.2.2.2.2.len
  exact Nat.lt_of_lt_of_le (Nat.lt_of_lt_of_le h1 h2) (by decide)
theorem CW.ob (X : CW h S V Z D Ln b) {a : Nat} (ha : obC a = true) : h[a]? = some (.inr (oF S D a)) := X.1 a ha
theorem CW.ld (X : CW h S V Z D Ln b) {a j : Nat} (ha : inC a = true) (hj : j < lnC a) : ldI .int h (.ref a) (jI j) = some (V a j) :=
  ldI_of (ltE (by have := (inC_lt ha).1; omega)) (X.2.1 a ha) hj (by have := lnC_le a; omega)
theorem CW.ldJ (X : CW h S V Z D Ln b) {a j : Nat} (ha : loC a = true) (hj : j < lnC a) : ldJ h (.ref a) (jI j) = some (Z a j) :=
  ldJ_of (ltE (by have := (loC_lt ha).1; omega)) (X.2.2.1 a ha) hj (by have := lnC_le a; omega)
theorem CW.lnD (X : CW h S V Z D Ln b) {i : Nat} (hi : dyC i = true) : Ln i ≤ 200000 := by
  have h1 := X.2.2.2.2.2.2.1 i hi
  have h2 := mxD_le i
  omega
theorem CW.ldD (X : CW h S V Z D Ln b) {i j : Nat} (hi : dyC i = true) (hj : j < Ln i) : ldI .int h (.ref (D i)) (jI j) = some (V i j) :=
  ldI_of (X.dlt hi) (X.2.2.2.1 i hi) hj (by have := X.lnD hi; omega)
theorem Oc.set {k : Nat} {c : aC} (hk : cC k = true ∨ ∃ i, dyC i = true ∧ k = D i) : Oc D h (h.set k c) := ⟨Nat.le_of_eq (List.length_set ..).symm, fun j _ h1 h2 => set_ne (fun e => by
  rcases hk with z | ⟨i, z1, z2⟩
  · rw [e, h1] at z; cases z
  · exact h2 i z1 (by omega))⟩
theorem DA.set {k : Nat} {c : aC} (A : DA h D Ln b) : DA (h.set k c) D Ln b := by
  obtain ⟨h1, h2, h3, h4, h5, h6⟩ := A
  exact ⟨h1, h2, h3, h4, by rw [List.length_set]; exact h5, by rw [List.length_set]; exact h6⟩
theorem CW.row (X : CW h S V Z D Ln b) {a : Nat} {g : Nat → Int32} (ha : inC a = true) : CW (h.set a (.inl (.int, lnC a, .inl g))) S (upd2 V a g) Z D Ln b ∧ Oc D h (h.set a (.inl (.int, lnC a, .inl g))) := by
  have f := inC_lt ha
  refine ⟨⟨fun k hk => ?_, fun k hk => ?_, fun k hk => ?_, fun i hi => ?_, X.2.2.2.2.set⟩, Oc.set (Or.inl f.2.1)⟩
  · rw [set_ne (fun e => by rw [← e, f.2.2.1] at hk; cases hk)]
    exact X.1 k hk
  · by_cases q : k = a
    · subst q
      rw [set_eq (X.2.1 k hk), upd2_eq]
    · rw [set_ne (fun e => q e.symm), upd2_ne q]
      exact X.2.1 k hk
  · rw [set_ne (fun e => by rw [← e, f.2.2.2.1] at hk; cases hk)]
    exact X.2.2.1 k hk
  · rw [set_ne (X.notD (by omega) f.2.2.2.2 hi).symm, upd2_ne (fun e => by rw [e, f.2.2.2.2] at hi; cases hi)]
    exact X.2.2.2.1 i hi
theorem CW.rowJ (X : CW h S V Z D Ln b) {a : Nat} {g : Nat → Int64} (ha : loC a = true) : CW (h.set a (.inl (.long, lnC a, .inr (.inl g)))) S V (upd2 Z a g) D Ln b ∧ Oc D h (h.set a (.inl (.long, lnC a, .inr (.inl g)))) := by
  have f := loC_lt ha
  refine ⟨⟨fun k hk => ?_, fun k hk => ?_, fun k hk => ?_, fun i hi => ?_, X.2.2.2.2.set⟩, Oc.set (Or.inl f.2.1)⟩
  · rw [set_ne (fun e => by rw [← e, f.2.2.1] at hk; cases hk)]
    exact X.1 k hk
  · rw [set_ne (fun e => by rw [← e, f.2.2.2.1] at hk; cases hk)]
    exact X.2.1 k hk
  · by_cases q : k = a
    · subst q
      rw [set_eq (X.2.2.1 k hk), upd2_eq]
    · rw [set_ne (fun e => q e.symm), upd2_ne q]
      exact X.2.2.1 k hk
  · rw [set_ne (X.notD (by omega) f.2.2.2.2 hi).symm]
    exact X.2.2.2.1 i hi
theorem CW.rowD (X : CW h S V Z D Ln b) {a : Nat} {g : Nat → Int32} (ha : dyC a = true) : CW (h.set (D a) (.inl (.int, Ln a, .inl g))) S (upd2 V a g) Z D Ln b ∧ Oc D h (h.set (D a) (.inl (.int, Ln a, .inl g))) := by
  have f := dyC_lt ha
  have key : ∀ k, k < 184 → dyC k = false → D a ≠ k := fun k hk hd => X.notD hk hd ha
  refine ⟨⟨fun k hk => ?_, fun k hk => ?_, fun k hk => ?_, fun i hi => ?_, X.2.2.2.2.set⟩, Oc.set (Or.inr ⟨a, ha, rfl⟩)⟩
  · have := obC_lt hk
    rw [set_ne (key k (by omega) this.2.2.2.2)]
    exact X.1 k hk
  · have := inC_lt hk
    rw [set_ne (key k (by omega) this.2.2.2.2), upd2_ne (fun e => by rw [e, f.2.2.1] at hk; cases hk)]
    exact X.2.1 k hk
  · have := loC_lt hk
    rw [set_ne (key k (by omega) this.2.2.2.2)]
    exact X.2.2.1 k hk
  · by_cases q : i = a
    · subst q
      rw [set_eq (X.2.2.2.1 i hi), upd2_eq]
    · rw [set_ne (fun e => q (X.2.2.2.2.2.1 a i ha hi e).symm), upd2_ne q]
      exact X.2.2.2.1 i hi
theorem CW.st (X : CW h S V Z D Ln b) {a j : Nat} (ha : inC a = true) (hj : j < lnC a) (x : Int32) :
    ∃ h', stI h (.ref a) (jI j) x = some h' ∧ CW h' S (upd2 V a (upd (V a) j x)) Z D Ln b ∧ Oc D h h' := by
  have r := X.row (g := upd (V a) j x) ha
  exact ⟨_, stI_of (ltE (by have := (inC_lt ha).1; omega)) (X.2.1 a ha) hj (by have := lnC_le a; omega), r.1, r.2⟩
theorem CW.stJ (X : CW h S V Z D Ln b) {a j : Nat} (ha : loC a = true) (hj : j < lnC a) (x : Int64) :
    ∃ h', stJ h (.ref a) (jI j) x = some h' ∧ CW h' S V (upd2 Z a (vp_updL (Z a) j x)) D Ln b ∧ Oc D h h' := by
  have r := X.rowJ (g := vp_updL (Z a) j x) ha
  exact ⟨_, stJ_of (ltE (by have := (loC_lt ha).1; omega)) (X.2.2.1 a ha) hj (by have := lnC_le a; omega), r.1, r.2⟩
theorem CW.stD (X : CW h S V Z D Ln b) {i j : Nat} (hi : dyC i = true) (hj : j < Ln i) (x : Int32) :
    ∃ h', stI h (.ref (D i)) (jI j) x = some h' ∧ CW h' S (upd2 V i (upd (V i) j x)) Z D Ln b ∧ Oc D h h' := by
  have r := X.rowD (g := upd (V i) j x) hi
  exact ⟨_, stI_of (X.dlt hi) (X.2.2.2.1 i hi) hj (by have := X.lnD hi; omega), r.1, r.2⟩
/-- an object's own fields changed -/
theorem CW.obj (X : CW h S V Z D Ln b) {a : Nat} {g : Nat → Int32} (ha : obC a = true) : CW (h.set a (.inr (oF (upd2 S a g) D a))) (upd2 S a g) V Z D Ln b ∧ Oc D h (h.set a (.inr (oF (upd2 S a g) D a))) := by
  have f := obC_lt ha
  refine ⟨⟨fun k hk => ?_, fun k hk => ?_, fun k hk => ?_, fun i hi => ?_, X.2.2.2.2.set⟩, Oc.set (Or.inl f.2.1)⟩
  · by_cases q : k = a
    · subst q
      rw [set_eq (X.1 k hk)]
    · rw [set_ne (fun e => q e.symm), X.1 k hk]
      have ha' := of_decide_eq_true ha
      have hk' := of_decide_eq_true hk
      rcases hk' with rfl | rfl | rfl | rfl | rfl | rfl | rfl | rfl <;> (simp only [oF]; rw [upd2_ne q])
  · rw [set_ne (fun e => by rw [← e, f.2.2.1] at hk; cases hk)]
    exact X.2.1 k hk
  · rw [set_ne (fun e => by rw [← e, f.2.2.2.1] at hk; cases hk)]
    exact X.2.2.1 k hk
  · rw [set_ne (X.notD (by omega) f.2.2.2.2 hi).symm]
    exact X.2.2.2.1 i hi
theorem isM.oc {h' : aH} {o : Nat} {A : Nat → Nat → Int32} {N : Nat → Int64} {F : Nat → Nat} (H : isM h o A N F) (X : CW h S V Z D Ln b) (O : Oc D h h') (ho : o = 3 ∨ o = 23) : isM h' o A N F := by
  have key : ∀ {k : Nat} {c : aC}, k ≤ 19 → h[o + k]? = some c → h'[o + k]? = some c := fun {k c} hk e => by
    rw [O.2 _ (List.getElem?_eq_some_iff.mp e).1 (decide_eq_false (by omega)) (fun i hi z => ?_)]
    · exact e
    · exact X.notD (k := o + k) (by omega) (decide_eq_false (by omega)) hi z.symm
  obtain ⟨a, h0, h1, h2, h3, q, f0, f1, f2, f3, f4, f5, f6, f7⟩ := H
  have e : ∀ {k : Nat} {c : aC}, k ≤ 7 → h[o + 12 + k]? = some c → h'[o + 12 + k]? = some c := fun {k c} hk e => by
    rw [show o + 12 + k = o + (12 + k) by omega] at e ⊢
    exact key (by omega) e
  exact ⟨a, key (k := 0) (by omega) h0, key (by omega) h1, key (by omega) h2, fun j j1 j2 => key (by omega) (h3 j j1 j2), q, e (k := 0) (by omega) f0, e (by omega) f1, e (by omega) f2, e (by omega) f3, e (by omega) f4, e (by omega) f5, e (by omega) f6, e (by omega) f7⟩
end
