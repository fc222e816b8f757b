/-! the reference's world: its object at 104, its rows at 119 .. 183 -/
def upd2 {α : Type} (V : Nat → α) (a : Nat) (g : α) : Nat → α := fun k => if k = a then g else V k
theorem upd2_eq {α : Type} {V : Nat → α} {a : Nat} {g : α} : upd2 V a g a = g := if_pos rfl
theorem upd2_ne {α : Type} {V : Nat → α} {a k : Nat} {g : α} (h : k ≠ a) : upd2 V a g k = V k := if_neg h
def xFs (S : Nat → Int32) (wd : Int64) (t f n : Value) : List Value := [.int (S 0), .int (S 1), .int (S 2), .int (S 3), t, f, n, .ref 118, .ref 119, .int (S 9), .int (S 10), .int (S 11), .int (S 12), .int (S 13), .int (S 14), .int (S 15), .int (S 16), .int (S 17), .long wd, .ref 120, .int (S 20), .int (S 21), .int (S 22), .int (S 23), .int (S 24), .int (S 25), .ref 133, .ref 146, .ref 147, .ref 148, .ref 149, .ref 150, .int (S 32), .ref 151, .ref 152, .ref 153, .ref 154, .ref 155, .ref 156, .ref 157, .ref 158, .ref 159, .ref 160, .ref 161, .ref 162, .ref 163, .ref 164, .ref 165, .ref 166, .ref 167, .int (S 50), .ref 168, .ref 169, .ref 170, .ref 171, .ref 172, .int (S 56), .ref 173, .ref 174, .int (S 59), .ref 175, .ref 176, .ref 177, .ref 178, .ref 179, .ref 180, .ref 181, .int (S 67), .int (S 68), .ref 182]
def ryR (k : Nat) : FieldType := match k with
  | 119 => .byte | 146 => .boolean | 147 => .boolean | 151 => .short | 161 => .boolean | 178 => .boolean | 179 => .boolean | 180 => .boolean | _ => .int
def lnR (k : Nat) : Nat := match k with
  | 119 => 400 | 146 => 400 | 147 => 400 | 148 => 11 | 149 => 400 | 150 => 400 | 151 => 97200 | 152 => 46800 | 153 => 13 | 154 => 13 | 155 => 400 | 156 => 39 | 157 => 400 | 158 => 400 | 159 => 8400 | 160 => 8400 | 161 => 3600
  | 162 => 7 | 163 => 9 | 164 => 6 | 165 => 6 | 166 => 400 | 167 => 400 | 168 => 18 | 169 => 3 | 170 => 3 | 171 => 9 | 172 => 9 | 173 => 9 | 174 => 4 | 175 => 31 | 176 => 62 | 177 => 62 | 178 => 400 | 179 => 400 | 180 => 400 | 181 => 3 | 182 => 400 | _ => 1
def inR (k : Nat) : Bool := decide (k = 119 ∨ (146 ≤ k ∧ k ≤ 161) ∨ (163 ≤ k ∧ k ≤ 166) ∨ (175 ≤ k ∧ k ≤ 182))
def loR (k : Nat) : Bool := decide (k = 162 ∨ (167 ≤ k ∧ k ≤ 174) ∨ k = 183)
def rfC (k : Nat) : Bool := decide (k = 104 ∨ inR k = true ∨ loR k = true)
theorem lnR_le (k : Nat) : lnR k ≤ 97200 := by
  unfold lnR
  split <;> decide
theorem inR_lt {k : Nat} (h : inR k = true) : k < 184 := by
  have h := of_decide_eq_true h
  omega
theorem loR_lt {k : Nat} (h : loR k = true) : k < 184 := by
  have h := of_decide_eq_true h
  omega
theorem inR_not {k : Nat} (h : inR k = true) : loR k = false ∧ k ≠ 104 := by
  have h := of_decide_eq_true h
  exact ⟨decide_eq_false (by omega), by omega⟩
theorem loR_not {k : Nat} (h : loR k = true) : inR k = false ∧ k ≠ 104 := by
  have h := of_decide_eq_true h
  exact ⟨decide_eq_false (by omega), by omega⟩
def RW (h : aH) (S : Nat → Int32) (wd : Int64) (t f n : Value) (V : Nat → Nat → Int32) (Z : Nat → Nat → Int64) : Prop :=
  h[104]? = some (.inr (14, xFs S wd t f n)) ∧ (∀ k, inR k = true → h[k]? = some (.inl (ryR k, lnR k, .inl (V k)))) ∧ ∀ k, loR k = true → h[k]? = some (.inl (.long, lnR k, .inr (.inl (Z k))))
/-- only the reference's own rows and its object are touched -/
def Ou (h h' : aH) : Prop := h'.length = h.length ∧ ∀ k, rfC k = false → h'[k]? = h[k]?
theorem Ou.refl {h : aH} : Ou h h := ⟨rfl, fun _ _ => rfl⟩
theorem Ou.trans {h1 h2 h3 : aH} (a : Ou h1 h2) (b : Ou h2 h3) : Ou h1 h3 := ⟨b.1.trans a.1, fun k hk => (b.2 k hk).trans (a.2 k hk)⟩
theorem Ou.set {h : aH} {k : Nat} {c : aC} (hk : rfC k = true) : Ou h (h.set k c) := ⟨List.length_set .., fun j hj => set_ne (fun e => by rw [e, hj] at hk; cases hk)⟩
section
variable {h : aH} {S : Nat → Int32} {wd : Int64} {t f n : Value} {V : Nat → Nat → Int32} {Z : Nat → Nat → Int64}
theorem RW.ld (X : RW h S wd t f n V Z) {a j : Nat} (ha : inR a = true) (hj : j < lnR a) : ldI (ryR a) h (.ref a) (jI j) = some (V a j) :=
  ldI_of (ltE (by have := inR_lt ha; omega)) (X.2.1 a ha) hj (by have := lnR_le a; omega)
theorem RW.ldJ (X : RW h S wd t f n V Z) {a j : Nat} (ha : loR a = true) (hj : j < lnR a) : ldJ h (.ref a) (jI j) = some (Z a j) :=
  ldJ_of (ltE (by have := loR_lt ha; omega)) (X.2.2 a ha) hj (by have := lnR_le a; omega)
theorem RW.row (X : RW h S wd t f n V Z) {a : Nat} {g : Nat → Int32} (ha : inR a = true) : RW (h.set a (.inl (ryR a, lnR a, .inl g))) S wd t f n (upd2 V a g) Z ∧ Ou h (h.set a (.inl (ryR a, lnR a, .inl g))) := by
  refine ⟨⟨?_, fun k hk => ?_, fun k hk => ?_⟩, Ou.set (by simp [rfC, ha])⟩
  · rw [set_ne (inR_not ha).2]
    exact X.1
  · by_cases q : k = a
    · subst q
      rw [set_eq (X.2.1 k hk), upd2_eq]
    · rw [set_ne (fun e => q e.symm), upd2_ne q]
      exact X.2.1 k hk
  · rw [set_ne (fun e => by rw [e, (loR_not hk).1] at ha; cases ha)]
    exact X.2.2 k hk
theorem RW.rowJ (X : RW h S wd t f n V Z) {a : Nat} {g : Nat → Int64} (ha : loR a = true) : RW (h.set a (.inl (.long, lnR a, .inr (.inl g)))) S wd t f n V (upd2 Z a g) ∧ Ou h (h.set a (.inl (.long, lnR a, .inr (.inl g)))) := by
  refine ⟨⟨?_, fun k hk => ?_, fun k hk => ?_⟩, Ou.set (by simp [rfC, ha])⟩
  · rw [set_ne (loR_not ha).2]
    exact X.1
  · rw [set_ne (fun e => by rw [e, (inR_not hk).1] at ha; cases ha)]
    exact X.2.1 k hk
  · by_cases q : k = a
    · subst q
      rw [set_eq (X.2.2 k hk), upd2_eq]
    · rw [set_ne (fun e => q e.symm), upd2_ne q]
      exact X.2.2 k hk
theorem RW.st (X : RW h S wd t f n V Z) {a j : Nat} (ha : inR a = true) (hty : ryR a = .int) (hj : j < lnR a) (x : Int32) :
    ∃ h', stI h (.ref a) (jI j) x = some h' ∧ RW h' S wd t f n (upd2 V a (upd (V a) j x)) Z ∧ Ou h h' := by
  have hc := X.2.1 a ha
  rw [hty] at hc
  have r := X.row (g := upd (V a) j x) ha
  rw [hty] at r
  exact ⟨_, stI_of (ltE (by have := inR_lt ha; omega)) hc hj (by have := lnR_le a; omega), r.1, r.2⟩
theorem RW.stN (X : RW h S wd t f n V Z) {a j : Nat} (ha : inR a = true) (hj : j < lnR a) (x : Int32) :
    ∃ h', stN (ryR a) h (.ref a) (jI j) x = some h' ∧ RW h' S wd t f n (upd2 V a (upd (V a) j (vp_nar (ryR a) x))) Z ∧ Ou h h' := by
  have r := X.row (g := upd (V a) j (vp_nar (ryR a) x)) ha
  exact ⟨_, stN_of (ltE (by have := inR_lt ha; omega)) (X.2.1 a ha) hj (by have := lnR_le a; omega), r.1, r.2⟩
theorem RW.stJ (X : RW h S wd t f n V Z) {a j : Nat} (ha : loR a = true) (hj : j < lnR a) (x : Int64) :
    ∃ h', stJ h (.ref a) (jI j) x = some h' ∧ RW h' S wd t f n V (upd2 Z a (vp_updL (Z a) j x)) ∧ Ou h h' := by
  have r := X.rowJ (g := vp_updL (Z a) j x) ha
  exact ⟨_, stJ_of (ltE (by have := loR_lt ha; omega)) (X.2.2 a ha) hj (by have := lnR_le a; omega), r.1, r.2⟩
/-- the object changed -/
theorem RW.obj (X : RW h S wd t f n V Z) {S' : Nat → Int32} {wd' : Int64} {t' f' n' : Value} : RW (h.set 104 (.inr (14, xFs S' wd' t' f' n'))) S' wd' t' f' n' V Z ∧ Ou h (h.set 104 (.inr (14, xFs S' wd' t' f' n'))) := by
  refine ⟨⟨set_eq X.1, fun k hk => ?_, fun k hk => ?_⟩, Ou.set rfl⟩
  · rw [set_ne (inR_not hk).2.symm]
    exact X.2.1 k hk
  · rw [set_ne (loR_not hk).2.symm]
    exact X.2.2 k hk
theorem RW.kO {β : Type} {k : Option β} (X : RW h S wd t f n V Z) : kO h 104 14 k = k := kO_of (ltE (by decide)) X.1
end
/-- where a Thing may lie -/
def okt (t : Nat) : Prop := t = 105 ∨ t = 120 ∨ t = 133 ∨ 183 < t
theorem okt_cell {t k : Nat} (ht : okt t) (hk : k ≤ 12) : rfC (t + k) = false := by
  have e : t + k ≠ 104 ∧ (t + k < 119 ∨ (119 < t + k ∧ t + k < 146) ∨ 183 < t + k) := by
    rcases ht with rfl | rfl | rfl | h <;> omega
  refine decide_eq_false ?_
  rintro (q | q | q)
  · omega
  · have := of_decide_eq_true q
    omega
  · have := of_decide_eq_true q
    omega
theorem isT.ou {h h' : aH} {t : Nat} {B : Nat → Nat → Int32} {W : Nat → Int64} {G : Nat → Nat} (H : isT h t B W G) (O : Ou h h') (ht : okt t) : isT h' t B W G := by
  obtain ⟨a, h0, h1, h2⟩ := H
  exact ⟨a, by rw [O.2 t (okt_cell (k := 0) ht (by decide))]; exact h0, by rw [O.2 _ (okt_cell ht (by decide))]; exact h1, fun j j1 j2 j3 => by rw [O.2 _ (okt_cell ht j2)]; exact h2 j j1 j2 j3⟩
theorem okt_ne {t : Nat} (ht : okt t) : (t < 104 ∨ 149 < t ∨ t + 12 < 148) ∧ (t + 12 < 148 ∨ 149 < t) := by
  rcases ht with rfl | rfl | rfl | h <;> omega
theorem RW.isX {h : aH} {S : Nat → Int32} {wd : Int64} {f n : Value} {V : Nat → Nat → Int32} {Z : Nat → Nat → Int64} {t : Nat} (X : RW h S wd (.ref t) f n V Z) : isX h t (xFs S wd (.ref t) f n) := ⟨X.1, rfl, rfl, rfl⟩
/-! division of small numbers -/
theorem jI_div {x w : Nat} (hx : x < 2147483648) (hw : 0 < w) (hw2 : w < 2147483648) : jI x / jI w = jI (x / w) := by
  have hd : x / w ≤ x := Nat.div_le_self x w
  apply Int32.toInt_inj.mp
  rw [Int32.toInt_div, jI_int hx, jI_int hw2, jI_int (by omega)]
  have e : (x : Int).tdiv (w : Int) = ((x / w : Nat) : Int) := by
    rw [Int.ofNat_tdiv]
  rw [e]
  obtain ⟨d, hq⟩ : ∃ d, d = x / w := ⟨_, rfl⟩
  rw [← hq] at hd ⊢
  exact Int.bmod_eq_of_le (by omega) (by omega)
theorem jI_mod {x w : Nat} (hx : x < 2147483648) (hw : 0 < w) (hw2 : w < 2147483648) : jI x - jI x / jI w * jI w = jI (x % w) := by
  rw [jI_div hx hw hw2, jI_mul]
  have e : jI x = jI (x % w) + jI (x / w * w) := by
    rw [jI_add]
    congr 1
    have := Nat.mod_add_div x w
    rw [Nat.mul_comm] at this
    exact this.symm
  rw [e]
  exact Int32.add_sub_cancel _ _
theorem i32_sub0 (x : Int32) : x - 0 = x := Int32.sub_zero x
