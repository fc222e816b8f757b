/-! sums: a row of factors, each with the sign ahead of it (0 plus, 1 minus, 2 times), a slot (or -1) and a whole -/
abbrev pFa : Type := Int32 × Int32 × Int32
def cl6 (x : Int32) : Int32 := jmax (-1000000) (jmin 1000000 x)
def fVal (vals : Nat → Int32) (a : pFa) : Int32 := if 0 ≤ a.2.1 then vals a.2.1.toNatClampNeg else a.2.2
def sumGo (vals : Nat → Int32) : List pFa → Int32 → Int32 → Int32 → Int32
  | [], total, term, minus => cl6 (if minus = 0 then total + term else total - term)
  | a :: r, total, term, minus => if a.1 = 2 then sumGo vals r total (cl6 (term * fVal vals a)) minus
    else sumGo vals r (cl6 (if minus = 0 then total + term else total - term)) (fVal vals a) (if a.1 = 1 then 1 else 0)
def sumV (vals : Nat → Int32) (l : List pFa) : Int32 := sumGo vals l 0 0 0
/-- a piece of three rows -/
def seg3 (f g k : Nat → Int32) (i : Nat) : Nat → List pFa
  | 0 => []
  | n + 1 => (f i, g i, k i) :: seg3 f g k (i + 1) n
/-- the class's Formulas at o: its own eight cells -/
abbrev pF0 : Type := Nat × (Nat → Int32) × (Nat → Int32) × (Nat → Int32) × Nat × (Nat → Int32) × (Nat → Int32) × (Nat → Int32) × (Nat → Int32)
def isF (h : aH) (o : Nat) (nf : Nat) (jn sl wh : Nat → Int32) (no : Nat) (st mi en re : Nat → Int32) : Prop :=
  o + 7 < aE ∧ h[o]? = some (.inr (0, [.int (jI nf), .ref (o + 1), .ref (o + 2), .ref (o + 3), .int (jI no), .ref (o + 4), .ref (o + 5), .ref (o + 6), .ref (o + 7)])) ∧
  h[o + 1]? = some (.inl (.int, 60, .inl jn)) ∧ h[o + 2]? = some (.inl (.int, 60, .inl sl)) ∧ h[o + 3]? = some (.inl (.int, 60, .inl wh)) ∧
  h[o + 4]? = some (.inl (.int, 30, .inl st)) ∧ h[o + 5]? = some (.inl (.int, 30, .inl mi)) ∧ h[o + 6]? = some (.inl (.int, 30, .inl en)) ∧ h[o + 7]? = some (.inl (.int, 30, .inl re))
theorem isF.set {h : aH} {o nf no k : Nat} {jn sl wh st mi en re : Nat → Int32} {c : aC} (H : isF h o nf jn sl wh no st mi en re) (hk : k < o ∨ o + 7 < k) : isF (h.set k c) o nf jn sl wh no st mi en re := by
  obtain ⟨a, h0, h1, h2, h3, h4, h5, h6, h7⟩ := H
  exact ⟨a, by rw [set_ne (by omega)]; exact h0, by rw [set_ne (by omega)]; exact h1, by rw [set_ne (by omega)]; exact h2, by rw [set_ne (by omega)]; exact h3, by rw [set_ne (by omega)]; exact h4, by rw [set_ne (by omega)]; exact h5, by rw [set_ne (by omega)]; exact h6, by rw [set_ne (by omega)]; exact h7⟩
theorem isF.app {h h2 : aH} {o nf no : Nat} {jn sl wh st mi en re : Nat → Int32} (H : isF h o nf jn sl wh no st mi en re) : isF (h ++ h2) o nf jn sl wh no st mi en re := by
  have g : ∀ {k : Nat} {c : aC}, h[k]? = some c → (h ++ h2)[k]? = some c := fun {k c} e => by
    rw [List.getElem?_append_left (List.getElem?_eq_some_iff.mp e).1]; exact e
  obtain ⟨a, h0, h1, h2, h3, h4, h5, h6, h7⟩ := H
  exact ⟨a, g h0, g h1, g h2, g h3, g h4, g h5, g h6, g h7⟩
/-- a clamp written by hand, whatever is done with it -/
theorem cl6_if {β : Type} (g : Int32 → β) (x : Int32) : (if x ≤ 1000000 then (if (-1000000) ≤ x then g x else g (-1000000)) else g 1000000) = g (cl6 x) := by
  have n6 : (1000000 : Int32).toInt = 1000000 := by decide
  have m6 : (-1000000 : Int32).toInt = -1000000 := by decide
  by_cases q : x ≤ 1000000
  · have k1 : jmin 1000000 x = x := by
      unfold jmin
      split
      · rfl
      · rename_i z
        apply Int32.toInt_inj.mp
        rw [Int32.lt_iff_toInt_lt] at z
        rw [Int32.le_iff_toInt_le] at q
        omega
    rw [if_pos q]
    by_cases q2 : (-1000000) ≤ x
    · have k2 : cl6 x = x := by
        unfold cl6
        rw [k1]
        unfold jmax
        split
        · rfl
        · rename_i z
          apply Int32.toInt_inj.mp
          rw [Int32.lt_iff_toInt_lt] at z
          rw [Int32.le_iff_toInt_le] at q2
          omega
      rw [if_pos q2, k2]
    · have k2 : cl6 x = -1000000 := by
        unfold cl6
        rw [k1]
        unfold jmax
        rw [if_neg (fun z => by rw [Int32.lt_iff_toInt_lt] at z; rw [Int32.le_iff_toInt_le] at q2; omega)]
      rw [if_neg q2, k2]
  · have k2 : cl6 x = 1000000 := by
      unfold cl6
      have k1 : jmin 1000000 x = 1000000 := by
        unfold jmin
        rw [if_neg (fun z => by rw [Int32.lt_iff_toInt_lt] at z; rw [Int32.le_iff_toInt_le] at q; omega)]
      rw [k1]
      decide
    rw [if_neg q, k2]
section
variable {h : aH} {o nf no v : Nat} {jn sl wh st mi en re vals : Nat → Int32}
theorem sumOf_go (H : isF h o nf jn sl wh no st mi en re) (hv : v < aE) (hvc : h[v]? = some (.inl (.int, 9, .inl vals))) :
    ∀ (n i f : Nat) (total term minus : Int32), i + n ≤ 60 → n < f → (∀ k, i ≤ k → k < i + n → 0 ≤ sl k → (sl k).toNatClampNeg < 9) →
      s_X0_sumOf_12 f o (jI (i + n)) v total term minus (jI i) h = some (.inl (some (.int (sumGo vals (seg3 jn sl wh i n) total term minus))), h)
  | 0, i, 0, _, _, _, _, hf, _ => by omega
  | 0, i, f + 1, total, term, minus, h60, hf, hs => by
    show s_X0_sumOf_12_b (s_X0_sumOf_12 f) o (jI (i + 0)) v total term minus (jI i) h = _
    unfold s_X0_sumOf_12_b
    rw [if_pos ((jI_le (by omega) (by omega)).mpr (by omega))]
    simp only [s_X0_sumOf_187, seg3, sumGo]
    by_cases q : minus = 0
    · rw [if_pos q, if_pos q]
      exact cl6_if (fun z => (some (.inl (some (.int z)), h) : aO)) (total + term)
    · rw [if_neg q, if_neg q, Int32.sub_eq_add_neg]
      exact cl6_if (fun z => (some (.inl (some (.int z)), h) : aO)) (total + -term)
  | n + 1, i, 0, _, _, _, _, hf, _ => by omega
  | n + 1, i, f + 1, total, term, minus, h60, hf, hs => by
    have ih := fun t1 t2 t3 => sumOf_go H hv hvc n (i + 1) f t1 t2 t3 (by omega) (by omega) (fun k h1 h2 h3 => hs k (by omega) (by omega) h3)
    obtain ⟨ho, h0, h1, h2, h3, -⟩ := H
    show s_X0_sumOf_12_b (s_X0_sumOf_12 f) o (jI (i + (n + 1))) v total term minus (jI i) h = _
    unfold s_X0_sumOf_12_b
    rw [if_neg (fun q => by have := (jI_le (by omega) (by omega)).mp q; omega)]
    rw [show i + (n + 1) = i + 1 + n by omega]
    have e1 : gO h (.ref o) 0 1 = some (o + 1) := gO_of (by omega) h0 rfl
    have e2 : gO h (.ref o) 0 2 = some (o + 2) := gO_of (by omega) h0 rfl
    have e3 : gO h (.ref o) 0 3 = some (o + 3) := gO_of (by omega) h0 rfl
    have f1 : ldI .int h (.ref (o + 1)) (jI i) = some (jn i) := ldI_of (by omega) h1 (by omega) (by decide)
    have f2 : ldI .int h (.ref (o + 2)) (jI i) = some (sl i) := ldI_of (by omega) h2 (by omega) (by decide)
    have f3 : ldI .int h (.ref (o + 3)) (jI i) = some (wh i) := ldI_of (by omega) h3 (by omega) (by decide)
    have key : ∀ x : Int32, x = fVal vals (jn i, sl i, wh i) → s_X0_sumOf_47 (s_X0_sumOf_12 f) o (jI (i + 1 + n)) v total term minus (jI i) x h = some (.inl (some (.int (sumGo vals (seg3 jn sl wh i (n + 1)) total term minus))), h) := by
      intro x hx
      unfold s_X0_sumOf_47
      simp only [e1, f1, Option.bind_some, seg3, sumGo, s_X0_sumOf_93, s_X0_sumOf_113, s_X0_sumOf_142, s_X0_sumOf_164, jI_inc, ih, ← hx]
      by_cases q1 : jn i = 2
      · rw [if_pos q1, if_pos q1]
        exact cl6_if (fun z => (some (.inl (some (.int (sumGo vals (seg3 jn sl wh (i + 1) n) total z minus))), h) : aO)) (term * x)
      · rw [if_neg q1, if_neg q1]
        by_cases q2 : minus = 0
        · rw [if_pos q2, if_pos q2]
          by_cases q3 : jn i = 1
          · simp only [if_pos q3]
            exact cl6_if (fun z => (some (.inl (some (.int (sumGo vals (seg3 jn sl wh (i + 1) n) z x 1))), h) : aO)) (total + term)
          · simp only [if_neg q3]
            exact cl6_if (fun z => (some (.inl (some (.int (sumGo vals (seg3 jn sl wh (i + 1) n) z x 0))), h) : aO)) (total + term)
        · rw [if_neg q2, if_neg q2, Int32.sub_eq_add_neg]
          by_cases q3 : jn i = 1
          · simp only [if_pos q3]
            exact cl6_if (fun z => (some (.inl (some (.int (sumGo vals (seg3 jn sl wh (i + 1) n) z x 1))), h) : aO)) (total + -term)
          · simp only [if_neg q3]
            exact cl6_if (fun z => (some (.inl (some (.int (sumGo vals (seg3 jn sl wh (i + 1) n) z x 0))), h) : aO)) (total + -term)
    simp only [e2, e3, f2, f3, Option.bind_some]
    by_cases q : 0 ≤ sl i
    · rw [if_pos q]
      have hq : ¬ sl i < 0 := fun z => by
        rw [Int32.lt_iff_toInt_lt] at z
        rw [Int32.le_iff_toInt_le] at q
        omega
      have f4 : ldI .int h (.ref v) (sl i) = some (vals (sl i).toNatClampNeg) := by
        have := ldI_of (j := (sl i).toNatClampNeg) hv hvc (hs i (by omega) (by omega) q) (by decide)
        rw [← jI_of hq] at this
        exact this
      rw [f4]
      exact key _ (by simp [fVal, q])
    · rw [if_neg q]
      exact key _ (by simp [fVal, q])
theorem sumOf_at (H : isF h o nf jn sl wh no st mi en re) (hv : v < aE) (hvc : h[v]? = some (.inl (.int, 9, .inl vals))) {i n : Nat} (h60 : i + n ≤ 60) (hs : ∀ k, i ≤ k → k < i + n → 0 ≤ sl k → (sl k).toNatClampNeg < 9) :
    s_X0_sumOf o (jI i) (jI (i + n)) v h = some (.inl (some (.int (sumV vals (seg3 jn sl wh i n)))), h) :=
  sumOf_go H hv hvc n i FU 0 0 0 h60 (by show n < 1000000; omega) hs
end
/-! tests -/
abbrev pOne : Type := List pFa × List pFa × Int32
def oneV (vals : Nat → Int32) (a : pOne) : Bool := if a.2.2 = 60 then decide (sumV vals a.1 < sumV vals a.2.1) else if a.2.2 = 62 then decide (sumV vals a.2.1 < sumV vals a.1) else decide (sumV vals a.1 = sumV vals a.2.1)
def allV (vals : Nat → Int32) (l : List pOne) : Bool := l.all (oneV vals)
def seg1 (jn sl wh st mi en re : Nat → Int32) (i : Nat) : pOne :=
  (seg3 jn sl wh (st i).toNatClampNeg ((mi i).toNatClampNeg - (st i).toNatClampNeg), seg3 jn sl wh (mi i).toNatClampNeg ((en i).toNatClampNeg - (mi i).toNatClampNeg), re i)
def segO (jn sl wh st mi en re : Nat → Int32) (i : Nat) : Nat → List pOne
  | 0 => []
  | n + 1 => seg1 jn sl wh st mi en re i :: segO jn sl wh st mi en re (i + 1) n
/-- the rows of ones say pieces of the rows of factors -/
def okO (st mi en : Nat → Int32) (i : Nat) : Prop := ∃ a b c : Nat, st i = jI a ∧ mi i = jI (a + b) ∧ en i = jI (a + b + c) ∧ a + b + c ≤ 60
def okS (sl : Nat → Int32) : Prop := ∀ k, k < 60 → 0 ≤ sl k → (sl k).toNatClampNeg < 9
theorem i32_nle {x y : Int32} : ¬ x ≤ y ↔ y < x := by
  rw [Int32.lt_iff_toInt_lt, Int32.le_iff_toInt_le]
  omega
theorem i32_nlt {x y : Int32} : ¬ x < y ↔ y ≤ x := by
  rw [Int32.lt_iff_toInt_lt, Int32.le_iff_toInt_le]
  omega
section
variable {h : aH} {o nf no v : Nat} {jn sl wh st mi en re vals : Nat → Int32}
theorem allHold_go (H : isF h o nf jn sl wh no st mi en re) (hv : v < aE) (hvc : h[v]? = some (.inl (.int, 9, .inl vals))) (hs : okS sl) :
    ∀ (n i f : Nat), i + n ≤ 30 → n < f → (∀ k, i ≤ k → k < i + n → okO st mi en k) →
      s_X0_allHold_3 f o (jI (i + n)) v (jI i) h = some (.inl (some (.int (if allV vals (segO jn sl wh st mi en re i n) then 1 else 0))), h)
  | _, i, 0, _, hf, _ => by omega
  | 0, i, f + 1, h60, hf, _ => by
    show s_X0_allHold_3_b (s_X0_allHold_3 f) o (jI (i + 0)) v (jI i) h = _
    unfold s_X0_allHold_3_b
    rw [if_pos ((jI_le (by omega) (by omega)).mpr (by omega))]
    rfl
  | n + 1, i, f + 1, h60, hf, hk => by
    have ih := allHold_go H hv hvc hs n (i + 1) f (by omega) (by omega) (fun k h1 h2 => hk k (by omega) (by omega))
    obtain ⟨a, b, c, ea, eb, ec, hle⟩ := hk i (by omega) (by omega)
    have s1 := sumOf_at (i := a) (n := b) H hv hvc (by omega) (fun k _ _ => hs k (by omega))
    have s2 := sumOf_at (i := a + b) (n := c) H hv hvc (by omega) (fun k _ _ => hs k (by omega))
    have e1 : seg1 jn sl wh st mi en re i = (seg3 jn sl wh a b, seg3 jn sl wh (a + b) c, re i) := by
      unfold seg1
      rw [ea, eb, ec, jI_cl (by omega), jI_cl (by omega), jI_cl (by omega), Nat.add_sub_cancel_left, Nat.add_sub_cancel_left]
    obtain ⟨ho, h0, -, -, -, h4, h5, h6, h7⟩ := H
    show s_X0_allHold_3_b (s_X0_allHold_3 f) o (jI (i + (n + 1))) v (jI i) h = _
    unfold s_X0_allHold_3_b
    rw [if_neg (fun q => by have := (jI_le (by omega) (by omega)).mp q; omega)]
    rw [show i + (n + 1) = i + 1 + n by omega]
    have g5 : gO h (.ref o) 0 5 = some (o + 4) := gO_of (by omega) h0 rfl
    have g6 : gO h (.ref o) 0 6 = some (o + 5) := gO_of (by omega) h0 rfl
    have g7 : gO h (.ref o) 0 7 = some (o + 6) := gO_of (by omega) h0 rfl
    have g8 : gO h (.ref o) 0 8 = some (o + 7) := gO_of (by omega) h0 rfl
    have f4 : ldI .int h (.ref (o + 4)) (jI i) = some (jI a) := ea ▸ ldI_of (by omega) h4 (by omega) (by decide)
    have f5 : ldI .int h (.ref (o + 5)) (jI i) = some (jI (a + b)) := eb ▸ ldI_of (by omega) h5 (by omega) (by decide)
    have f6 : ldI .int h (.ref (o + 6)) (jI i) = some (jI (a + b + c)) := ec ▸ ldI_of (by omega) h6 (by omega) (by decide)
    have f7 : ldI .int h (.ref (o + 7)) (jI i) = some (re i) := ldI_of (by omega) h7 (by omega) (by decide)
    simp only [g5, g6, g7, g8, f4, f5, f6, f7, Option.bind_some, kO_of (by omega : o < aE) h0, s1, s2, cI, s_X0_allHold_117, jI_inc, ih, segO, allV, List.all_cons, e1, oneV]
    by_cases q1 : re i = 60
    · simp only [q1, if_true]
      by_cases q2 : sumV vals (seg3 jn sl wh (a + b) c) ≤ sumV vals (seg3 jn sl wh a b)
      · simp [q2, i32_nlt.mpr q2, rtZ]
      · rw [decide_eq_true (i32_nle.mp q2)]
        simp [q2, rtZ]
        rfl
    · by_cases q3 : re i = 62
      · simp only [q3, if_true]
        by_cases q2 : sumV vals (seg3 jn sl wh a b) ≤ sumV vals (seg3 jn sl wh (a + b) c)
        · simp [q2, i32_nlt.mpr q2, rtZ]
        · rw [decide_eq_true (i32_nle.mp q2)]
          simp [q2, rtZ]
          rfl
      · simp only [q1, q3, if_false]
        by_cases q2 : sumV vals (seg3 jn sl wh a b) = sumV vals (seg3 jn sl wh (a + b) c)
        · rw [decide_eq_true q2]
          simp [q2, rtZ]
          rfl
        · simp [q2, rtZ]
theorem allHold_at (H : isF h o nf jn sl wh no st mi en re) (hv : v < aE) (hvc : h[v]? = some (.inl (.int, 9, .inl vals))) (hs : okS sl) {i n : Nat} (h30 : i + n ≤ 30) (hk : ∀ k, i ≤ k → k < i + n → okO st mi en k) :
    s_X0_allHold o (jI i) (jI (i + n)) v h = some (.inl (some (.int (if allV vals (segO jn sl wh st mi en re i n) then 1 else 0))), h) :=
  allHold_go H hv hvc hs n i FU h30 (by show n < 1000000; omega) hk
end
