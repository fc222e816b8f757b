/-! the reference's factors of a sum: counts, factorsOf -/
theorem upd_tw {S : Nat → Int32} {k : Nat} {x y : Int32} : upd (upd S k x) k y = upd S k y := by
  funext j
  by_cases q : j = k
  · rw [q, upd_eq, upd_eq]
  · rw [upd_ne q, upd_ne q, upd_ne q]
def SmZ (L : List Nat) (Z Z' : Nat → Nat → Int64) : Prop := ∀ k, k ∉ L → Z' k = Z k
theorem SmZ.refl {L : List Nat} {Z : Nat → Nat → Int64} : SmZ L Z Z := fun _ _ => rfl
theorem SmZ.trans {L : List Nat} {Z1 Z2 Z3 : Nat → Nat → Int64} (a : SmZ L Z1 Z2) (b : SmZ L Z2 Z3) : SmZ L Z1 Z3 := fun k hk => (b k hk).trans (a k hk)
theorem SmZ.upd {L : List Nat} {Z Z' : Nat → Nat → Int64} {a : Nat} {g : Nat → Int64} (h : SmZ L Z Z') (ha : a ∈ L) : SmZ L Z (upd2 Z' a g) := fun k hk => by
  have ne : k ≠ a := fun e => hk (by rw [e]; exact ha)
  rw [upd2_ne ne]
  exact h k hk
theorem SmZ.mono {L L' : List Nat} {Z Z' : Nat → Nat → Int64} (h : SmZ L Z Z') (hL : ∀ k, k ∈ L → k ∈ L') : SmZ L' Z Z' := fun k hk => h k (fun z => hk (hL k z))
def nrJ (g : Nat → Int64) (i : Nat) : Nat → Bool
  | 0 => true
  | n + 1 => (decide (-20 ≤ g i) && decide (g i ≤ 20)) && nrJ g (i + 1) n
def okN2 (nm : Int32) : Prop := nm = -1 ∨ nm = -2 ∨ ∃ s, nm = jI s ∧ s < 7
/-- items that can be taken apart -/
def okJ (lo B2 : Nat → Int32) : List (Int32 × Int32) → Nat → Prop
  | [], d => 0 < d
  | (k, x) :: r, d => if k = 0 then d < 400 ∧ okJ lo B2 r (d + 1) else if k = 1 then d < 400 ∧ (∃ s, x = jI s ∧ s < 9 ∧ B2 s = lo s) ∧ okJ lo B2 r (d + 1) else if k = 5 then 0 < d ∧ okJ lo B2 r d else 2 ≤ d ∧ okJ lo B2 r (d - 1)
theorem lgc_lt (x y : Int64) : lg_cmp x y < 0 ↔ ¬ y ≤ x := by
  rw [← lg_cmp_ge x y]
  exact ⟨fun z u => i32_nlt.mpr u z, fun z => i32_nle.mp z⟩
theorem lgc_gt (x y : Int64) : 0 < lg_cmp x y ↔ ¬ x ≤ y := by
  rw [← lgc_le x y]
  exact ⟨fun z u => i32_nlt.mpr u z, fun z => i32_nle.mp z⟩
section
variable {wd : Int64} {t : Nat} {fv nv : Value} {A : Nat → Nat → Int32} {m F : Nat → Nat} {B : Nat → Nat → Int32} {W : Nat → Int64} {G : Nat → Nat}
theorem RC.pl {h : aH} {S : Nat → Int32} {V : Nat → Nat → Int32} {Z : Nat → Nat → Int64} (C : RC h S wd t fv nv V Z A m F B W G) (q : Bool) : ∃ h', pZ h (.ref 104) 14 50 (b01 q) = some h' ∧ RC h' (upd S 50 (b01 q)) wd t fv nv V Z A m F B W G ∧ Ou h h' := by
  obtain ⟨h1, e1, X1, O1⟩ := C.1.pS (k := 50) rfl (b01 q)
  refine ⟨h1, ?_, C.toS X1 O1 ⟨upd_ne (by decide), upd_ne (by decide), upd_ne (by decide), upd_ne (by decide)⟩, O1⟩
  unfold pZ
  rw [if_pos (by cases q <;> decide)]
  exact e1
theorem RC.counts {h : aH} {S : Nat → Int32} {V : Nat → Nat → Int32} {Z : Nat → Nat → Int64} (C : RC h S wd t fv nv V Z A m F B W G) {d : Nat} (hd : d < 400) {mi q : Bool} (hq : S 50 = b01 q) (hn : okN2 (V 166 d)) :
    ∃ h', s_X14_counts 104 (jI d) (b01 mi) h = some (.inl none, h') ∧ RC h' (upd S 50 (b01 (ctN mi (V 166 d) (Z 167 d) (Z 162, q)).2)) wd t fv nv V (upd2 Z 162 (ctN mi (V 166 d) (Z 167 d) (Z 162, q)).1) A m F B W G ∧ Ou h h' := by
  have g48 : gO h (.ref 104) 14 48 = some 166 := gO_of (ltE (by decide)) C.1.1 rfl
  have g49 : gO h (.ref 104) 14 49 = some 167 := gO_of (ltE (by decide)) C.1.1 rfl
  have l166 : ldI .int h (.ref 166) (jI d) = some (V 166 d) := C.1.ld (a := 166) rfl hd
  have l167 : ldJ h (.ref 167) (jI d) = some (Z 167 d) := C.1.ldJ (a := 167) rfl hd
  by_cases n1 : V 166 d = -1
  · refine ⟨h, ?_, ?_, Ou.refl⟩
    · unfold s_X14_counts
      rw [g48, Option.bind_some, l166, Option.bind_some, if_pos n1]
    · rw [n1, ctN_none]
      show RC h (upd S 50 (b01 q)) wd t fv nv V (upd2 Z 162 (Z 162)) A m F B W G
      rw [← hq, upd_self, upd2_self]
      exact C
  · -- the tail
    have tail : ∀ q', ∃ h', s_X14_counts_56 104 (jI d) (b01 mi) (V 166 d) (b01 q') 104 h = some (.inl none, h') ∧ RC h' (upd S 50 (b01 q')) wd t fv nv V (upd2 Z 162 (ctN mi (V 166 d) (Z 167 d) (Z 162, q)).1) A m F B W G ∧ Ou h h' := by
      intro q'
      obtain ⟨h1, e1, C1, O1⟩ := C.pl q'
      by_cases n2 : V 166 d < 0
      · refine ⟨h1, ?_, ?_, O1⟩
        · unfold s_X14_counts_56
          rw [e1, Option.bind_some, if_pos n2]
        · have : (ctN mi (V 166 d) (Z 167 d) (Z 162, q)).1 = Z 162 := by
            unfold ctN
            rw [if_neg n1]
            exact if_pos n2
          rw [this, upd2_self]
          exact C1
      · rcases hn with z | z | ⟨s, es, hs⟩
        · exact absurd z n1
        · exact absurd (by rw [z]; decide) n2
        · have e0 : (ctN mi (V 166 d) (Z 167 d) (Z 162, q)).1 = vp_updL (Z 162) s (Z 162 s + (if mi = true then -(Z 167 d) else Z 167 d)) := by
            unfold ctN
            rw [if_neg n1, es, if_neg (jI_neg (by omega)), jI_cl (by omega)]
          have p44 : gO h1 (.ref 104) 14 44 = some 162 := gO_of (ltE (by decide)) C1.1.1 rfl
          have p49 : gO h1 (.ref 104) 14 49 = some 167 := gO_of (ltE (by decide)) C1.1.1 rfl
          have p162 : ldJ h1 (.ref 162) (jI s) = some (Z 162 s) := C1.1.ldJ (a := 162) rfl hs
          have p167 : ldJ h1 (.ref 167) (jI d) = some (Z 167 d) := C1.1.ldJ (a := 167) rfl hd
          obtain ⟨h2, e2, X2, O2⟩ := C1.1.stJ (a := 162) (j := s) rfl hs (Z 162 s + (if mi = true then -(Z 167 d) else Z 167 d))
          refine ⟨h2, ?_, ?_, O1.trans O2⟩
          · unfold s_X14_counts_56 s_X14_counts_90
            rw [e1, Option.bind_some, if_neg n2, p44, Option.bind_some, es, p162, Option.bind_some]
            cases mi
            · rw [if_pos b01_f, p49, Option.bind_some, p167, Option.bind_some]
              have e2' : stJ h1 (.ref 162) (jI s) (Z 162 s + Z 167 d) = some h2 := e2
              rw [e2', Option.bind_some]
            · rw [if_neg (show ¬ b01 true = 0 by decide), p49, Option.bind_some, p167, Option.bind_some]
              have e2' : stJ h1 (.ref 162) (jI s) (Z 162 s + -(Z 167 d)) = some h2 := e2
              rw [e2', Option.bind_some]
          · rw [e0]
            exact C1.to X2 O2
    have e2 : (ctN mi (V 166 d) (Z 167 d) (Z 162, q)).2 = (q && gdN (V 166 d) (Z 167 d)) := by
      unfold ctN
      rw [if_neg n1]
    rw [e2]
    have g50 : gI h (.ref 104) 14 50 = some (b01 q) := by rw [← hq]; exact C.1.gS rfl
    have fin : ∀ q', (q && gdN (V 166 d) (Z 167 d)) = q' → s_X14_counts 104 (jI d) (b01 mi) h = s_X14_counts_56 104 (jI d) (b01 mi) (V 166 d) (b01 q') 104 h := by
      intro q' hq'
      subst hq'
      unfold s_X14_counts s_X14_counts_55
      rw [g48, Option.bind_some, l166, Option.bind_some, if_neg n1, g50, Option.bind_some]
      cases q
      · rw [if_pos b01_f]
        rfl
      · rw [if_neg (show ¬ b01 true = 0 by decide), Bool.true_and]
        unfold gdN
        by_cases n2 : V 166 d < 0
        · rw [if_pos n2, decide_eq_false (i32_nle.mpr n2)]
          rfl
        · rw [if_neg n2, decide_eq_true (i32_nlt.mp n2), g49, Option.bind_some, l167, Option.bind_some]
          by_cases w1 : (-20 : Int64) ≤ Z 167 d
          · rw [if_neg (fun z => (lgc_lt _ _).mp z w1), Option.bind_some, l167, Option.bind_some, decide_eq_true w1]
            by_cases w2 : Z 167 d ≤ 20
            · rw [if_neg (fun z => (lgc_gt _ _).mp z w2), decide_eq_true w2]
              rfl
            · rw [if_pos ((lgc_gt _ _).mpr w2), decide_eq_false w2]
              rfl
          · rw [if_pos ((lgc_lt _ _).mpr w1), decide_eq_false w1]
            rfl
    rw [fin _ rfl]
    exact tail _
theorem fo370_go {w : Nat} (hw : w ≤ 7) : ∀ (n i f : Nat) (h : aH) (S : Nat → Int32) (V : Nat → Nat → Int32) (Z : Nat → Nat → Int64) (q : Bool), i + n = w → n < f → RC h S wd t fv nv V Z A m F B W G → S 50 = b01 q →
    ∃ h', s_X14_factorsOf_370 f 104 (jI w) (jI i) h = some (.inl none, h') ∧ RC h' (upd S 50 (b01 (q && nrJ (Z 162) i n))) wd t fv nv V Z A m F B W G ∧ Ou h h'
  | _, _, 0, _, _, _, _, _, _, hf, _, _ => by omega
  | 0, i, f + 1, h, S, V, Z, q, hn, hf, C, hq => by
    refine ⟨h, ?_, ?_, Ou.refl⟩
    · show s_X14_factorsOf_370_b (s_X14_factorsOf_370 f) 104 (jI w) (jI i) h = _
      unfold s_X14_factorsOf_370_b
      rw [if_pos ((jI_le (by omega) (by omega)).mpr (by omega))]
    · show RC h (upd S 50 (b01 (q && true))) wd t fv nv V Z A m F B W G
      rw [Bool.and_true, ← hq, upd_self]
      exact C
  | n + 1, i, f + 1, h, S, V, Z, q, hn, hf, C, hq => by
    have g44 : gO h (.ref 104) 14 44 = some 162 := gO_of (ltE (by decide)) C.1.1 rfl
    have l162 : ldJ h (.ref 162) (jI i) = some (Z 162 i) := C.1.ldJ (a := 162) rfl (show i < 7 by omega)
    have g50 : gI h (.ref 104) 14 50 = some (b01 q) := by rw [← hq]; exact C.1.gS rfl
    obtain ⟨h1, e1, C1, O1⟩ := C.pl (q && (decide (-20 ≤ Z 162 i) && decide (Z 162 i ≤ 20)))
    obtain ⟨h2, e2, C2, O2⟩ := fo370_go hw n (i + 1) f h1 _ V Z _ (by omega) (by omega) C1 upd_eq
    refine ⟨h2, ?_, ?_, O1.trans O2⟩
    · have mid : s_X14_factorsOf_370 (f + 1) 104 (jI w) (jI i) h = s_X14_factorsOf_417 (s_X14_factorsOf_370 f) 104 (jI w) (jI i) (b01 (q && (decide (-20 ≤ Z 162 i) && decide (Z 162 i ≤ 20)))) 104 h := by
        show s_X14_factorsOf_370_b (s_X14_factorsOf_370 f) 104 (jI w) (jI i) h = _
        unfold s_X14_factorsOf_370_b s_X14_factorsOf_416
        rw [if_neg (fun u => by have := (jI_le (by omega) (by omega)).mp u; omega), g50, Option.bind_some]
        cases q
        · rw [if_pos b01_f]
          rfl
        · rw [if_neg (show ¬ b01 true = 0 by decide), g44, Option.bind_some, l162, Option.bind_some, Bool.true_and]
          by_cases w1 : (-20 : Int64) ≤ Z 162 i
          · rw [if_neg (fun z => (lgc_lt _ _).mp z w1), Option.bind_some, l162, Option.bind_some, decide_eq_true w1]
            by_cases w2 : Z 162 i ≤ 20
            · rw [if_neg (fun z => (lgc_gt _ _).mp z w2), decide_eq_true w2]
              rfl
            · rw [if_pos ((lgc_gt _ _).mpr w2), decide_eq_false w2]
              rfl
          · rw [if_pos ((lgc_lt _ _).mpr w1), decide_eq_false w1]
            rfl
      rw [mid]
      unfold s_X14_factorsOf_417
      rw [e1, Option.bind_some, jI_inc]
      exact e2
    · rw [upd_tw, Bool.and_assoc] at C2
      exact C2
end
