/-! what a spread writes, and that a sum asks only the slots it names -/
theorem ltE {a : Nat} (h : a < 1000000) : a < aE := Nat.lt_of_lt_of_le h (by decide)
theorem upd_ne {f : Nat → Int32} {k j : Nat} {x : Int32} (h : j ≠ k) : upd f k x j = f j := if_neg h
theorem upd_eq {f : Nat → Int32} {k : Nat} {x : Int32} : upd f k x k = x := if_pos rfl
theorem spr_out (A : Nat → Nat → Int32) (w : Int32) (b : Nat) : ∀ (n : Nat) (x : Int32) (v : Nat → Int32) (s : Nat), (s < b ∨ b + n ≤ s) → sprGo A w b n x v s = v s
  | 0, _, _, _, _ => rfl
  | n + 1, x, v, s, hs => by
    show sprGo A w b n _ (upd v (b + n) _) s = v s
    rw [spr_out A w b n _ _ s (by omega), upd_ne (by omega)]
theorem spr_in (A : Nat → Nat → Int32) (w : Int32) (b : Nat) : ∀ (n : Nat) (x : Int32) (v v' : Nat → Int32) (s : Nat), b ≤ s → s < b + n → sprGo A w b n x v s = sprGo A w b n x v' s
  | 0, _, _, _, s, h1, h2 => by omega
  | n + 1, x, v, v', s, h1, h2 => by
    show sprGo A w b n _ (upd v (b + n) _) s = sprGo A w b n _ (upd v' (b + n) _) s
    by_cases q : s = b + n
    · rw [spr_out A w b n _ _ s (by omega), spr_out A w b n _ _ s (by omega), q, upd_eq, upd_eq]
    · exact spr_in A w b n _ _ _ s h1 (by omega)
/-- the slots that a thing with so many names has -/
def decl (m : Nat → Nat) (s : Nat) : Prop := s < m 0 ∨ (3 ≤ s ∧ s < 3 + m 1) ∨ (5 ≤ s ∧ s < 5 + m 2) ∨ (7 ≤ s ∧ s < 7 + m 3)
def agree (m : Nat → Nat) (v v' : Nat → Int32) : Prop := ∀ s, decl m s → v s = v' s
theorem spM_agree {A : Nat → Nat → Int32} {m : Nat → Nat} (K : okm m) (np c p x : Int32) (v v' : Nat → Int32) : agree m (spM A m np c p x v) (spM A m np c p x v') := by
  obtain ⟨h0, h1, h2, h3, -⟩ := K
  intro s hs
  unfold spM spW
  by_cases q3 : 7 ≤ s ∧ s < 7 + m 3
  · exact spr_in A 0 7 _ _ _ _ s q3.1 q3.2
  · rw [spr_out A 0 7 _ _ _ s (by omega), spr_out A 0 7 _ _ _ s (by omega)]
    by_cases q2 : 5 ≤ s ∧ s < 5 + m 2
    · exact spr_in A 0 5 _ _ _ _ s q2.1 q2.2
    · rw [spr_out A 0 5 _ _ _ s (by omega), spr_out A 0 5 _ _ _ s (by omega)]
      by_cases q1 : 3 ≤ s ∧ s < 3 + m 1
      · exact spr_in A 0 3 _ _ _ _ s q1.1 q1.2
      · rw [spr_out A 0 3 _ _ _ s (by omega), spr_out A 0 3 _ _ _ s (by omega)]
        have : s < m 0 := by
          rcases hs with h | h | h | h
          · exact h
          · exact absurd h q1
          · exact absurd h q2
          · exact absurd h q3
        exact spr_in A 0 0 _ _ _ _ s (Nat.zero_le _) (by omega)
/-- the order of the three spreads does not count -/
theorem spM_order {A : Nat → Nat → Int32} {m : Nat → Nat} (K : okm m) (np c p x : Int32) (v v' : Nat → Int32) : agree m (sprGo A 0 0 (m 0) c (sprGo A 0 3 (m 1) p (spW A m np 0 x v))) (spM A m np c p x v') := by
  obtain ⟨h0, h1, h2, h3, -⟩ := K
  intro s hs
  unfold spM spW
  by_cases q0 : s < m 0
  · rw [spr_out A 0 7 _ _ _ s (by omega), spr_out A 0 5 _ _ _ s (by omega), spr_out A 0 3 _ _ _ s (by omega)]
    exact spr_in A 0 0 _ _ _ _ s (Nat.zero_le _) (by omega)
  · rw [spr_out A 0 0 _ _ _ s (by omega)]
    by_cases q1 : 3 ≤ s ∧ s < 3 + m 1
    · rw [spr_out A 0 7 _ _ _ s (by omega), spr_out A 0 5 _ _ _ s (by omega)]
      exact spr_in A 0 3 _ _ _ _ s q1.1 q1.2
    · rw [spr_out A 0 3 _ _ _ s (by omega)]
      by_cases q3 : 7 ≤ s ∧ s < 7 + m 3
      · exact spr_in A 0 7 _ _ _ _ s q3.1 q3.2
      · rw [spr_out A 0 7 _ _ _ s (by omega), spr_out A 0 7 _ _ _ s (by omega)]
        have q2 : 5 ≤ s ∧ s < 5 + m 2 := by
          rcases hs with h | h | h | h
          · exact absurd h q0
          · exact absurd h q1
          · exact h
          · exact absurd h q3
        exact spr_in A 0 5 _ _ _ _ s q2.1 q2.2
/-- a row of factors names only such slots -/
def okL (m : Nat → Nat) (l : List pFa) : Prop := ∀ a ∈ l, 0 ≤ a.2.1 → decl m a.2.1.toNatClampNeg
theorem fVal_congr {m : Nat → Nat} {v v' : Nat → Int32} (h : agree m v v') {a : pFa} (ha : 0 ≤ a.2.1 → decl m a.2.1.toNatClampNeg) : fVal v a = fVal v' a := by
  unfold fVal
  by_cases q : 0 ≤ a.2.1
  · rw [if_pos q, if_pos q, h _ (ha q)]
  · rw [if_neg q, if_neg q]
theorem sumGo_congr {m : Nat → Nat} {v v' : Nat → Int32} (h : agree m v v') : ∀ (l : List pFa) (a b c : Int32), okL m l → sumGo v l a b c = sumGo v' l a b c
  | [], _, _, _, _ => rfl
  | x :: r, a, b, c, hl => by
    have e := fVal_congr h (hl x List.mem_cons_self)
    have hr : okL m r := fun y hy => hl y (List.mem_cons_of_mem _ hy)
    unfold sumGo
    rw [e, sumGo_congr h r _ _ _ hr, sumGo_congr h r _ _ _ hr]
theorem sumV_congr {m : Nat → Nat} {v v' : Nat → Int32} (h : agree m v v') {l : List pFa} (hl : okL m l) : sumV v l = sumV v' l := sumGo_congr h l 0 0 0 hl
theorem allV_congr {m : Nat → Nat} {v v' : Nat → Int32} (h : agree m v v') : ∀ (l : List pOne), (∀ a ∈ l, okL m a.1 ∧ okL m a.2.1) → allV v l = allV v' l
  | [], _ => rfl
  | x :: r, hl => by
    have e1 := sumV_congr h (hl x List.mem_cons_self).1
    have e2 := sumV_congr h (hl x List.mem_cons_self).2
    have ih := allV_congr h r (fun y hy => hl y (List.mem_cons_of_mem _ hy))
    unfold allV at ih ⊢
    rw [List.all_cons, List.all_cons, ih]
    unfold oneV
    rw [e1, e2]
/-- a Model whose sums name only what it has -/
def okN (A : Nat → Nat → Int32) (m F : Nat → Nat) : Prop :=
  (∀ i, i < F 4 → okL m (sgm A 6 7 i) ∧ ∀ a ∈ sgo A 8 9 i, okL m a.1 ∧ okL m a.2.1) ∧ ∀ i, i < m 4 → okL m (sgm A 10 11 i)
theorem stepGo_congr {A : Nat → Nat → Int32} {m F : Nat → Nat} {v v' : Nat → Int32} (h : agree m v v') (Q : okN A m F) {s : Nat} (hs : s < m 0) : ∀ (n i : Nat), i + n ≤ F 4 → stepGo A v s i n = stepGo A v' s i n
  | 0, i, _ => h s (Or.inl hs)
  | n + 1, i, hi => by
    have q := Q.1 i (by omega)
    unfold stepGo
    rw [stepGo_congr h Q hs n (i + 1) (by omega), allV_congr h _ q.2, sumV_congr h q.1]
theorem cellGo_congr {A : Nat → Nat → Int32} {f g : Nat → Int32} : ∀ (n i : Nat) (c : Int32), (∀ k, i ≤ k → k < i + n → f k = g k) → cellGo A f i n c = cellGo A g i n c
  | 0, _, _, _ => rfl
  | n + 1, i, c, h => by
    unfold cellGo
    rw [h i (by omega) (by omega), cellGo_congr n (i + 1) _ (fun k h1 h2 => h k (by omega) (by omega))]
theorem leadV_congr {A : Nat → Nat → Int32} {m F : Nat → Nat} {v v' : Nat → Int32} (h : agree m v v') (Q : okN A m F) : leadV A m F v = leadV A m F v' :=
  cellGo_congr _ _ _ (fun k _ hk => stepGo_congr h Q (by omega) _ _ (by omega))
