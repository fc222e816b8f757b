/-! the reference's Thing at t: thirteen cells; rows by their cell: 1 many, 2 low, 3 high, 4 sumFrom, 5 sumTo, 7 stepOf, 8 stepFrom, 9 stepTo, 10 testTo, 11 sign, 12 value; G 6 steps, G 7 items -/
def lenT (k : Nat) : Nat := if k ≤ 1 then 5 else if k ≤ 5 then 11 else if k ≤ 10 then 8 else 400
def isT (h : aH) (t : Nat) (B : Nat → Nat → Int32) (W : Nat → Int64) (G : Nat → Nat) : Prop :=
  t + 13 ≤ aE ∧ h[t]? = some (.inr (13, [.ref (t + 1), .ref (t + 2), .ref (t + 3), .ref (t + 4), .ref (t + 5), .ref (t + 6), .int (jI (G 6)), .int (jI (G 7)), .ref (t + 7), .ref (t + 8), .ref (t + 9), .ref (t + 10), .ref (t + 11), .ref (t + 12)])) ∧
  h[t + 6]? = some (.inl (.long, 11, .inr (.inl W))) ∧ ∀ k, 1 ≤ k → k ≤ 12 → k ≠ 6 → h[t + k]? = some (.inl (.int, lenT k, .inl (B k)))
theorem isT.set {h : aH} {t k : Nat} {B : Nat → Nat → Int32} {W : Nat → Int64} {G : Nat → Nat} {c : aC} (H : isT h t B W G) (hk : k < t ∨ t + 12 < k) : isT (h.set k c) t B W G := by
  obtain ⟨a, h0, h1, h2⟩ := H
  exact ⟨a, by rw [set_ne (by omega)]; exact h0, by rw [set_ne (by omega)]; exact h1, fun j j1 j2 j3 => by rw [set_ne (by omega)]; exact h2 j j1 j2 j3⟩
theorem isT.app {h h2 : aH} {t : Nat} {B : Nat → Nat → Int32} {W : Nat → Int64} {G : Nat → Nat} (H : isT h t B W G) : isT (h ++ h2) t B W G := by
  have g : ∀ {k : Nat} {c : aC}, h[k]? = some c → (h ++ h2)[k]? = some c := fun {k c} e => by
    rw [List.getElem?_append_left (List.getElem?_eq_some_iff.mp e).1]; exact e
  obtain ⟨a, h0, h1, h2⟩ := H
  exact ⟨a, g h0, g h1, fun j j1 j2 j3 => g (h2 j j1 j2 j3)⟩
/-- the size of a slot, as the reference has it; and a number spread over slots, with what is left -/
def szT (B : Nat → Nat → Int32) (s : Nat) : Int32 := (B 3 s - B 2 s) + 1
def sprT (B : Nat → Nat → Int32) (b : Nat) : Nat → Int32 → (Nat → Int32) → Int32 × (Nat → Int32)
  | 0, x, v => (x, v)
  | n + 1, x, v => sprT B b n (x / szT B (b + n)) (upd v (b + n) (B 2 (b + n) + (x - x / szT B (b + n) * szT B (b + n))))
section
variable {h : aH} {t : Nat} {B : Nat → Nat → Int32} {W : Nat → Int64} {G : Nat → Nat} {v : Nat → Int32}
theorem isT.kO {β : Type} {k : Option β} (H : isT h t B W G) : kO h t 13 k = k := kO_of (by have := H.1; omega) H.2.1
theorem isT.ld (H : isT h t B W G) {k j : Nat} (h1 : 1 ≤ k) (h2 : k ≤ 12) (h3 : k ≠ 6) (hj : j < lenT k) : ldI .int h (.ref (t + k)) (jI j) = some (B k j) := ldI_of (by have := H.1; omega) (H.2.2.2 k h1 h2 h3) hj (by unfold lenT; split <;> (try split) <;> (try split) <;> decide)
theorem size_at (H : isT h t B W G) {s : Nat} (hs : s < 11) : s_X13_size t (jI s) h = some (.inl (some (.int (szT B s))), h) := by
  unfold s_X13_size
  have ht := H.1
  have g1 : gO h (.ref t) 13 1 = some (t + 2) := gO_of (by omega) H.2.1 rfl
  have g2 : gO h (.ref t) 13 2 = some (t + 3) := gO_of (by omega) H.2.1 rfl
  have l2 : ldI .int h (.ref (t + 2)) (jI s) = some (B 2 s) := H.ld (by decide) (by decide) (by decide) hs
  have l3 : ldI .int h (.ref (t + 3)) (jI s) = some (B 3 s) := H.ld (by decide) (by decide) (by decide) hs
  simp only [g1, g2, l2, l3, Option.bind_some, szT]
theorem slotOfR_at (h : aH) : ∀ k, k < 6 → s_X14_slotOf (jI k) h = some (.inl (some (.int (jI (if k = 0 then 0 else 2 * k + 1)))), h) := by
  intro k hk
  match k, hk with
  | 0, _ => rfl
  | 1, _ => rfl
  | 2, _ => rfl
  | 3, _ => rfl
  | 4, _ => rfl
  | 5, _ => rfl
end
