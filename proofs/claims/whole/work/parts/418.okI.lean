/-! the pile's depth over such rows -/
def okA (a : pFa) : Prop := 0 ≤ a.2.1 → a.2.1.toNatClampNeg < 11
theorem okI_itm {a : pFa} {r : List (Int32 × Int32)} {d : Nat} (ha : okA a) (hd : d < 400) (hr : okI r (d + 1)) : okI (itm a :: r) d := by
  unfold itm
  have z10 : ¬ (1 : Int32) = 0 := by decide
  by_cases q : 0 ≤ a.2.1
  · rw [if_pos q]
    simp only [okI, z10, if_true, if_false]
    exact ⟨hd, ⟨q, ha q⟩, hr⟩
  · rw [if_neg q]
    simp only [okI, if_true]
    exact ⟨hd, hr⟩
def pDp (pe : Option Int32) (d0 d : Nat) : Prop := (pe = none ∧ d = d0 + 1) ∨ (pe = some 5 ∧ d = d0 + 1) ∨ (pe = some 2 ∧ d = d0 + 2) ∨ (pe = some 3 ∧ d = d0 + 2)
theorem okI_pen {pe : Option Int32} {d0 d : Nat} {R : List (Int32 × Int32)} (S : pDp pe d0 d) (hR : okI R (d0 + 1)) : okI (penL pe ++ R) d := by
  rcases S with ⟨rfl, rfl⟩ | ⟨rfl, rfl⟩ | ⟨rfl, rfl⟩ | ⟨rfl, rfl⟩
  · exact hR
  · exact ⟨Nat.succ_pos _, hR⟩
  · exact ⟨by omega, hR⟩
  · exact ⟨by omega, hR⟩
theorem okI_go {R : List (Int32 × Int32)} {d0 : Nat} (h4 : d0 + 3 ≤ 400) (hR : okI R (d0 + 1)) : ∀ (l : List pFa) (pe : Option Int32) (d : Nat), (∀ a ∈ l, okA a) → pDp pe d0 d → okI (postGo pe l ++ R) d
  | [], pe, d, _, S => okI_pen S hR
  | a :: r, pe, d, hv, S => by
    have ha := hv a List.mem_cons_self
    have hr := fun x hx => hv x (List.mem_cons_of_mem a hx)
    have hd : 1 ≤ d ∧ d ≤ d0 + 2 := by rcases S with ⟨_, h⟩ | ⟨_, h⟩ | ⟨_, h⟩ | ⟨_, h⟩ <;> omega
    unfold postGo
    by_cases q : a.1 = 2
    · rw [if_pos q, List.cons_append, List.cons_append]
      refine okI_itm ha (by omega) ?_
      have a1 : ¬ (4 : Int32) = 0 := by decide
      have a2 : ¬ (4 : Int32) = 1 := by decide
      have a3 : ¬ (4 : Int32) = 5 := by decide
      simp only [okI, a1, a2, a3, if_false, Nat.add_sub_cancel]
      exact ⟨by omega, okI_go h4 hR r pe d hr S⟩
    · rw [if_neg q, List.append_assoc, List.cons_append]
      refine okI_pen S (okI_itm ha (by omega) ?_)
      refine okI_go h4 hR r _ (d0 + 2) hr ?_
      by_cases q1 : a.1 = 1
      · exact Or.inr (Or.inr (Or.inr ⟨by rw [if_pos q1], rfl⟩))
      · exact Or.inr (Or.inr (Or.inl ⟨by rw [if_neg q1], rfl⟩))
theorem okI_postV {l : List pFa} {R : List (Int32 × Int32)} {d0 : Nat} (h4 : d0 + 3 ≤ 400) (hl : l ≠ []) (hv : ∀ a ∈ l, okA a) (hR : okI R (d0 + 1)) : okI (postV l ++ R) d0 := by
  match l, hl with
  | a :: r, _ =>
    show okI (itm a :: postGo (if a.1 = 1 then some 5 else none) r ++ R) d0
    rw [List.cons_append]
    refine okI_itm (hv a List.mem_cons_self) (by omega) (okI_go h4 hR r _ (d0 + 1) (fun x hx => hv x (List.mem_cons_of_mem a hx)) ?_)
    by_cases q1 : a.1 = 1
    · exact Or.inr (Or.inl ⟨by rw [if_pos q1], rfl⟩)
    · exact Or.inl ⟨by rw [if_neg q1], rfl⟩
theorem okI_one {a : pOne} {R : List (Int32 × Int32)} {d0 : Nat} (h4 : d0 + 4 ≤ 400) (h1 : a.1 ≠ []) (h2 : a.2.1 ≠ []) (v1 : ∀ x ∈ a.1, okA x) (v2 : ∀ x ∈ a.2.1, okA x) (hR : okI R (d0 + 1)) : okI (oneI a ++ R) d0 := by
  unfold oneI
  rw [List.append_assoc, List.append_assoc]
  refine okI_postV (by omega) h1 v1 (okI_postV (by omega) h2 v2 ?_)
  have hk := kRl_ne a.2.2
  simp only [List.cons_append, List.nil_append, okI, hk.1, hk.2.1, hk.2.2, if_false]
  exact ⟨by omega, hR⟩
