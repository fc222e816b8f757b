/-! the postfix row of a row of factors, and that the pile comes to the same sum -/
def itm (a : pFa) : Int32 × Int32 := if 0 ≤ a.2.1 then (1, a.2.1) else (0, a.2.2)
def penL : Option Int32 → List (Int32 × Int32)
  | none => []
  | some k => [(k, 0)]
def postGo : Option Int32 → List pFa → List (Int32 × Int32)
  | pe, [] => penL pe
  | pe, a :: r => if a.1 = 2 then itm a :: (4, 0) :: postGo pe r else penL pe ++ itm a :: postGo (some (if a.1 = 1 then 3 else 2)) r
def postV : List pFa → List (Int32 × Int32)
  | [] => []
  | a :: r => itm a :: postGo (if a.1 = 1 then some 5 else none) r
theorem pil_itm (vals : Nat → Int32) (a : pFa) (r : List (Int32 × Int32)) (d : Nat) (p : Nat → Int32) : pilGo vals (itm a :: r) d p = pilGo vals r (d + 1) (upd p d (fVal vals a)) := by
  unfold itm fVal
  have z10 : ¬ (1 : Int32) = 0 := by decide
  by_cases q : 0 ≤ a.2.1
  · rw [if_pos q, if_pos q]
    simp only [pilGo, z10, if_true, if_false]
  · rw [if_neg q, if_neg q]
    simp only [pilGo, if_true]
/-- what is on the pile while a sum is read: pe pending, total, term, minus -/
def pSt (pe : Option Int32) (d0 d : Nat) (p : Nat → Int32) (total term minus : Int32) : Prop :=
  (pe = none ∧ d = d0 + 1 ∧ p d0 = term ∧ total = 0 ∧ minus = 0) ∨ (pe = some 5 ∧ d = d0 + 1 ∧ p d0 = term ∧ total = 0 ∧ minus = 1) ∨
  (pe = some 2 ∧ d = d0 + 2 ∧ p d0 = total ∧ p (d0 + 1) = term ∧ minus = 0) ∨ (pe = some 3 ∧ d = d0 + 2 ∧ p d0 = total ∧ p (d0 + 1) = term ∧ minus = 1)
theorem pil_flush {vals : Nat → Int32} {pe : Option Int32} {d0 d : Nat} {p : Nat → Int32} {total term minus : Int32} (S : pSt pe d0 d p total term minus) (ht : sm 1000000 total) (hm : sm 1000000 term) (R : List (Int32 × Int32)) :
    ∃ p', pilGo vals (penL pe ++ R) d p = pilGo vals R (d0 + 1) p' ∧ p' d0 = cl6 (if minus = 0 then total + term else total - term) ∧ ∀ j, j < d0 → p' j = p j := by
  have z1 : ¬ (1 : Int32) = 0 := by decide
  rcases S with ⟨rfl, rfl, h1, rfl, rfl⟩ | ⟨rfl, rfl, h1, rfl, rfl⟩ | ⟨rfl, rfl, h1, h2, rfl⟩ | ⟨rfl, rfl, h1, h2, rfl⟩
  · refine ⟨p, rfl, ?_, fun _ _ => rfl⟩
    rw [if_pos rfl, Int32.zero_add, h1, cl6_id hm]
  · refine ⟨upd p d0 (-(p d0)), ?_, ?_, fun j hj => upd_ne (by omega)⟩
    · have a1 : ¬ (5 : Int32) = 0 := by decide
      have a2 : ¬ (5 : Int32) = 1 := by decide
      simp only [penL, List.cons_append, List.nil_append, pilGo, a1, a2, if_true, if_false, Nat.add_sub_cancel]
    · rw [upd_eq, if_neg z1, neg_sub0, h1]
      refine (cl6_id ?_).symm
      unfold sm at hm ⊢
      rw [Int32.toInt_neg]
      rw [Int.bmod_eq_of_le (by omega) (by omega)]
      omega
  · refine ⟨upd p d0 (opR 2 (p d0) (p (d0 + 1))), ?_, ?_, fun j hj => upd_ne (by omega)⟩
    · have a1 : ¬ (2 : Int32) = 0 := by decide
      have a2 : ¬ (2 : Int32) = 1 := by decide
      have a3 : ¬ (2 : Int32) = 5 := by decide
      simp only [penL, List.cons_append, List.nil_append, pilGo, a1, a2, a3, if_false, Nat.add_sub_cancel]
      rfl
    · rw [upd_eq, if_pos rfl, h1, h2]
      exact bd_add ht hm
  · refine ⟨upd p d0 (opR 3 (p d0) (p (d0 + 1))), ?_, ?_, fun j hj => upd_ne (by omega)⟩
    · have a1 : ¬ (3 : Int32) = 0 := by decide
      have a2 : ¬ (3 : Int32) = 1 := by decide
      have a3 : ¬ (3 : Int32) = 5 := by decide
      simp only [penL, List.cons_append, List.nil_append, pilGo, a1, a2, a3, if_false, Nat.add_sub_cancel]
      rfl
    · rw [upd_eq, if_neg z1, h1, h2]
      exact bd_sub ht hm
theorem sm_le {M M' : Int} {x : Int32} (h : M ≤ M') (hx : sm M x) : sm M' x := by
  unfold sm at *
  omega
theorem post_go {vals : Nat → Int32} (R : List (Int32 × Int32)) (d0 : Nat) : ∀ (l : List pFa) (pe : Option Int32) (d : Nat) (p : Nat → Int32) (total term minus : Int32), (∀ a ∈ l, sm 1000 (fVal vals a)) → pSt pe d0 d p total term minus → sm 1000000 total → sm 1000000 term →
    ∃ p', pilGo vals (postGo pe l ++ R) d p = pilGo vals R (d0 + 1) p' ∧ p' d0 = sumGo vals l total term minus ∧ ∀ j, j < d0 → p' j = p j
  | [], pe, d, p, total, term, minus, _, S, ht, hm => pil_flush S ht hm R
  | a :: r, pe, d, p, total, term, minus, hv, S, ht, hm => by
    have ha := hv a List.mem_cons_self
    have hr := fun x hx => hv x (List.mem_cons_of_mem a hx)
    unfold postGo sumGo
    by_cases q : a.1 = 2
    · rw [if_pos q, if_pos q]
      have a1 : ¬ (4 : Int32) = 0 := by decide
      have a2 : ¬ (4 : Int32) = 1 := by decide
      have a3 : ¬ (4 : Int32) = 5 := by decide
      have hop : ∀ x y : Int32, opR 4 x y = bdR (x.toInt64 * y.toInt64) := fun x y => rfl
      have hd : 0 < d := by rcases S with ⟨_, h, _⟩ | ⟨_, h, _⟩ | ⟨_, h, _⟩ | ⟨_, h, _⟩ <;> omega
      have htop : p (d - 1) = term := by
        rcases S with ⟨_, rfl, h1, _⟩ | ⟨_, rfl, h1, _⟩ | ⟨_, rfl, _, h2, _⟩ | ⟨_, rfl, _, h2, _⟩
        · exact h1
        · exact h1
        · exact h2
        · exact h2
      have e : pilGo vals (itm a :: (4, 0) :: postGo pe r ++ R) d p = pilGo vals (postGo pe r ++ R) d (upd (upd p d (fVal vals a)) (d - 1) (cl6 (term * fVal vals a))) := by
        rw [List.cons_append, List.cons_append, pil_itm]
        simp only [pilGo, a1, a2, a3, if_false, Nat.add_sub_cancel, hop]
        rw [show d + 1 - 2 = d - 1 by omega, upd_eq, upd_ne (by omega), htop, bd_mul hm ha]
      obtain ⟨p', e1, e2, e3⟩ := post_go R d0 r pe d (upd (upd p d (fVal vals a)) (d - 1) (cl6 (term * fVal vals a))) total (cl6 (term * fVal vals a)) minus hr (by
        rcases S with ⟨z, rfl, h1, h2⟩ | ⟨z, rfl, h1, h2⟩ | ⟨z, rfl, h1, h2, h3⟩ | ⟨z, rfl, h1, h2, h3⟩
        · exact Or.inl ⟨z, rfl, upd_eq, h2⟩
        · exact Or.inr (Or.inl ⟨z, rfl, upd_eq, h2⟩)
        · exact Or.inr (Or.inr (Or.inl ⟨z, rfl, by rw [upd_ne (by omega), upd_ne (by omega)]; exact h1, upd_eq, h3⟩))
        · exact Or.inr (Or.inr (Or.inr ⟨z, rfl, by rw [upd_ne (by omega), upd_ne (by omega)]; exact h1, upd_eq, h3⟩))) ht (cl6_sm _)
      refine ⟨p', e.trans e1, e2, fun j hj => ?_⟩
      rw [e3 j hj]
      have : j < d - 1 := by rcases S with ⟨_, h, _⟩ | ⟨_, h, _⟩ | ⟨_, h, _⟩ | ⟨_, h, _⟩ <;> omega
      rw [upd_ne (by omega), upd_ne (by omega)]
    · rw [if_neg q, if_neg q]
      rw [List.append_assoc, List.cons_append]
      obtain ⟨p1, f1, f2, f3⟩ := pil_flush (vals := vals) S ht hm (itm a :: (postGo (some (if a.1 = 1 then 3 else 2)) r ++ R))
      rw [f1, pil_itm]
      obtain ⟨p', e1, e2, e3⟩ := post_go R d0 r (some (if a.1 = 1 then 3 else 2)) (d0 + 2) (upd p1 (d0 + 1) (fVal vals a)) (cl6 (if minus = 0 then total + term else total - term)) (fVal vals a) (if a.1 = 1 then 1 else 0) hr (by
        by_cases q1 : a.1 = 1
        · exact Or.inr (Or.inr (Or.inr ⟨by rw [if_pos q1], rfl, by rw [upd_ne (by omega)]; exact f2, upd_eq, by rw [if_pos q1]⟩))
        · exact Or.inr (Or.inr (Or.inl ⟨by rw [if_neg q1], rfl, by rw [upd_ne (by omega)]; exact f2, upd_eq, by rw [if_neg q1]⟩))) (cl6_sm _) (sm_le (by decide) ha)
      refine ⟨p', e1, e2, fun j hj => ?_⟩
      rw [e3 j hj, upd_ne (by omega), f3 j hj]
/-- a sum as a text has it: it begins with plus or minus -/
theorem postV_at {vals : Nat → Int32} {a : pFa} {r : List pFa} (h0 : a.1 = 0 ∨ a.1 = 1) (hv : ∀ x ∈ a :: r, sm 1000 (fVal vals x)) (R : List (Int32 × Int32)) (d0 : Nat) (p : Nat → Int32) :
    ∃ p', pilGo vals (postV (a :: r) ++ R) d0 p = pilGo vals R (d0 + 1) p' ∧ p' d0 = sumV vals (a :: r) ∧ ∀ j, j < d0 → p' j = p j := by
  have z0 : sm 1000000 (0 : Int32) := by unfold sm; decide
  have c0 : cl6 (if (0 : Int32) = 0 then (0 : Int32) + 0 else 0 - 0) = 0 := by decide
  have hr := fun x hx => hv x (List.mem_cons_of_mem a hx)
  have ha := hv a List.mem_cons_self
  unfold postV sumV sumGo
  rw [List.cons_append, pil_itm, c0]
  rcases h0 with q | q
  · have q2 : ¬ a.1 = 2 := by rw [q]; decide
    have q1 : ¬ a.1 = 1 := by rw [q]; decide
    rw [if_neg q1, if_neg q2, if_neg q1]
    obtain ⟨p', e1, e2, e3⟩ := post_go R d0 r none (d0 + 1) (upd p d0 (fVal vals a)) 0 (fVal vals a) 0 hr (Or.inl ⟨rfl, rfl, upd_eq, rfl, rfl⟩) z0 (sm_le (by decide) ha)
    exact ⟨p', e1, e2, fun j hj => by rw [e3 j hj, upd_ne (by omega)]⟩
  · have q2 : ¬ a.1 = 2 := by rw [q]; decide
    rw [if_pos q, if_neg q2, if_pos q]
    obtain ⟨p', e1, e2, e3⟩ := post_go R d0 r (some 5) (d0 + 1) (upd p d0 (fVal vals a)) 0 (fVal vals a) 1 hr (Or.inr (Or.inl ⟨rfl, rfl, upd_eq, rfl, rfl⟩)) z0 (sm_le (by decide) ha)
    exact ⟨p', e1, e2, fun j hj => by rw [e3 j hj, upd_ne (by omega)]⟩
