/-! tests on the pile -/
def kRl (rel : Int32) : Int32 := if rel = 60 then 6 else if rel = 62 then 7 else 8
def oneI (a : pOne) : List (Int32 × Int32) := postV a.1 ++ (postV a.2.1 ++ [(kRl a.2.2, 0)])
def b01 (b : Bool) : Int32 := if b then 1 else 0
theorem i64_le (x y : Int32) : x.toInt64 ≤ y.toInt64 ↔ x ≤ y := by
  rw [Int64.le_iff_toInt_le, Int32.le_iff_toInt_le, i64_of, i64_of]
theorem op6 (x y : Int32) : opR 6 x y = b01 (decide (x < y)) := by
  have e : opR 6 x y = if (if 0 ≤ lg_cmp x.toInt64 y.toInt64 then (0 : Int32) else 1) = 0 then 0 else 1 := rfl
  rw [e]
  by_cases q : y ≤ x
  · rw [if_pos (lg_cmp_ge _ _ |>.mpr ((i64_le y x).mpr q)), decide_eq_false (i32_nlt.mpr q)]; rfl
  · rw [if_neg (fun z => q ((i64_le y x).mp (lg_cmp_ge _ _ |>.mp z))), decide_eq_true (i32_nle.mp q)]; rfl
theorem lgc_le (x y : Int64) : lg_cmp x y ≤ 0 ↔ x ≤ y := by
  unfold lg_cmp
  by_cases q1 : x > y
  · rw [if_pos q1]
    have : ¬ x ≤ y := by
      rw [gt_iff_lt, Int64.lt_iff_toInt_lt] at q1
      rw [Int64.le_iff_toInt_le]; omega
    exact ⟨fun z => absurd z (by decide), fun z => absurd z this⟩
  · have : x ≤ y := by
      rw [gt_iff_lt, Int64.lt_iff_toInt_lt] at q1
      rw [Int64.le_iff_toInt_le]; omega
    rw [if_neg q1]
    refine ⟨fun _ => this, fun _ => ?_⟩
    split <;> decide
theorem lgc_eq (x y : Int64) : lg_cmp x y = 0 ↔ x = y := by
  unfold lg_cmp
  by_cases q1 : x > y
  · rw [if_pos q1]
    refine ⟨fun z => absurd z (by decide), fun z => ?_⟩
    rw [z, gt_iff_lt, Int64.lt_iff_toInt_lt] at q1
    omega
  · rw [if_neg q1]
    by_cases q2 : x = y
    · rw [if_pos q2]; exact ⟨fun _ => q2, fun _ => rfl⟩
    · rw [if_neg q2]; exact ⟨fun z => absurd z (by decide), fun z => absurd z q2⟩
theorem op7 (x y : Int32) : opR 7 x y = b01 (decide (y < x)) := by
  have e : opR 7 x y = if (if lg_cmp x.toInt64 y.toInt64 ≤ 0 then (0 : Int32) else 1) = 0 then 0 else 1 := rfl
  rw [e]
  by_cases q : x ≤ y
  · rw [if_pos ((lgc_le _ _).mpr ((i64_le x y).mpr q)), decide_eq_false (i32_nlt.mpr q)]; rfl
  · rw [if_neg (fun z => q ((i64_le x y).mp ((lgc_le _ _).mp z))), decide_eq_true (i32_nle.mp q)]; rfl
theorem i64_inj (x y : Int32) : x.toInt64 = y.toInt64 ↔ x = y := by
  constructor
  · intro h
    have := congrArg Int64.toInt h
    rw [i64_of, i64_of] at this
    exact Int32.toInt_inj.mp this
  · rintro rfl; rfl
theorem op8 (x y : Int32) : opR 8 x y = b01 (decide (x = y)) := by
  have e : opR 8 x y = if (if lg_cmp x.toInt64 y.toInt64 = 0 then (1 : Int32) else 0) = 0 then 0 else 1 := rfl
  rw [e]
  by_cases q : x = y
  · rw [if_pos ((lgc_eq _ _).mpr ((i64_inj x y).mpr q)), decide_eq_true q]; rfl
  · rw [if_neg (fun z => q ((i64_inj x y).mp ((lgc_eq _ _).mp z))), decide_eq_false q]; rfl
theorem op9 (a b : Bool) : opR 9 (b01 a) (b01 b) = b01 (a && b) := by
  cases a <;> cases b <;> decide
theorem opRl (vals : Nat → Int32) (a : pOne) : opR (kRl a.2.2) (sumV vals a.1) (sumV vals a.2.1) = b01 (oneV vals a) := by
  unfold kRl oneV
  by_cases q1 : a.2.2 = 60
  · rw [if_pos q1, if_pos q1]; exact op6 _ _
  · rw [if_neg q1, if_neg q1]
    by_cases q2 : a.2.2 = 62
    · rw [if_pos q2, if_pos q2]; exact op7 _ _
    · rw [if_neg q2, if_neg q2]; exact op8 _ _
/-- a sum that begins as a text's does, and whose factors are small -/
def okQ (vals : Nat → Int32) (l : List pFa) : Prop := (∃ a r, l = a :: r ∧ (a.1 = 0 ∨ a.1 = 1)) ∧ ∀ x ∈ l, sm 1000 (fVal vals x)
theorem kRl_ne (rel : Int32) : ¬ kRl rel = 0 ∧ ¬ kRl rel = 1 ∧ ¬ kRl rel = 5 := by
  unfold kRl
  split
  · decide
  · split <;> decide
theorem one_at {vals : Nat → Int32} {a : pOne} (h1 : okQ vals a.1) (h2 : okQ vals a.2.1) (R : List (Int32 × Int32)) (d0 : Nat) (p : Nat → Int32) :
    ∃ p', pilGo vals (oneI a ++ R) d0 p = pilGo vals R (d0 + 1) p' ∧ p' d0 = b01 (oneV vals a) ∧ ∀ j, j < d0 → p' j = p j := by
  obtain ⟨⟨x, r, e1, q1⟩, v1⟩ := h1
  obtain ⟨⟨y, s, e2, q2⟩, v2⟩ := h2
  have E : oneI a ++ R = postV (x :: r) ++ (postV (y :: s) ++ ((kRl a.2.2, 0) :: R)) := by
    unfold oneI
    rw [e1, e2, List.append_assoc, List.append_assoc]
    rfl
  obtain ⟨p1, f1, f2, f3⟩ := postV_at q1 (by rw [← e1]; exact v1) (postV (y :: s) ++ ((kRl a.2.2, 0) :: R)) d0 p
  obtain ⟨p2, g1, g2, g3⟩ := postV_at q2 (by rw [← e2]; exact v2) ((kRl a.2.2, 0) :: R) (d0 + 1) p1
  have hk := kRl_ne a.2.2
  refine ⟨upd p2 d0 (opR (kRl a.2.2) (p2 d0) (p2 (d0 + 1))), ?_, ?_, fun j hj => ?_⟩
  · rw [E, f1, g1]
    simp only [pilGo, hk.1, hk.2.1, hk.2.2, if_false]
    rfl
  · rw [upd_eq, g3 d0 (by omega), f2, g2, ← e1, ← e2]
    exact opRl vals a
  · rw [upd_ne (by omega), g3 j (by omega), f3 j hj]
def andI : List pOne → List (Int32 × Int32)
  | [] => []
  | b :: r => (oneI b ++ [(9, 0)]) ++ andI r
theorem and_at {vals : Nat → Int32} (R : List (Int32 × Int32)) (d0 : Nat) : ∀ (l : List pOne) (b : Bool) (p : Nat → Int32), (∀ a ∈ l, okQ vals a.1 ∧ okQ vals a.2.1) → p d0 = b01 b →
    ∃ p', pilGo vals (andI l ++ R) (d0 + 1) p = pilGo vals R (d0 + 1) p' ∧ p' d0 = b01 (b && allV vals l) ∧ ∀ j, j < d0 → p' j = p j
  | [], b, p, _, hp => ⟨p, rfl, by rw [hp]; unfold allV; rw [List.all_nil, Bool.and_true], fun _ _ => rfl⟩
  | a :: r, b, p, hl, hp => by
    obtain ⟨q1, q2⟩ := hl a List.mem_cons_self
    obtain ⟨p1, f1, f2, f3⟩ := one_at q1 q2 ((9, 0) :: (andI r ++ R)) (d0 + 1) p
    have E : andI (a :: r) ++ R = oneI a ++ ((9, 0) :: (andI r ++ R)) := by
      show ((oneI a ++ [(9, 0)]) ++ andI r) ++ R = _
      rw [List.append_assoc, List.append_assoc]
      rfl
    have a1 : ¬ (9 : Int32) = 0 := by decide
    have a2 : ¬ (9 : Int32) = 1 := by decide
    have a3 : ¬ (9 : Int32) = 5 := by decide
    obtain ⟨p', e1, e2, e3⟩ := and_at R d0 r (b && oneV vals a) (upd p1 d0 (opR 9 (p1 d0) (p1 (d0 + 1)))) (fun x hx => hl x (List.mem_cons_of_mem a hx)) (by rw [upd_eq, f3 d0 (by omega), hp, f2]; exact op9 _ _)
    refine ⟨p', ?_, ?_, fun j hj => ?_⟩
    · rw [E, f1]
      simp only [pilGo, a1, a2, a3, if_false]
      exact e1
    · rw [e2]
      unfold allV
      rw [List.all_cons, Bool.and_assoc]
    · rw [e3 j hj, upd_ne (by omega), f3 j (by omega)]
def testI : List pOne → List (Int32 × Int32)
  | [] => []
  | a :: r => oneI a ++ andI r
theorem test_at {vals : Nat → Int32} {a : pOne} {r : List pOne} (hl : ∀ x ∈ a :: r, okQ vals x.1 ∧ okQ vals x.2.1) (R : List (Int32 × Int32)) (d0 : Nat) (p : Nat → Int32) :
    ∃ p', pilGo vals (testI (a :: r) ++ R) d0 p = pilGo vals R (d0 + 1) p' ∧ p' d0 = b01 (allV vals (a :: r)) ∧ ∀ j, j < d0 → p' j = p j := by
  obtain ⟨q1, q2⟩ := hl a List.mem_cons_self
  obtain ⟨p1, f1, f2, f3⟩ := one_at q1 q2 (andI r ++ R) d0 p
  obtain ⟨p', e1, e2, e3⟩ := and_at R d0 r (oneV vals a) p1 (fun x hx => hl x (List.mem_cons_of_mem a hx)) f2
  refine ⟨p', ?_, ?_, fun j hj => by rw [e3 j hj, f3 j hj]⟩
  · show pilGo vals ((oneI a ++ andI r) ++ R) d0 p = _
    rw [List.append_assoc, f1, e1]
  · rw [e2]; unfold allV; rw [List.all_cons]
