/-! the beginning: cell by cell -/
def rowI (h : aH) (k : Nat) : Nat → Int32 := match h[k]? with
  | some (.inl (_, _, .inl f)) => f
  | _ => fun _ => 0
def rowL (h : aH) (k : Nat) : Nat → Int64 := match h[k]? with
  | some (.inl (_, _, .inr (.inl f))) => f
  | _ => fun _ => 0
def fldV (h : aH) (a k : Nat) : Value := match h[a]? with
  | some (.inr (_, fs)) => fs.getD k .null
  | _ => .null
def fldI (h : aH) (a k : Nat) : Int32 := match fldV h a k with
  | .int x => x
  | _ => 0
def shI (h : aH) (k : Nat) (ty : FieldType) (n : Nat) : Bool := match h[k]? with
  | some (.inl (t, m, .inl _)) => decide (t = ty) && decide (m = n)
  | _ => false
def shJ (h : aH) (k n : Nat) : Bool := match h[k]? with
  | some (.inl (t, m, .inr (.inl _))) => decide (t = FieldType.long) && decide (m = n)
  | _ => false
def objB (h : aH) (a : Nat) (p : Nat × List Value) : Bool := match h[a]? with
  | some (.inr q) => decide (q = p)
  | _ => false
def allI (h : aH) (k n : Nat) (p : Int32 → Bool) : Bool := match h[k]? with
  | some (.inl (_, _, .inl f)) => (List.range n).all fun j => p (f j)
  | _ => false
theorem shI_of {h : aH} {k : Nat} {ty : FieldType} {n : Nat} (e : shI h k ty n = true) : h[k]? = some (.inl (ty, n, .inl (rowI h k))) := by
  unfold shI at e
  unfold rowI
  split at e
  · rename_i t m f q
    rw [Bool.and_eq_true] at e
    have a := of_decide_eq_true e.1
    have b := of_decide_eq_true e.2
    subst a
    subst b
    rw [q]
  · cases e
theorem shJ_of {h : aH} {k n : Nat} (e : shJ h k n = true) : h[k]? = some (.inl (.long, n, .inr (.inl (rowL h k)))) := by
  unfold shJ at e
  unfold rowL
  split at e
  · rename_i t m f q
    rw [Bool.and_eq_true] at e
    have a := of_decide_eq_true e.1
    have b := of_decide_eq_true e.2
    subst a
    subst b
    rw [q]
  · cases e
theorem objB_of {h : aH} {a : Nat} {p : Nat × List Value} (e : objB h a p = true) : h[a]? = some (.inr p) := by
  unfold objB at e
  split at e
  · rename_i q hq
    rw [hq, of_decide_eq_true e]
  · cases e
theorem allI_of {h : aH} {k n : Nat} {p : Int32 → Bool} (e : allI h k n p = true) : ∀ j, j < n → p (rowI h k j) = true := by
  unfold allI at e
  unfold rowI
  split at e
  · rename_i t m f q
    rw [q]
    intro j hj
    exact List.all_eq_true.mp e j (List.mem_range.mpr hj)
  · cases e
/-- shapes of the things -/
def isFb (h : aH) (o : Nat) : Bool := objB h o (0, [.int (jI 0), .ref (o + 1), .ref (o + 2), .ref (o + 3), .int (jI 0), .ref (o + 4), .ref (o + 5), .ref (o + 6), .ref (o + 7)]) && ((List.range 3).all fun k => shI h (o + 1 + k) .int 60) && ((List.range 4).all fun k => shI h (o + 4 + k) .int 30)
def isMb (h : aH) (o : Nat) : Bool := objB h o (2, [.ref (o + 1), .ref (o + 2), .ref (o + 3), .ref (o + 4), .int (jI 0), .ref (o + 5), .ref (o + 6), .ref (o + 7), .ref (o + 8), .ref (o + 9), .ref (o + 10), .ref (o + 11), .int (jI 0), .int (jI 0), .int (jI 0), .int (jI 1), .ref (o + 12)]) && shI h (o + 1) .int 5 && shJ h (o + 2) 11 && ((List.range 9).all fun k => shI h (o + 3 + k) .int (lenM (3 + k))) && isFb h (o + 12)
def isTb (h : aH) (t : Nat) : Bool := objB h t (13, [.ref (t + 1), .ref (t + 2), .ref (t + 3), .ref (t + 4), .ref (t + 5), .ref (t + 6), .int (jI 0), .int (jI 0), .ref (t + 7), .ref (t + 8), .ref (t + 9), .ref (t + 10), .ref (t + 11), .ref (t + 12)]) && shJ h (t + 6) 11 && ((List.range 13).all fun k => decide (k = 0) || decide (k = 6) || shI h (t + k) .int (lenT k))
theorem isFb_of {h : aH} {o : Nat} (ho : o + 7 < aE) (e : isFb h o = true) : isF h o 0 (rowI h (o + 1)) (rowI h (o + 2)) (rowI h (o + 3)) 0 (rowI h (o + 4)) (rowI h (o + 5)) (rowI h (o + 6)) (rowI h (o + 7)) := by
  unfold isFb at e
  rw [Bool.and_eq_true, Bool.and_eq_true] at e
  obtain ⟨⟨a, b⟩, c⟩ := e
  have b' := fun k hk => shI_of (List.all_eq_true.mp b k (List.mem_range.mpr hk))
  have c' := fun k hk => shI_of (List.all_eq_true.mp c k (List.mem_range.mpr hk))
  exact ⟨ho, objB_of a, b' 0 (by decide), b' 1 (by decide), b' 2 (by decide), c' 0 (by decide), c' 1 (by decide), c' 2 (by decide), c' 3 (by decide)⟩
theorem isMb_of {h : aH} {o : Nat} (ho : o + 20 ≤ aE) (e : isMb h o = true) : isM h o (fun k => rowI h (o + k)) (rowL h (o + 2)) (fun k => if k = 15 then 1 else 0) := by
  unfold isMb at e
  rw [Bool.and_eq_true, Bool.and_eq_true, Bool.and_eq_true, Bool.and_eq_true] at e
  obtain ⟨⟨⟨⟨a, b⟩, c⟩, d⟩, f⟩ := e
  refine ⟨ho, objB_of a, shI_of b, shJ_of c, fun k k1 k2 => ?_, isFb_of (by omega) f⟩
  have d' := shI_of (List.all_eq_true.mp d (k - 3) (List.mem_range.mpr (by omega)))
  rw [show o + 3 + (k - 3) = o + k by omega, show 3 + (k - 3) = k by omega] at d'
  exact d'
theorem isTb_of {h : aH} {t : Nat} (ht : t + 13 ≤ aE) (e : isTb h t = true) : isT h t (fun k => rowI h (t + k)) (rowL h (t + 6)) (fun _ => 0) := by
  unfold isTb at e
  rw [Bool.and_eq_true, Bool.and_eq_true] at e
  obtain ⟨⟨a, b⟩, c⟩ := e
  refine ⟨ht, objB_of a, shJ_of b, fun k k1 k2 k3 => ?_⟩
  have c' := List.all_eq_true.mp c k (List.mem_range.mpr (by omega))
  rw [Bool.or_eq_true, Bool.or_eq_true] at c'
  rcases c' with (z | z) | z
  · exact absurd (of_decide_eq_true z) (by omega)
  · exact absurd (of_decide_eq_true z) k3
  · exact shI_of z
def stpB (h : aH) : Bool := match h[(118 : Nat)]? with
  | some (.inr (c, fs)) => decide (c = 12) && decide (fs.length = 8)
  | _ => false
/-- all of it, at once -/
def chkC (h : aH) : Bool :=
  ([0, 56, 60, 69, 78, 81, 92, 99].all fun a => objB h a (oF (fldI h) (fun i => i) a)) &&
  ((List.range 104).all fun k => !inC k || shI h k .int (lnC k)) &&
  ((List.range 104).all fun k => !loC k || shJ h k (lnC k)) &&
  ([58, 59, 64, 68, 75, 79, 80, 97].all fun k => shI h k .int 0) && decide (h.length = 184)
def chkP (h : aH) : Bool :=
  isMb h 3 && isMb h 23 && isFb h 43 &&
  objB h 51 (6, [.int (fldI h 51 0), .int (fldI h 51 1), .int (fldI h 51 2), .int (fldI h 51 3), .int (fldI h 51 4), .ref 23, .ref 35, .ref 52]) &&
  objB h 52 (8, [.int (jI 0), .ref 53, .ref 54, .ref 55]) && shI h 53 .int 401 && shI h 54 .int 401 && shJ h 55 401 &&
  (allI h 37 60 fun x => decide (x = 0)) && (allI h 45 60 fun x => decide (x = 0)) && (allI h 1 400 fun x => decide (x = 0)) && (allI h 95 62 fun x => decide (x = 0)) &&
  decide (fldI h 0 1 = 0 ∧ fldI h 0 2 = 0 ∧ fldI h 0 3 = 0 ∧ fldI h 0 4 = 0 ∧ fldI h 81 8 = 0)
def chkR (h : aH) : Bool :=
  objB h 104 (14, xFs (fldI h 104) 0 .null (.ref 105) (fldV h 104 6)) &&
  ((List.range 184).all fun k => !inR k || shI h k (ryR k) (lnR k)) &&
  ((List.range 184).all fun k => !loR k || shJ h k (lnR k)) &&
  isTb h 105 && isTb h 120 && isTb h 133 && stpB h &&
  (allI h 119 400 fun x => decide (x = 0)) && (allI h 176 62 fun x => decide (x = 0)) &&
  decide (fldI h 104 9 = 0 ∧ fldI h 104 1 = 0 ∧ fldI h 104 2 = -1 ∧ fldI h 104 3 = 0 ∧ fldI h 104 56 = 0)
theorem chkC_ok : chkC hC = true := by decide +kernel
theorem chkP_ok : chkP hC = true := by decide +kernel
theorem chkR_ok : chkR hC = true := by decide +kernel
