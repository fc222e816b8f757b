/-! the pure part: indices as natural numbers, what an operation gives on a cell that is known -/
def jI (j : Nat) : Int32 := Int32.ofNat j
theorem jI_inc (j : Nat) : jI j + 1 = jI (j + 1) := by
  unfold jI
  rw [Int32.ofNat_add]
  rfl
theorem jI_add (j k : Nat) : jI j + jI k = jI (j + k) := by
  unfold jI
  rw [Int32.ofNat_add]
theorem jI_mul (j k : Nat) : jI j * jI k = jI (j * k) := by
  unfold jI
  rw [Int32.ofNat_mul]
theorem jI_int {j : Nat} (h : j < 2147483648) : (jI j).toInt = j := Int32.toInt_ofNat_of_lt h
theorem jI_cl {j : Nat} (h : j < 2147483648) : (jI j).toNatClampNeg = j := by
  unfold Int32.toNatClampNeg
  rw [jI_int h]
  rfl
theorem jI_lt {j k : Nat} (hj : j < 2147483648) (hk : k < 2147483648) : jI j < jI k ↔ j < k := by
  rw [Int32.lt_iff_toInt_lt, jI_int hj, jI_int hk]
  omega
theorem jI_le {j k : Nat} (hj : j < 2147483648) (hk : k < 2147483648) : jI j ≤ jI k ↔ j ≤ k := by
  rw [Int32.le_iff_toInt_le, jI_int hj, jI_int hk]
  omega
theorem jI_neg {j : Nat} (hj : j < 2147483648) : ¬ jI j < 0 := by
  rw [Int32.lt_iff_toInt_lt, jI_int hj]
  show ¬ (j : Int) < 0
  omega
theorem jI_inj {j k : Nat} (hj : j < 2147483648) (hk : k < 2147483648) : jI j = jI k ↔ j = k := by
  constructor
  · intro h
    have := congrArg Int32.toInt h
    rw [jI_int hj, jI_int hk] at this
    omega
  · rintro rfl; rfl
theorem jI_dec {j : Nat} (h : 0 < j) : jI j - 1 = jI (j - 1) := by
  have : jI j = jI (j - 1) + 1 := by rw [jI_inc]; congr 1; omega
  rw [this]
  exact Int32.add_sub_cancel _ _
theorem jI_dec' {j : Nat} (h : 0 < j) : jI j + (-1) = jI (j - 1) := by
  rw [← jI_dec h, Int32.sub_eq_add_neg]
theorem jI_of {x : Int32} (h : ¬ x < 0) : x = jI x.toNatClampNeg := by
  have h1 : 0 ≤ x.toInt := by
    rw [Int32.lt_iff_toInt_lt] at h
    exact Int.not_lt.mp h
  have h2 : x.toInt < 2147483648 := Int32.toInt_lt x
  apply Int32.toInt_inj.mp
  have h3 : x.toNatClampNeg = x.toInt.toNat := rfl
  rw [jI_int (by omega)]
  omega
theorem gF_of {h : aH} {a ci k : Nat} {fs : List Value} (ha : a < aE) (hc : h[a]? = some (.inr (ci, fs))) : gF h (.ref a) ci k = fs[k]? := by
  simp [gF, ha, hc]
theorem gI_of {h : aH} {a ci k : Nat} {fs : List Value} {x : Int32} (ha : a < aE) (hc : h[a]? = some (.inr (ci, fs))) (hk : fs[k]? = some (.int x)) : gI h (.ref a) ci k = some x := by
  simp [gI, gF_of ha hc, hk]
theorem gJ_of {h : aH} {a ci k : Nat} {fs : List Value} {x : Int64} (ha : a < aE) (hc : h[a]? = some (.inr (ci, fs))) (hk : fs[k]? = some (.long x)) : gJ h (.ref a) ci k = some x := by
  simp [gJ, gF_of ha hc, hk]
theorem gO_of {h : aH} {a ci k : Nat} {fs : List Value} {x : Nat} (ha : a < aE) (hc : h[a]? = some (.inr (ci, fs))) (hk : fs[k]? = some (.ref x)) : gO h (.ref a) ci k = some x := by
  simp [gO, gF_of ha hc, hk]
theorem pF_of {h : aH} {a ci k : Nat} {fs : List Value} {x : Value} (ha : a < aE) (hc : h[a]? = some (.inr (ci, fs))) (hk : k < fs.length) : pF h (.ref a) ci k x = some (h.set a (.inr (ci, fs.set k x))) := by
  simp [pF, ha, hc, hk]
theorem cO_of {h : aH} {a ci : Nat} {fs : List Value} (ha : a < aE) (hc : h[a]? = some (.inr (ci, fs))) : cO h (.ref a) ci = some a := by
  simp [cO, ha, hc]
theorem kO_of {β : Type} {h : aH} {a ci : Nat} {fs : List Value} {k : Option β} (ha : a < aE) (hc : h[a]? = some (.inr (ci, fs))) : kO h a ci k = k := by
  simp [kO, cO_of ha hc]
theorem ldI_of {h : aH} {a n j : Nat} {ty : FieldType} {f : Nat → Int32} (ha : a < aE) (hc : h[a]? = some (.inl (ty, n, .inl f))) (hj : j < n) (hn : n ≤ 2147483648) : ldI ty h (.ref a) (jI j) = some (f j) := by
  simp [ldI, aG, ha, hc, jI_neg (show j < 2147483648 by omega), jI_cl (show j < 2147483648 by omega), hj]
theorem ldJ_of {h : aH} {a n j : Nat} {f : Nat → Int64} (ha : a < aE) (hc : h[a]? = some (.inl (.long, n, .inr (.inl f)))) (hj : j < n) (hn : n ≤ 2147483648) : ldJ h (.ref a) (jI j) = some (f j) := by
  simp [ldJ, aG, ha, hc, jI_neg (show j < 2147483648 by omega), jI_cl (show j < 2147483648 by omega), hj]
theorem stI_of {h : aH} {a n j : Nat} {f : Nat → Int32} {x : Int32} (ha : a < aE) (hc : h[a]? = some (.inl (.int, n, .inl f))) (hj : j < n) (hn : n ≤ 2147483648) : stI h (.ref a) (jI j) x = some (h.set a (.inl (.int, n, .inl (upd f j x)))) := by
  simp [stI, ha, hc, jI_neg (show j < 2147483648 by omega), jI_cl (show j < 2147483648 by omega), hj]
theorem stN_of {h : aH} {a n j : Nat} {ty : FieldType} {f : Nat → Int32} {x : Int32} (ha : a < aE) (hc : h[a]? = some (.inl (ty, n, .inl f))) (hj : j < n) (hn : n ≤ 2147483648) : stN ty h (.ref a) (jI j) x = some (h.set a (.inl (ty, n, .inl (upd f j (vp_nar ty x))))) := by
  simp [stN, ha, hc, jI_neg (show j < 2147483648 by omega), jI_cl (show j < 2147483648 by omega), hj]
theorem stJ_of {h : aH} {a n j : Nat} {f : Nat → Int64} {x : Int64} (ha : a < aE) (hc : h[a]? = some (.inl (.long, n, .inr (.inl f)))) (hj : j < n) (hn : n ≤ 2147483648) : stJ h (.ref a) (jI j) x = some (h.set a (.inl (.long, n, .inr (.inl (vp_updL f j x))))) := by
  simp [stJ, ha, hc, jI_neg (show j < 2147483648 by omega), jI_cl (show j < 2147483648 by omega), hj]
theorem BASE_of {h : aH} {j : Nat} (hj : j < 5) : ldI .int h (.ref (aE + 1)) (jI j) = some (aBASE j) := by
  have h1 : ¬ aE + 1 < aE := by omega
  simp [ldI, aG, h1, aXa, jI_neg (show j < 2147483648 by omega), jI_cl (show j < 2147483648 by omega), hj]
theorem MOST_of {h : aH} {j : Nat} (hj : j < 5) : ldI .int h (.ref (aE + 2)) (jI j) = some (aMOST j) := by
  have h1 : ¬ aE + 2 < aE := by omega
  simp [ldI, aG, h1, aXa, jI_neg (show j < 2147483648 by omega), jI_cl (show j < 2147483648 by omega), hj]
theorem RES_of {h : aH} {j : Nat} (hj : j < 8) : ldJ h (.ref (aE + 3)) (jI j) = some (aRES j) := by
  have h1 : ¬ aE + 3 < aE := by omega
  simp [ldJ, aG, h1, aXa, jI_neg (show j < 2147483648 by omega), jI_cl (show j < 2147483648 by omega), hj]
/-! the callers' reading of an answer -/
theorem cI_of {β : Type} {o : aO} {x : Int32} {h : aH} {f : Int32 → aH → Option β} (e : o = some (.inl (some (.int x)), h)) : cI o f = f x h := by rw [e]; rfl
theorem cJ_of {β : Type} {o : aO} {x : Int64} {h : aH} {f : Int64 → aH → Option β} (e : o = some (.inl (some (.long x)), h)) : cJ o f = f x h := by rw [e]; rfl
theorem cN_of {β : Type} {o : aO} {h : aH} {f : aH → Option β} (e : o = some (.inl none, h)) : cN o f = f h := by rw [e]; rfl
theorem nz_of {β : Type} {y : Int32} {k : Option β} (hy : y ≠ 0) : nz y k = k := by simp [nz, hy]
theorem nzL_of {β : Type} {y : Int64} {k : Option β} (hy : y ≠ 0) : nzL y k = k := by simp [nzL, hy]
theorem set_ne {h : aH} {a b : Nat} {c : aC} (hab : a ≠ b) : (h.set a c)[b]? = h[b]? := List.getElem?_set_ne hab
theorem set_eq {h : aH} {a : Nat} {c c0 : aC} (hc : h[a]? = some c0) : (h.set a c)[a]? = some c := by
  have := (List.getElem?_eq_some_iff.mp hc).1
  simp [this]
theorem set_set {h : aH} {a : Nat} {c d : aC} : (h.set a c).set a d = h.set a d := List.set_set ..
theorem set_same {h : aH} {a : Nat} {c : aC} (hc : h[a]? = some c) : h.set a c = h := by
  apply List.ext_getElem?
  intro i
  by_cases q : a = i
  · subst q; rw [set_eq hc, hc]
  · rw [set_ne q]
