/-! the beginning: what both make -/
def apH (o : aP) : aH := match o with
  | some (_, h, _, _) => h
  | none => []
def apN (o : aP) : Nat × Nat := match o with
  | some (_, _, n, y) => (n, y)
  | none => (0, 0)
def apOk (o : aP) : Bool := match o with
  | some (.inl none, _, _, _) => true
  | _ => false
theorem ap_of {o : aP} (h : apOk o = true) : o = some (.inl none, apH o, (apN o).1, (apN o).2) := by
  match o, h with
  | some (.inl none, _, _, _), _ => rfl
def hA0 : aH := [.inr (11, dfX11)]
def hA : aH := apH (s_X11_init 0 hA0)
def hB0 : aH := hA ++ [.inr (14, dfX14)]
def hB : aH := apH (s_X14_init 104 hB0)
def hC : aH := hB ++ [.inl (.long, zA .long 1)]
theorem initA : apOk (s_X11_init 0 hA0) = true := by decide +kernel
theorem lenA : hA.length = 104 := by decide +kernel
theorem initB : apOk (s_X14_init 104 hB0) = true := by decide +kernel
theorem lenB : hB.length = 183 := by decide +kernel
theorem cntA : (apN (s_X11_init 0 hA0)).1 = 103 := by decide +kernel
theorem cntB' : (apN (s_X14_init 104 hB0)).1 = 78 := by decide +kernel
theorem sltAB : (apN (s_X11_init 0 hA0)).2 + (apN (s_X14_init 104 hB0)).2 ≤ 598000 := by decide +kernel
