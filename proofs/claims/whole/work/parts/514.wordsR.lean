/-! the reference's reader: words, slots, stops -/
theorem res_32 : ∀ i, i < 8 → okWo (resA i) := res_ok
theorem wordOf_0 (h : aH) : s_X14_wordOf (aE + 10 + 0) h = some (.inl (some (.long (wL 32 (resA 0)))), h) := rfl
theorem wordOf_1 (h : aH) : s_X14_wordOf (aE + 10 + 1) h = some (.inl (some (.long (wL 32 (resA 1)))), h) := rfl
theorem wordOf_2 (h : aH) : s_X14_wordOf (aE + 10 + 2) h = some (.inl (some (.long (wL 32 (resA 2)))), h) := rfl
theorem wordOf_3 (h : aH) : s_X14_wordOf (aE + 10 + 3) h = some (.inl (some (.long (wL 32 (resA 3)))), h) := rfl
theorem wordOf_4 (h : aH) : s_X14_wordOf (aE + 10 + 4) h = some (.inl (some (.long (wL 32 (resA 4)))), h) := rfl
theorem wordOf_5 (h : aH) : s_X14_wordOf (aE + 10 + 5) h = some (.inl (some (.long (wL 32 (resA 5)))), h) := rfl
theorem wordOf_6 (h : aH) : s_X14_wordOf (aE + 10 + 6) h = some (.inl (some (.long (wL 32 (resA 6)))), h) := rfl
theorem wordOf_7 (h : aH) : s_X14_wordOf (aE + 10 + 7) h = some (.inl (some (.long (wL 32 (resA 7)))), h) := rfl
theorem wordOf_at {i : Nat} (hi : i < 8) (h : aH) : s_X14_wordOf (aE + 10 + i) h = some (.inl (some (.long (wL 32 (resA i)))), h) := by
  match i, hi with
  | 0, _ => exact wordOf_0 h
  | 1, _ => exact wordOf_1 h
  | 2, _ => exact wordOf_2 h
  | 3, _ => exact wordOf_3 h
  | 4, _ => exact wordOf_4 h
  | 5, _ => exact wordOf_5 h
  | 6, _ => exact wordOf_6 h
  | 7, _ => exact wordOf_7 h
