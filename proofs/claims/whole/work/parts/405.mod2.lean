theorem fillR_go {a n b : Nat} {x : Int32} (ha : a < aE) (hb : b ≤ n) (hn : n ≤ 2147483647) : ∀ (k i f : Nat) (h : aH) (g : Nat → Int32), i + k = b → k < f → h[a]? = some (.inl (.int, n, .inl g)) →
    s_J7_fill_fda19_10 f a (jI b) x (jI i) h = some (.inl none, h.set a (.inl (.int, n, .inl (filF g i b x))))
  | _, _, 0, _, _, _, hf, _ => by omega
  | 0, i, f + 1, h, g, hi, hf, hc => by
    show s_J7_fill_fda19_10_b (s_J7_fill_fda19_10 f) a (jI b) x (jI i) h = _
    unfold s_J7_fill_fda19_10_b
    rw [if_pos ((jI_le (by omega) (by omega)).mpr (by omega)), show i = b by omega, filF_z, set_same hc]
  | k + 1, i, f + 1, h, g, hi, hf, hc => by
    show s_J7_fill_fda19_10_b (s_J7_fill_fda19_10 f) a (jI b) x (jI i) h = _
    unfold s_J7_fill_fda19_10_b
    rw [if_neg (fun q => by have := (jI_le (by omega) (by omega)).mp q; omega), stI_of ha hc (by omega) (by omega)]
    simp only [Option.bind_some, jI_inc]
    rw [fillR_go ha hb hn k (i + 1) f _ _ (by omega) (by omega) (set_eq hc), set_set, filF_s _ _ _ _ (by omega)]
theorem fillR_at {h : aH} {a n i b : Nat} {x : Int32} {g : Nat → Int32} (ha : a < aE) (hn : n ≤ 2147483647) (hi : i ≤ b) (hb : b ≤ n) (h6 : b < 1000000) (hc : h[a]? = some (.inl (.int, n, .inl g))) :
    s_J7_fill_fda19 a (jI i) (jI b) x h = some (.inl none, h.set a (.inl (.int, n, .inl (filF g i b x)))) := by
  unfold s_J7_fill_fda19
  have e : lnA h (.ref a) = some (jI n) := by simp [lnA, aG, ha, hc, jI]
  have e2 : s_J7_rangeCheck_23922 (jI n) (jI i) (jI b) h = some (.inl none, h) := by
    unfold s_J7_rangeCheck_23922
    rw [if_pos ((jI_le (by omega) (by omega)).mpr hi), if_pos (i32_nlt.mp (jI_neg (by omega))), if_pos ((jI_le (by omega) (by omega)).mpr hb)]
  rw [e]
  simp only [Option.bind_some, e2, cN]
  exact fillR_go ha hb hn (b - i) i FU h g (by omega) (by show b - i < 1000000; omega) hc
/-! measure -/
abbrev mObj (o : Nat) (F : Nat → Nat) : aC := .inr (2, [.ref (o + 1), .ref (o + 2), .ref (o + 3), .ref (o + 4), .int (jI (F 4)), .ref (o + 5), .ref (o + 6), .ref (o + 7), .ref (o + 8), .ref (o + 9), .ref (o + 10), .ref (o + 11), .int (jI (F 12)), .int (jI (F 13)), .int (jI (F 14)), .int (jI (F 15)), .ref (o + 12)])
/-- a row of numbers, one of them anew -/
def updN (F : Nat → Nat) (k x : Nat) : Nat → Nat := fun j => if j = k then x else F j
def meas (A : Nat → Nat → Int32) (m F : Nat → Nat) : Nat → Nat :=
  updN (updN (updN (updN F 12 (prtN A 0 0 (m 0))) 13 (prtN A 0 3 (m 1))) 15 (prtN A 0 7 (m 3))) 14 (prtN A 0 5 (m 2) * prtN A 0 7 (m 3))
theorem isM.obj {h : aH} {o : Nat} {A : Nat → Nat → Int32} {N : Nat → Int64} {F F' : Nat → Nat} (H : isM h o A N F) (h20 : F' 20 = F 20) (h24 : F' 24 = F 24) : isM (h.set o (mObj o F')) o A N F' := by
  obtain ⟨a, h0, h1, h2, h3, h4⟩ := H
  refine ⟨a, set_eq h0, by rw [set_ne (by omega)]; exact h1, by rw [set_ne (by omega)]; exact h2, fun j j1 j2 => by rw [set_ne (by omega)]; exact h3 j j1 j2, ?_⟩
  rw [h20, h24]
  exact h4.set (by omega)
theorem measure_at {h : aH} {o : Nat} {A : Nat → Nat → Int32} {N : Nat → Int64} {F m : Nat → Nat} (H : isM h o A N F) (K : okm m) (hm : ∀ k, k < 5 → A 1 k = jI (m k)) : s_X2_measure o h = some (.inl none, h.set o (mObj o (meas A m F))) := by
  have ho := H.1
  unfold s_X2_measure
  have e0 : s_X2_parts o 0 0 h = _ := partsN_at (k := 0) H (by decide) (hm 0 (by decide)) (K.base (by decide)) 0
  have q0 : pF h (.ref o) 2 12 (.int (jI (prtN A 0 0 (m 0)))) = some (h.set o (mObj o (updN F 12 (prtN A 0 0 (m 0))))) := pF_of (by omega) H.2.1 (Nat.le_of_ble_eq_true rfl)
  have H1 := H.obj (F' := updN F 12 (prtN A 0 0 (m 0))) rfl rfl
  have e1 : s_X2_parts o 1 0 (h.set o (mObj o (updN F 12 (prtN A 0 0 (m 0))))) = _ := partsN_at (k := 1) H1 (by decide) (hm 1 (by decide)) (K.base (by decide)) 0
  have q1 : pF (h.set o (mObj o (updN F 12 (prtN A 0 0 (m 0))))) (.ref o) 2 13 (.int (jI (prtN A 0 3 (m 1)))) = some ((h.set o (mObj o (updN F 12 (prtN A 0 0 (m 0))))).set o (mObj o (updN (updN F 12 (prtN A 0 0 (m 0))) 13 (prtN A 0 3 (m 1))))) := pF_of (by omega) H1.2.1 (Nat.le_of_ble_eq_true rfl)
  rw [set_set] at q1
  have H2 := H.obj (F' := updN (updN F 12 (prtN A 0 0 (m 0))) 13 (prtN A 0 3 (m 1))) rfl rfl
  have e2 : s_X2_parts o 3 0 (h.set o (mObj o (updN (updN F 12 (prtN A 0 0 (m 0))) 13 (prtN A 0 3 (m 1))))) = _ := partsN_at (k := 3) H2 (by decide) (hm 3 (by decide)) (K.base (by decide)) 0
  have q2 : pF (h.set o (mObj o (updN (updN F 12 (prtN A 0 0 (m 0))) 13 (prtN A 0 3 (m 1))))) (.ref o) 2 15 (.int (jI (prtN A 0 7 (m 3)))) = some ((h.set o (mObj o (updN (updN F 12 (prtN A 0 0 (m 0))) 13 (prtN A 0 3 (m 1))))).set o (mObj o (updN (updN (updN F 12 (prtN A 0 0 (m 0))) 13 (prtN A 0 3 (m 1))) 15 (prtN A 0 7 (m 3))))) := pF_of (by omega) H2.2.1 (Nat.le_of_ble_eq_true rfl)
  rw [set_set] at q2
  have H3 := H.obj (F' := updN (updN (updN F 12 (prtN A 0 0 (m 0))) 13 (prtN A 0 3 (m 1))) 15 (prtN A 0 7 (m 3))) rfl rfl
  have e3 : s_X2_parts o 2 0 (h.set o (mObj o (updN (updN (updN F 12 (prtN A 0 0 (m 0))) 13 (prtN A 0 3 (m 1))) 15 (prtN A 0 7 (m 3))))) = _ := partsN_at (k := 2) H3 (by decide) (hm 2 (by decide)) (K.base (by decide)) 0
  have g3 : gI (h.set o (mObj o (updN (updN (updN F 12 (prtN A 0 0 (m 0))) 13 (prtN A 0 3 (m 1))) 15 (prtN A 0 7 (m 3))))) (.ref o) 2 15 = some (jI (prtN A 0 7 (m 3))) := gI_of (by omega) H3.2.1 rfl
  have q3 : pF (h.set o (mObj o (updN (updN (updN F 12 (prtN A 0 0 (m 0))) 13 (prtN A 0 3 (m 1))) 15 (prtN A 0 7 (m 3))))) (.ref o) 2 14 (.int (jI (prtN A 0 5 (m 2) * prtN A 0 7 (m 3)))) = some ((h.set o (mObj o (updN (updN (updN F 12 (prtN A 0 0 (m 0))) 13 (prtN A 0 3 (m 1))) 15 (prtN A 0 7 (m 3))))).set o (mObj o (meas A m F))) := pF_of (by omega) H3.2.1 (Nat.le_of_ble_eq_true rfl)
  rw [set_set] at q3
  have b0 : baseN 0 = 0 := rfl
  have b1 : baseN 1 = 3 := rfl
  have b2 : baseN 2 = 5 := rfl
  have b3 : baseN 3 = 7 := rfl
  simp only [H.kO, e0, cI, b0, q0, Option.bind_some]
  simp only [H1.kO, e1, cI, b1, q1, Option.bind_some]
  simp only [H2.kO, e2, cI, b3, q2, Option.bind_some]
  simp only [H3.kO, e3, cI, b2, g3, jI_mul, q3, Option.bind_some]
/-! isEdge -/
def edgeGo (A : Nat → Nat → Int32) (w : Int32) (v : Nat → Int32) : Nat → Nat → Bool
  | _, 0 => false
  | s, n + 1 => if v s = A 3 s - w then true else if v s = A 4 s + w then true else edgeGo A w v (s + 1) n
section
variable {h : aH} {o v : Nat} {A : Nat → Nat → Int32} {N : Nat → Int64} {F m : Nat → Nat} {vals : Nat → Int32}
theorem edge_go (H : isM h o A N F) (K : okM A m F) (hv : v < aE) (hvc : h[v]? = some (.inl (.int, 9, .inl vals))) (w : Int32) :
    ∀ (n s f : Nat), s + n = 5 + m 2 → n < f → s_X2_isEdge_6 f o w v (jI s) h = some (.inl (some (.int (if edgeGo A w vals s n then 1 else 0))), h)
  | _, _, 0, _, hf => by omega
  | 0, s, f + 1, hi, hf => by
    show s_X2_isEdge_6_b (s_X2_isEdge_6 f) o w v (jI s) h = _
    unfold s_X2_isEdge_6_b
    have e : ldI .int h (.ref (o + 1)) 2 = some (jI (m 2)) := (K.2.1 2 (by decide)) ▸ H.ldmn (s := 2) (by decide)
    have eb : ldI .int h (.ref (aE + 1)) 2 = some (jI 5) := BASE_of (j := 2) (by decide)
    have h3 := K.1.2.2.1
    simp only [eb, H.mn, Option.bind_some, e, jI_add]
    rw [if_pos ((jI_le (by omega) (by omega)).mpr (by omega))]
    rfl
  | n + 1, s, f + 1, hi, hf => by
    show s_X2_isEdge_6_b (s_X2_isEdge_6 f) o w v (jI s) h = _
    unfold s_X2_isEdge_6_b
    have e : ldI .int h (.ref (o + 1)) 2 = some (jI (m 2)) := (K.2.1 2 (by decide)) ▸ H.ldmn (s := 2) (by decide)
    have eb : ldI .int h (.ref (aE + 1)) 2 = some (jI 5) := BASE_of (j := 2) (by decide)
    have h3 := K.1.2.2.1
    have hs9 : s < 9 := by omega
    have ev : ldI .int h (.ref v) (jI s) = some (vals s) := ldI_of hv hvc hs9 (by decide)
    simp only [eb, H.mn, Option.bind_some, e, jI_add]
    rw [if_neg (fun q => by have := (jI_le (by omega) (by omega)).mp q; omega)]
    simp only [ev, H.lo, H.hi, H.ldlo hs9, H.ldhi hs9, Option.bind_some, jI_inc, edgeGo]
    rw [edge_go H K hv hvc w n (s + 1) f (by omega) (by omega)]
    by_cases q1 : vals s = A 3 s - w
    · simp [q1, rtZ]
    · by_cases q2 : vals s = A 4 s + w
      · simp [q1, q2, rtZ]
      · simp [q1, q2]
theorem edge_at (H : isM h o A N F) (K : okM A m F) (hv : v < aE) (hvc : h[v]? = some (.inl (.int, 9, .inl vals))) (w : Int32) : s_X2_isEdge o w v h = some (.inl (some (.int (if edgeGo A w vals 5 (m 2) then 1 else 0))), h) := by
  unfold s_X2_isEdge
  have eb : ldI .int h (.ref (aE + 1)) 2 = some (jI 5) := BASE_of (j := 2) (by decide)
  rw [eb, Option.bind_some]
  exact edge_go H K hv hvc w (m 2) 5 FU (by omega) (by have := K.1.2.2.1; unfold FU; omega)
/-! failing: the push whose part is 0 or as near to it as it can be -/
def idxGo (A : Nat → Nat → Int32) (v : Nat → Int32) : Nat → Nat → Int32 → Int32
  | _, 0, c => c
  | s, n + 1, c => idxGo A v (s + 1) n (((c * wdt A 0 s) + v s) - A 3 s)
theorem failing_go (H : isM h o A N F) (K : okM A m F) (hv : v < aE) (hvc : h[v]? = some (.inl (.int, 9, .inl vals))) :
    ∀ (n i f : Nat) (c : Int32), i + n = m 1 → n < f → s_X2_failing_48 f o v c (jI i) h = some (.inl (some (.int (idxGo A vals (3 + i) n c))), h)
  | _, _, 0, _, _, hf => by omega
  | 0, i, f + 1, c, hi, hf => by
    show s_X2_failing_48_b (s_X2_failing_48 f) o v c (jI i) h = _
    unfold s_X2_failing_48_b
    have e : ldI .int h (.ref (o + 1)) 1 = some (jI (m 1)) := (K.2.1 1 (by decide)) ▸ H.ldmn (s := 1) (by decide)
    have h3 := K.1.2.1
    simp only [H.mn, Option.bind_some, e]
    rw [if_pos ((jI_le (by omega) (by omega)).mpr (by omega))]
    rfl
  | n + 1, i, f + 1, c, hi, hf => by
    show s_X2_failing_48_b (s_X2_failing_48 f) o v c (jI i) h = _
    unfold s_X2_failing_48_b
    have e : ldI .int h (.ref (o + 1)) 1 = some (jI (m 1)) := (K.2.1 1 (by decide)) ▸ H.ldmn (s := 1) (by decide)
    have eb : ldI .int h (.ref (aE + 1)) 1 = some (jI 3) := BASE_of (j := 1) (by decide)
    have h3 := K.1.2.1
    have hs9 : 3 + i < 9 := by omega
    have ev : ldI .int h (.ref v) (jI (3 + i)) = some (vals (3 + i)) := ldI_of hv hvc hs9 (by decide)
    simp only [H.mn, Option.bind_some, e]
    rw [if_neg (fun q => by have := (jI_le (by omega) (by omega)).mp q; omega)]
    simp only [eb, jI_add, Option.bind_some, H.kO, width_at H hs9 0, cI, ev, H.lo, H.ldlo hs9, jI_inc]
    rw [failing_go H K hv hvc n (i + 1) f _ (by omega) (by omega)]
    rfl
def failV (A : Nat → Nat → Int32) (m : Nat → Nat) (p : Int32) (i : Nat) (v : Nat → Int32) : Nat → Int32 := upd (sprGo A 0 3 (m 1) p v) (3 + i) (jmax (A 3 (3 + i)) (jmin (A 4 (3 + i)) 0))
theorem failing_at (H : isM h o A N F) (K : okM A m F) (hv : v < aE) (hov : v < o ∨ o + 19 < v) (hvc : h[v]? = some (.inl (.int, 9, .inl vals))) (p : Int32) {i : Nat} (hi : i < m 1) :
    s_X2_failing o p (jI i) v h = some (.inl (some (.int (idxGo A (failV A m p i vals) 3 (m 1) 0))), h.set v (.inl (.int, 9, .inl (failV A m p i vals)))) := by
  unfold s_X2_failing
  have h3 := K.1.2.1
  have hs9 : 3 + i < 9 := by omega
  have eb : ldI .int h (.ref (aE + 1)) 1 = some (jI 3) := BASE_of (j := 1) (by decide)
  have e1 : s_X2_spread o 1 p 0 v h = _ := spreadK_at (k := 1) H K (by decide) hv hov hvc p 0
  have H1 := H.set (c := .inl (.int, 9, .inl (sprGo A 0 (baseN 1) (m 1) p vals))) hov
  have H2 := H.set (c := .inl (.int, 9, .inl (failV A m p i vals))) hov
  have s1 := stI_of (x := jmax (A 3 (3 + i)) (jmin (A 4 (3 + i)) 0)) hv (set_eq (c := .inl (.int, 9, .inl (sprGo A 0 (baseN 1) (m 1) p vals))) hvc) hs9 (by decide)
  rw [set_set] at s1
  simp only [eb, Option.bind_some, H.kO, e1, cN, jI_add, H1.lo, H1.hi, H1.ldlo hs9, H1.ldhi hs9, s1]
  exact failing_go H2 K hv (set_eq hvc) (m 1) 0 FU 0 (by omega) (by show m 1 < 1000000; omega)
end
