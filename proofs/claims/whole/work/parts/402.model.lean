/-! the class's Model at o: twenty cells -/
def lenM (k : Nat) : Nat := if k ≤ 4 then 9 else if k ≤ 9 then 8 else if k ≤ 11 then 2 else if k ≤ 15 then 60 else 30
def isM (h : aH) (o : Nat) (A : Nat → Nat → Int32) (N : Nat → Int64) (F : Nat → Nat) : Prop :=
  o + 20 ≤ aE ∧ h[o]? = some (.inr (2, [.ref (o + 1), .ref (o + 2), .ref (o + 3), .ref (o + 4), .int (jI (F 4)), .ref (o + 5), .ref (o + 6), .ref (o + 7), .ref (o + 8), .ref (o + 9), .ref (o + 10), .ref (o + 11), .int (jI (F 12)), .int (jI (F 13)), .int (jI (F 14)), .int (jI (F 15)), .ref (o + 12)])) ∧
  h[o + 1]? = some (.inl (.int, 5, .inl (A 1))) ∧ h[o + 2]? = some (.inl (.long, 11, .inr (.inl N))) ∧ (∀ k, 3 ≤ k → k ≤ 11 → h[o + k]? = some (.inl (.int, lenM k, .inl (A k)))) ∧
  isF h (o + 12) (F 20) (A 13) (A 14) (A 15) (F 24) (A 16) (A 17) (A 18) (A 19)
theorem isM.set {h : aH} {o k : Nat} {A : Nat → Nat → Int32} {N : Nat → Int64} {F : Nat → Nat} {c : aC} (H : isM h o A N F) (hk : k < o ∨ o + 19 < k) : isM (h.set k c) o A N F := by
  obtain ⟨a, h0, h1, h2, h3, h4⟩ := H
  exact ⟨a, by rw [set_ne (by omega)]; exact h0, by rw [set_ne (by omega)]; exact h1, by rw [set_ne (by omega)]; exact h2, fun j j1 j2 => by rw [set_ne (by omega)]; exact h3 j j1 j2, h4.set (by omega)⟩
theorem isM.app {h h2 : aH} {o : Nat} {A : Nat → Nat → Int32} {N : Nat → Int64} {F : Nat → Nat} (H : isM h o A N F) : isM (h ++ h2) o A N F := by
  have g : ∀ {k : Nat} {c : aC}, h[k]? = some c → (h ++ h2)[k]? = some c := fun {k c} e => by
    rw [List.getElem?_append_left (List.getElem?_eq_some_iff.mp e).1]; exact e
  obtain ⟨a, h0, h1, h2, h3, h4⟩ := H
  exact ⟨a, g h0, g h1, g h2, fun j j1 j2 => g (h3 j j1 j2), h4.app⟩
def baseN (k : Nat) : Nat := if k = 0 then 0 else if k = 1 then 3 else if k = 2 then 5 else if k = 3 then 7 else 9
theorem aBASE_N (k : Nat) : aBASE k = jI (baseN k) := by
  unfold aBASE baseN
  split
  · rfl
  · split
    · rfl
    · split
      · rfl
      · split <;> rfl
def wdt (A : Nat → Nat → Int32) (w : Int32) (s : Nat) : Int32 := jmax 1 (((A 4 s - A 3 s) + 1) + 2 * w)
theorem jmax1_pos (x : Int32) : 1 ≤ (jmax 1 x).toInt := by
  unfold jmax
  split
  · rename_i q
    rw [Int32.lt_iff_toInt_lt] at q
    have : (1 : Int32).toInt = 1 := rfl
    omega
  · decide
theorem jmax1_ne (x : Int32) : jmax 1 x ≠ 0 := fun e => by
  have := jmax1_pos x
  rw [e] at this
  exact absurd this (by decide)
theorem jmax1_if {β : Type} (g : Int32 → β) (x : Int32) : (if x ≤ 0 then g 1 else g x) = g (jmax 1 x) := by
  have n0 : (0 : Int32).toInt = 0 := by decide
  have n1 : (1 : Int32).toInt = 1 := by decide
  by_cases q : x ≤ 0
  · have k : jmax 1 x = 1 := by
      unfold jmax
      rw [if_neg (fun z => by rw [Int32.lt_iff_toInt_lt] at z; rw [Int32.le_iff_toInt_le] at q; omega)]
    rw [if_pos q, k]
  · have k : jmax 1 x = x := by
      unfold jmax
      split
      · rfl
      · rename_i z
        apply Int32.toInt_inj.mp
        rw [Int32.lt_iff_toInt_lt] at z
        rw [Int32.le_iff_toInt_le] at q
        omega
    rw [if_neg q, k]
theorem wdt_ne (A : Nat → Nat → Int32) (w : Int32) (s : Nat) : wdt A w s ≠ 0 := jmax1_ne _
/-- the product of the widths, from the left -/
def prtGo (A : Nat → Nat → Int32) (w : Int32) : Nat → Nat → Int32 → Int32
  | _, 0, p => p
  | s, n + 1, p => prtGo A w (s + 1) n (p * wdt A w s)
/-- a number spread over slots, the last slot the fastest -/
def sprGo (A : Nat → Nat → Int32) (w : Int32) (b : Nat) : Nat → Int32 → (Nat → Int32) → (Nat → Int32)
  | 0, _, v => v
  | n + 1, x, v => sprGo A w b n (x / wdt A w (b + n)) (upd v (b + n) ((A 3 (b + n) - w) + (x - x / wdt A w (b + n) * wdt A w (b + n))))
section
variable {h : aH} {o v : Nat} {A : Nat → Nat → Int32} {N : Nat → Int64} {F : Nat → Nat} {vals : Nat → Int32}
theorem isM.lo (H : isM h o A N F) : gO h (.ref o) 2 2 = some (o + 3) := gO_of (by have := H.1; omega) H.2.1 rfl
theorem isM.hi (H : isM h o A N F) : gO h (.ref o) 2 3 = some (o + 4) := gO_of (by have := H.1; omega) H.2.1 rfl
theorem isM.mn (H : isM h o A N F) : gO h (.ref o) 2 0 = some (o + 1) := gO_of (by have := H.1; omega) H.2.1 rfl
theorem isM.fm (H : isM h o A N F) : gO h (.ref o) 2 16 = some (o + 12) := gO_of (by have := H.1; omega) H.2.1 rfl
theorem isM.kO {β : Type} {k : Option β} (H : isM h o A N F) : kO h o 2 k = k := kO_of (by have := H.1; omega) H.2.1
theorem isM.ldlo (H : isM h o A N F) {s : Nat} (hs : s < 9) : ldI .int h (.ref (o + 3)) (jI s) = some (A 3 s) := ldI_of (by have := H.1; omega) (H.2.2.2.2.1 3 (by decide) (by decide)) hs (by decide)
theorem isM.ldhi (H : isM h o A N F) {s : Nat} (hs : s < 9) : ldI .int h (.ref (o + 4)) (jI s) = some (A 4 s) := ldI_of (by have := H.1; omega) (H.2.2.2.2.1 4 (by decide) (by decide)) hs (by decide)
theorem isM.ldmn (H : isM h o A N F) {s : Nat} (hs : s < 5) : ldI .int h (.ref (o + 1)) (jI s) = some (A 1 s) := ldI_of (by have := H.1; omega) H.2.2.1 hs (by decide)
theorem width_at (H : isM h o A N F) {s : Nat} (hs : s < 9) (w : Int32) : s_X2_width o (jI s) w h = some (.inl (some (.int (wdt A w s))), h) := by
  unfold s_X2_width
  simp only [H.hi, H.lo, H.ldhi hs, H.ldlo hs, Option.bind_some, wdt]
  exact jmax1_if (fun z => (some (.inl (some (.int z)), h) : aO)) _
theorem parts_go (H : isM h o A N F) {k c : Nat} (hk : k < 5) (hc : A 1 k = jI c) (hb : baseN k + c ≤ 9) (w : Int32) :
    ∀ (n i f : Nat) (p : Int32), i + n = c → n < f → s_X2_parts_5 f o (jI k) w p (jI i) h = some (.inl (some (.int (prtGo A w (baseN k + i) n p))), h)
  | _, _, 0, _, _, hf => by omega
  | 0, i, f + 1, p, hi, hf => by
    show s_X2_parts_5_b (s_X2_parts_5 f) o (jI k) w p (jI i) h = _
    unfold s_X2_parts_5_b
    simp only [H.mn, H.ldmn hk, Option.bind_some, hc]
    rw [if_pos ((jI_le (by omega) (by omega)).mpr (by omega))]
    rfl
  | n + 1, i, f + 1, p, hi, hf => by
    show s_X2_parts_5_b (s_X2_parts_5 f) o (jI k) w p (jI i) h = _
    unfold s_X2_parts_5_b
    simp only [H.mn, H.ldmn hk, Option.bind_some, hc]
    rw [if_neg (fun q => by have := (jI_le (by omega) (by omega)).mp q; omega)]
    simp only [BASE_of hk, aBASE_N, Option.bind_some, jI_add, H.kO, width_at H (show baseN k + i < 9 by omega) w, cI, jI_inc]
    rw [parts_go H hk hc hb w n (i + 1) f _ (by omega) (by omega)]
    rfl
theorem parts_at (H : isM h o A N F) {k c : Nat} (hk : k < 5) (hc : A 1 k = jI c) (hb : baseN k + c ≤ 9) (w : Int32) : s_X2_parts o (jI k) w h = some (.inl (some (.int (prtGo A w (baseN k) c 1))), h) :=
  parts_go H hk hc hb w c 0 FU 1 (by omega) (by show c < 1000000; omega)
theorem spread_go {k : Nat} (hk : k < 5) (hv : v < aE) (hov : v < o ∨ o + 19 < v) (w : Int32) :
    ∀ (n f : Nat) (x : Int32) (h : aH) (vals : Nat → Int32), isM h o A N F → h[v]? = some (.inl (.int, 9, .inl vals)) → baseN k + n ≤ 9 → n < f →
      s_X2_spread_19 f o (jI k) w v x (jI (baseN k + n) - 1) h = some (.inl none, h.set v (.inl (.int, 9, .inl (sprGo A w (baseN k) n x vals))))
  | _, 0, _, _, _, _, _, _, hf => by omega
  | 0, f + 1, x, h, vals, H, hvc, hb, hf => by
    show s_X2_spread_19_b (s_X2_spread_19 f) o (jI k) w v x (jI (baseN k + 0) - 1) h = _
    unfold s_X2_spread_19_b
    simp only [BASE_of hk, aBASE_N, Option.bind_some]
    have hlt : jI (baseN k + 0) - 1 < jI (baseN k) := by
      rw [Nat.add_zero]
      by_cases q : baseN k = 0
      · rw [q]; decide
      · rw [jI_dec (by omega), jI_lt (by omega) (by omega)]; omega
    rw [if_pos hlt]
    simp only [sprGo]
    rw [set_same hvc]
  | n + 1, f + 1, x, h, vals, H, hvc, hb, hf => by
    show s_X2_spread_19_b (s_X2_spread_19 f) o (jI k) w v x (jI (baseN k + (n + 1)) - 1) h = _
    unfold s_X2_spread_19_b
    rw [jI_dec (by omega), show baseN k + (n + 1) - 1 = baseN k + n by omega]
    simp only [BASE_of hk, aBASE_N, Option.bind_some]
    rw [if_neg (fun q => by have := (jI_lt (by omega) (by omega)).mp q; omega)]
    simp only [H.kO, width_at H (show baseN k + n < 9 by omega) w, cI, H.lo, H.ldlo (show baseN k + n < 9 by omega), Option.bind_some, nz_of (wdt_ne _ _ _), stI_of hv hvc (show baseN k + n < 9 by omega) (by decide)]
    have ih := spread_go hk hv hov w n f (x / wdt A w (baseN k + n)) _ _ (H.set (c := .inl (.int, 9, .inl (upd vals (baseN k + n) ((A 3 (baseN k + n) - w) + (x - x / wdt A w (baseN k + n) * wdt A w (baseN k + n)))))) hov) (set_eq hvc) (by omega) (by omega)
    rw [show jI (baseN k + n) + (-1) = jI (baseN k + n) - 1 from (Int32.sub_eq_add_neg _ _).symm, ih, set_set]
    rfl
theorem spread_at (H : isM h o A N F) {k c : Nat} (hk : k < 5) (hc : A 1 k = jI c) (hb : baseN k + c ≤ 9) (hv : v < aE) (hov : v < o ∨ o + 19 < v) (hvc : h[v]? = some (.inl (.int, 9, .inl vals))) (x w : Int32) :
    s_X2_spread o (jI k) x w v h = some (.inl none, h.set v (.inl (.int, 9, .inl (sprGo A w (baseN k) c x vals)))) := by
  unfold s_X2_spread
  simp only [BASE_of hk, aBASE_N, Option.bind_some, H.mn, H.ldmn hk, hc, jI_add]
  exact spread_go hk hv hov w c FU x h vals H hvc hb (by show c < 1000000; omega)
end
