/-! rows filled, rows made longer; measure, isEdge, failing -/
def filF (f : Nat → Int32) (a b : Nat) (x : Int32) : Nat → Int32 := fun j => if a ≤ j ∧ j < b then x else f j
theorem filF_z (f : Nat → Int32) (a : Nat) (x : Int32) : filF f a a x = f := by
  funext j
  unfold filF
  rw [if_neg (by omega)]
theorem filF_s (f : Nat → Int32) (a b : Nat) (x : Int32) (hab : a < b) : filF (upd f a x) (a + 1) b x = filF f a b x := by
  funext j
  unfold filF upd
  by_cases q : j = a
  · rw [if_neg (by omega), if_pos q, if_pos (by omega)]
  · by_cases q2 : a ≤ j ∧ j < b
    · rw [if_pos (by omega), if_pos q2]
    · rw [if_neg (by omega), if_neg q, if_neg q2]
def filJ (f : Nat → Int64) (a b : Nat) (x : Int64) : Nat → Int64 := fun j => if a ≤ j ∧ j < b then x else f j
theorem filJ_z (f : Nat → Int64) (a : Nat) (x : Int64) : filJ f a a x = f := by
  funext j
  unfold filJ
  rw [if_neg (by omega)]
theorem filJ_s (f : Nat → Int64) (a b : Nat) (x : Int64) (hab : a < b) : filJ (vp_updL f a x) (a + 1) b x = filJ f a b x := by
  funext j
  unfold filJ vp_updL
  by_cases q : j = a
  · rw [if_neg (by omega), if_pos q, if_pos (by omega)]
  · by_cases q2 : a ≤ j ∧ j < b
    · rw [if_pos (by omega), if_pos q2]
    · rw [if_neg (by omega), if_neg q, if_neg q2]
theorem fill_go {a n b : Nat} {x : Int32} (ha : a < aE) (hb : b ≤ n) (hn : n ≤ 2147483647) : ∀ (k i f : Nat) (h : aH) (g : Nat → Int32), i + k = b → k < f → h[a]? = some (.inl (.int, n, .inl g)) →
    s_J7_fill_53178_5 f a x (jI i) (jI b) h = some (.inl none, h.set a (.inl (.int, n, .inl (filF g i b x))))
  | _, _, 0, _, _, _, hf, _ => by omega
  | 0, i, f + 1, h, g, hi, hf, hc => by
    show s_J7_fill_53178_5_b (s_J7_fill_53178_5 f) a x (jI i) (jI b) h = _
    unfold s_J7_fill_53178_5_b
    rw [if_pos ((jI_le (by omega) (by omega)).mpr (by omega)), show i = b by omega, filF_z, set_same hc]
  | k + 1, i, f + 1, h, g, hi, hf, hc => by
    show s_J7_fill_53178_5_b (s_J7_fill_53178_5 f) a x (jI i) (jI b) h = _
    unfold s_J7_fill_53178_5_b
    rw [if_neg (fun q => by have := (jI_le (by omega) (by omega)).mp q; omega), stI_of ha hc (by omega) (by omega)]
    simp only [Option.bind_some, jI_inc]
    rw [fill_go ha hb hn k (i + 1) f _ _ (by omega) (by omega) (set_eq hc), set_set, filF_s _ _ _ _ (by omega)]
theorem fill_at {h : aH} {a n : Nat} {x : Int32} {g : Nat → Int32} (ha : a < aE) (hn : n < 1000000) (hc : h[a]? = some (.inl (.int, n, .inl g))) : s_J7_fill_53178 a x h = some (.inl none, h.set a (.inl (.int, n, .inl (filF g 0 n x)))) := by
  unfold s_J7_fill_53178
  have e : lnA h (.ref a) = some (jI n) := by simp [lnA, aG, ha, hc, jI]
  rw [e]
  exact fill_go ha (Nat.le_refl n) (by omega) n 0 FU h g (by omega) hn hc
theorem fillJ_go {a n b : Nat} {x : Int64} (ha : a < aE) (hb : b ≤ n) (hn : n ≤ 2147483647) : ∀ (k i f : Nat) (h : aH) (g : Nat → Int64), i + k = b → k < f → h[a]? = some (.inl (.long, n, .inr (.inl g))) →
    s_J7_fill_d0a16_6 f a x (jI i) (jI b) h = some (.inl none, h.set a (.inl (.long, n, .inr (.inl (filJ g i b x)))))
  | _, _, 0, _, _, _, hf, _ => by omega
  | 0, i, f + 1, h, g, hi, hf, hc => by
    show s_J7_fill_d0a16_6_b (s_J7_fill_d0a16_6 f) a x (jI i) (jI b) h = _
    unfold s_J7_fill_d0a16_6_b
    rw [if_pos ((jI_le (by omega) (by omega)).mpr (by omega)), show i = b by omega, filJ_z, set_same hc]
  | k + 1, i, f + 1, h, g, hi, hf, hc => by
    show s_J7_fill_d0a16_6_b (s_J7_fill_d0a16_6 f) a x (jI i) (jI b) h = _
    unfold s_J7_fill_d0a16_6_b
    rw [if_neg (fun q => by have := (jI_le (by omega) (by omega)).mp q; omega), stJ_of ha hc (by omega) (by omega)]
    simp only [Option.bind_some, jI_inc]
    rw [fillJ_go ha hb hn k (i + 1) f _ _ (by omega) (by omega) (set_eq hc), set_set, filJ_s _ _ _ _ (by omega)]
theorem fillJ_at {h : aH} {a n : Nat} {x : Int64} {g : Nat → Int64} (ha : a < aE) (hn : n < 1000000) (hc : h[a]? = some (.inl (.long, n, .inr (.inl g)))) : s_J7_fill_d0a16 a x h = some (.inl none, h.set a (.inl (.long, n, .inr (.inl (filJ g 0 n x))))) := by
  unfold s_J7_fill_d0a16
  have e : lnA h (.ref a) = some (jI n) := by simp [lnA, aG, ha, hc, jI]
  rw [e]
  exact fillJ_go ha (Nat.le_refl n) (by omega) n 0 FU h g (by omega) hn hc
/-! the product of the widths, as a natural number -/
def wdN (A : Nat → Nat → Int32) (w : Int32) (s : Nat) : Nat := (wdt A w s).toNatClampNeg
theorem wdt_N (A : Nat → Nat → Int32) (w : Int32) (s : Nat) : wdt A w s = jI (wdN A w s) := jI_of (fun q => by
  have := jmax1_pos (((A 4 s - A 3 s) + 1) + 2 * w)
  rw [Int32.lt_iff_toInt_lt] at q
  have h0 : (0 : Int32).toInt = 0 := rfl
  unfold wdt at q
  omega)
theorem wdN_pos (A : Nat → Nat → Int32) (w : Int32) (s : Nat) : 0 < wdN A w s := by
  have h1 := jmax1_pos (((A 4 s - A 3 s) + 1) + 2 * w)
  have h2 : wdN A w s = (jmax 1 (((A 4 s - A 3 s) + 1) + 2 * w)).toInt.toNat := rfl
  omega
def prtN (A : Nat → Nat → Int32) (w : Int32) : Nat → Nat → Nat
  | _, 0 => 1
  | s, n + 1 => wdN A w s * prtN A w (s + 1) n
theorem prt_N (A : Nat → Nat → Int32) (w : Int32) : ∀ (n s p : Nat), prtGo A w s n (jI p) = jI (p * prtN A w s n)
  | 0, s, p => by simp [prtGo, prtN]
  | n + 1, s, p => by
    show prtGo A w (s + 1) n (jI p * wdt A w s) = _
    rw [wdt_N, jI_mul, prt_N A w n (s + 1) (p * wdN A w s), Nat.mul_assoc]
    rfl
theorem prtN_pos (A : Nat → Nat → Int32) (w : Int32) : ∀ (n s : Nat), 0 < prtN A w s n
  | 0, _ => Nat.one_pos
  | n + 1, s => Nat.mul_pos (wdN_pos A w s) (prtN_pos A w n (s + 1))
theorem partsN_at {h : aH} {o : Nat} {A : Nat → Nat → Int32} {N : Nat → Int64} {F : Nat → Nat} (H : isM h o A N F) {k c : Nat} (hk : k < 5) (hc : A 1 k = jI c) (hb : baseN k + c ≤ 9) (w : Int32) : s_X2_parts o (jI k) w h = some (.inl (some (.int (jI (prtN A w (baseN k) c)))), h) := by
  rw [parts_at H hk hc hb w, show (1 : Int32) = jI 1 from rfl, prt_N, Nat.one_mul]
/-- longEnough -/
theorem long_at {h : aH} {a n k : Nat} {g : Nat → Int32} (ha : a < aE) (hl : h.length < aE) (hn : n ≤ 10000000) (hk : k ≤ 10000000) (hc : h[a]? = some (.inl (.int, n, .inl g))) :
    s_X11_longEnough a (jI k) h = if n < k then some (.inl (some (.ref h.length)), h ++ [.inl (.int, max k (2 * n), .inl fun _ => 0)], 1, max k (2 * n)) else some (.inl (some (.ref a)), h, 0, 0) := by
  unfold s_X11_longEnough
  have e : lnA h (.ref a) = some (jI n) := by simp [lnA, aG, ha, hc, jI]
  simp only [e, Option.bind_some]
  by_cases q : n < k
  · rw [if_pos ((jI_lt (by omega) (by omega)).mpr q), if_pos q]
    have e2 : (2 : Int32) * jI n = jI (2 * n) := by rw [show (2 : Int32) = jI 2 from rfl, jI_mul]
    have e3 : jmax (jI k) (2 * jI n) = jI (max k (2 * n)) := by
      rw [e2]
      unfold jmax
      by_cases q2 : k < 2 * n
      · rw [if_pos ((jI_lt (by omega) (by omega)).mpr q2), Nat.max_eq_right (by omega)]
      · rw [if_neg (fun z => q2 ((jI_lt (by omega) (by omega)).mp z)), Nat.max_eq_left (by omega)]
    have e4 : nwA .int h (jI (max k (2 * n))) = some (h.length, h ++ [.inl (.int, max k (2 * n), .inl fun _ => 0)]) := by
      unfold nwA
      rw [if_pos ⟨jI_neg (by omega), hl, by rw [jI_cl (by omega)]; show max k (2 * n) * 4 ≤ 536870912; omega⟩, jI_cl (by omega)]
      rfl
    simp only [e3, e4, bP, wC, ck]
    rw [jI_cl (by omega)]
    simp
  · rw [if_neg (fun z => q ((jI_lt (by omega) (by omega)).mp z)), if_neg q]
    rfl
