/-! wider worlds -/
def spX (A : Nat → Nat → Int32) (m : Nat → Nat) (np w c p x : Int32) (v : Nat → Int32) : Nat → Int32 := spW A m np w x (sprGo A 0 3 (m 1) p (sprGo A 0 0 (m 0) c v))
def ldW (A : Nat → Nat → Int32) (m F : Nat → Nat) (w c p x : Nat) : Int32 := leadV A m F (spX A m (jI (F 15)) (jI w) (jI c) (jI p) (jI x) zV)
def nWd (A : Nat → Nat → Int32) (m F : Nat → Nat) (w : Nat) : Nat := prtN A (jI w) 5 (m 2) * F 15
theorem ldW_0 (A : Nat → Nat → Int32) (m F : Nat → Nat) : ldW A m F 0 = ldV A m F := rfl
theorem nWd_0 {A : Nat → Nat → Int32} {m F : Nat → Nat} (C : okC A m F) : nWd A m F 0 = F 14 := C.2.2.2.1.symm
theorem ldW_is {A : Nat → Nat → Int32} {m F : Nat → Nat} (K : okW A m F) (C : okC A m F) (w c p x : Nat) : isLd (ldW A m F w c p x) (F 12) := leadV_is K C _
theorem wdN_Rw {A : Nat → Nat → Int32} {s w : Nat} (h : okR A s) (hw : w ≤ 2) : (wdN A (jI w) s : Int) = (A 4 s).toInt - (A 3 s).toInt + 1 + 2 * w ∧ wdN A (jI w) s ≤ 45 ∧ ((A 4 s - A 3 s) + 1) + 2 * jI w = wdt A (jI w) s := by
  obtain ⟨h1, h2, h3⟩ := h
  have e0 : (2 : Int32) * jI w = jI (2 * w) := by rw [show (2 : Int32) = jI 2 from rfl, jI_mul]
  have e00 : (jI (2 * w)).toInt = 2 * w := by rw [jI_int (by omega)]; omega
  have e1 := (toInt_small (x := A 4 s) (y := A 3 s) (by omega) (by omega)).1
  have e2 : (A 4 s - A 3 s + 1).toInt = (A 4 s).toInt - (A 3 s).toInt + 1 := by
    rw [(toInt_small (x := A 4 s - A 3 s) (y := 1) (by omega) (by decide)).2, e1]
    rfl
  have e3 : (A 4 s - A 3 s + 1 + jI (2 * w)).toInt = (A 4 s).toInt - (A 3 s).toInt + 1 + 2 * w := by
    rw [(toInt_small (x := A 4 s - A 3 s + 1) (y := jI (2 * w)) (by omega) (by omega)).2, e2, e00]
  have e4 : wdt A (jI w) s = A 4 s - A 3 s + 1 + jI (2 * w) := by
    unfold wdt
    rw [e0]
    unfold jmax
    by_cases q : (1 : Int32) < A 4 s - A 3 s + 1 + jI (2 * w)
    · rw [if_pos q]
    · rw [if_neg q]
      rw [Int32.lt_iff_toInt_lt, e3] at q
      have h1 : (1 : Int32).toInt = 1 := rfl
      apply Int32.toInt_inj.mp
      omega
  have e5 : wdN A (jI w) s = (wdt A (jI w) s).toInt.toNat := rfl
  rw [e4, e3] at e5
  exact ⟨by omega, by omega, by rw [e0, e4]⟩
theorem spr_stepw (A : Nat → Nat → Int32) (w : Int32) (b n x : Nat) (v : Nat → Int32) (hx : x < 2147483648) : sprGo A w b (n + 1) (jI x) v = sprGo A w b n (jI (x / wdN A w (b + n))) (upd v (b + n) ((A 3 (b + n) - w) + jI (x % wdN A w (b + n)))) := by
  show sprGo A w b n (jI x / wdt A w (b + n)) (upd v (b + n) ((A 3 (b + n) - w) + (jI x - jI x / wdt A w (b + n) * wdt A w (b + n)))) = _
  rw [wdt_N, jI_mod hx (wdN_pos _ _ _) (wdN_lt _ _ _), jI_div hx (wdN_pos _ _ _) (wdN_lt _ _ _)]
theorem sm_dig {A : Nat → Nat → Int32} {s w d : Nat} (h : okR A s) (hw : w ≤ 2) (hd : d ≤ 45) : sm 100 ((A 3 s - jI w) + jI d) := by
  obtain ⟨h1, h2, h3⟩ := h
  have e1 := (toInt_small (x := A 3 s) (y := jI w) (by omega) (by rw [jI_int (by omega)]; omega)).1
  rw [jI_int (by omega)] at e1
  unfold sm
  rw [(toInt_small (x := A 3 s - jI w) (y := jI d) (by omega) (by rw [jI_int (by omega)]; omega)).2, e1, jI_int (by omega)]
  omega
theorem spr_smw {A : Nat → Nat → Int32} {b w : Nat} (hw : w ≤ 2) : ∀ (n x : Nat) (v : Nat → Int32) (s : Nat), x < 2147483648 → b ≤ s → s < b + n → okR A s → sm 100 (sprGo A (jI w) b n (jI x) v s)
  | 0, _, _, _, _, _, _, _ => by omega
  | n + 1, x, v, s, hx, h1, h2, hr => by
    have h3 : x / wdN A (jI w) (b + n) ≤ x := Nat.div_le_self _ _
    rw [spr_stepw A (jI w) b n x v hx]
    by_cases q : s = b + n
    · rw [spr_out A (jI w) b n _ _ s (by omega), q, upd_eq]
      rw [q] at hr
      have w2 : x % wdN A (jI w) (b + n) < wdN A (jI w) (b + n) := Nat.mod_lt _ (wdN_pos _ _ _)
      have w1 := (wdN_Rw hr hw).2.1
      exact sm_dig hr hw (by omega)
    · exact spr_smw hw n _ _ s (by omega) h1 (by omega) hr
theorem spX_sm {A : Nat → Nat → Int32} {m : Nat → Nat} (K : okm m) (hR : ∀ s, decl m s → okR A s) {P w c p x : Nat} (hw2 : w ≤ 2) (hP : 0 < P) (hP2 : P < 2147483648) (hc : c < 2147483648) (hp : p < 2147483648) (hx : x < 2147483648) (v : Nat → Int32) : okVs m (spX A m (jI P) (jI w) (jI c) (jI p) (jI x) v) := by
  intro s hs
  have hr := hR s hs
  obtain ⟨h0, h1, h2, h3, -⟩ := K
  have hd : x / P ≤ x := Nat.div_le_self _ _
  have hm : x % P ≤ x := Nat.mod_le _ _
  unfold spX spW
  rw [jmax1_N hP hP2, jI_mod hx hP hP2, jI_div hx hP hP2]
  by_cases q3 : 7 ≤ s ∧ s < 7 + m 3
  · exact spr_sm _ _ _ s (by omega) q3.1 q3.2 hr
  · rw [spr_out A 0 7 _ _ _ s (by omega)]
    by_cases q2 : 5 ≤ s ∧ s < 5 + m 2
    · exact spr_smw hw2 _ _ _ s (by omega) q2.1 q2.2 hr
    · rw [spr_out A _ 5 _ _ _ s (by omega)]
      by_cases q1 : 3 ≤ s ∧ s < 3 + m 1
      · exact spr_sm _ _ _ s (by omega) q1.1 q1.2 hr
      · rw [spr_out A 0 3 _ _ _ s (by omega)]
        have q0 : s < m 0 := by
          rcases hs with h | h | h | h
          · exact h
          · exact absurd h q1
          · exact absurd h q2
          · exact absurd h q3
        exact spr_sm _ _ _ s hc (Nat.zero_le _) (by omega) hr
/-- the two widths, as the reference takes them -/
def oneN (A : Nat → Nat → Int32) (m : Nat → Nat) (w : Nat) : Nat := if m 2 = 0 then 1 else wdN A (jI w) 5
def twoN (A : Nat → Nat → Int32) (m : Nat → Nat) (w : Nat) : Nat := if m 2 ≤ 1 then 1 else wdN A (jI w) 6
theorem oneTwo {A : Nat → Nat → Int32} {m : Nat → Nat} (K : okm m) (w : Nat) : oneN A m w * twoN A m w = prtN A (jI w) 5 (m 2) := by
  have h2 := K.2.2.1
  unfold oneN twoN
  match q : m 2, h2 with
  | 0, _ => rfl
  | 1, _ => rfl
  | 2, _ =>
    show wdN A (jI w) 5 * wdN A (jI w) 6 = wdN A (jI w) 5 * (wdN A (jI w) 6 * 1)
    rw [Nat.mul_one]
theorem twoN_pos (A : Nat → Nat → Int32) (m : Nat → Nat) (w : Nat) : 0 < twoN A m w ∧ 0 < oneN A m w := by
  unfold twoN oneN
  constructor
  · split
    · decide
    · exact wdN_pos _ _ _
  · split
    · decide
    · exact wdN_pos _ _ _
theorem wide_le {A : Nat → Nat → Int32} {m : Nat → Nat} (K : okm m) (hR : ∀ s, decl m s → okR A s) {w : Nat} (hw : w ≤ 2) : oneN A m w ≤ 45 ∧ twoN A m w ≤ 45 := by
  have h2 := K.2.2.1
  unfold oneN twoN
  constructor
  · split
    · decide
    · exact (wdN_Rw (hR 5 (Or.inr (Or.inr (Or.inl ⟨by omega, by omega⟩)))) hw).2.1
  · split
    · decide
    · exact (wdN_Rw (hR 6 (Or.inr (Or.inr (Or.inl ⟨by omega, by omega⟩)))) hw).2.1
/-- what the reference writes at the two slots of worlds -/
theorem wide_agree {A : Nat → Nat → Int32} {m : Nat → Nat} (K : okm m) {P w x : Nat} (hP : 0 < P) (hP2 : P < 2147483648) (hx : x < 2147483648) (hy : x / P < oneN A m w * twoN A m w) (c p l5 l6 : Int32) (h5 : 0 < m 2 → l5 = A 3 5) (h6 : 1 < m 2 → l6 = A 3 6) (v v' : Nat → Int32) :
    agree m (upd (upd (sprGo A 0 7 (m 3) (jI (x % P)) (sprGo A 0 3 (m 1) p (sprGo A 0 0 (m 0) c v))) 5 ((l5 - jI w) + jI (x / P / twoN A m w))) 6 ((l6 - jI w) + jI (x / P % twoN A m w))) (spX A m (jI P) (jI w) c p (jI x) v') := by
  obtain ⟨h0, h1, h2, h3, -⟩ := K
  have hd : x / P ≤ x := Nat.div_le_self _ _
  intro s hs
  unfold spX spW
  rw [jmax1_N hP hP2, jI_mod hx hP hP2, jI_div hx hP hP2]
  by_cases q3 : 7 ≤ s ∧ s < 7 + m 3
  · rw [upd_ne (by omega), upd_ne (by omega)]
    exact spr_in A 0 7 _ _ _ _ s q3.1 q3.2
  · rw [spr_out A 0 7 _ _ _ s (by omega)]
    by_cases q2 : 5 ≤ s ∧ s < 5 + m 2
    · match q : m 2, h2 with
      | 0, _ => omega
      | 1, _ =>
        have hs5 : s = 5 := by omega
        have t1 : twoN A m w = 1 := by unfold twoN; rw [if_pos (by omega)]
        have o1 : oneN A m w = wdN A (jI w) 5 := by unfold oneN; rw [if_neg (by omega)]
        rw [t1, o1] at hy
        rw [t1, hs5, upd_ne (by decide), upd_eq, spr_stepw A (jI w) 5 0 _ _ (by omega)]
        show _ = upd _ (5 + 0) ((A 3 (5 + 0) - jI w) + jI (x / P % wdN A (jI w) (5 + 0))) 5
        rw [upd_eq, h5 (by omega), Nat.div_one, Nat.mod_eq_of_lt (show x / P < wdN A (jI w) 5 by omega)]
      | 2, _ =>
        have t1 : twoN A m w = wdN A (jI w) 6 := by unfold twoN; rw [if_neg (by omega)]
        have o1 : oneN A m w = wdN A (jI w) 5 := by unfold oneN; rw [if_neg (by omega)]
        rw [t1, o1] at hy
        have hy2 : x / P / wdN A (jI w) 6 < wdN A (jI w) 5 := Nat.div_lt_of_lt_mul (by rw [Nat.mul_comm]; exact hy)
        have hd2 : x / P / wdN A (jI w) 6 ≤ x / P := Nat.div_le_self _ _
        rw [spr_stepw A (jI w) 5 1 _ _ (by omega), spr_stepw A (jI w) 5 0 _ _ (by show x / P / wdN A (jI w) 6 < _; omega), t1]
        show _ = upd (upd _ (5 + 1) ((A 3 (5 + 1) - jI w) + jI (x / P % wdN A (jI w) (5 + 1)))) (5 + 0) ((A 3 (5 + 0) - jI w) + jI (x / P / wdN A (jI w) (5 + 1) % wdN A (jI w) (5 + 0))) s
        by_cases q5 : s = 5
        · subst q5
          rw [upd_ne (by decide), upd_eq, upd_eq, h5 (by omega)]
          show _ = A 3 5 - jI w + jI (x / P / wdN A (jI w) 6 % wdN A (jI w) 5)
          rw [Nat.mod_eq_of_lt hy2]
        · have q6 : s = 6 := by omega
          subst q6
          rw [upd_eq, upd_ne (by decide), upd_eq, h6 (by omega)]
    · have hne : s ≠ 5 ∧ s ≠ 6 ∨ (s = 5 ∨ s = 6) := by omega
      have hs' : s < m 0 ∨ (3 ≤ s ∧ s < 3 + m 1) := by
        rcases hs with h | h | h | h
        · exact Or.inl h
        · exact Or.inr h
        · exact absurd h q2
        · exact absurd h q3
      rw [upd_ne (by omega), upd_ne (by omega), spr_out A 0 7 _ _ _ s (by omega), spr_out A _ 5 _ _ _ s (by omega)]
      by_cases q1 : 3 ≤ s ∧ s < 3 + m 1
      · exact spr_in A 0 3 _ _ _ _ s q1.1 q1.2
      · rw [spr_out A 0 3 _ _ _ s (by omega), spr_out A 0 3 _ _ _ s (by omega)]
        exact spr_in A 0 0 _ _ _ _ s (Nat.zero_le _) (by omega)
