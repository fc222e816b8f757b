/-! texts: tokens, meant; the class's tokens -/
def isLt (c : Nat) : Bool := decide (97 ≤ c) && decide (c ≤ 122)
def isDg (c : Nat) : Bool := decide (48 ≤ c) && decide (c ≤ 57)
def isSg (c : Nat) : Bool := decide (c = 60 ∨ c = 62 ∨ c = 61 ∨ c = 43 ∨ c = 45 ∨ c = 42 ∨ c = 59)
/-- how many behind i, at most r, are such -/
def spN (p : Nat → Bool) (T : Nat → Nat) : Nat → Nat → Nat
  | _, 0 => 0
  | i, r + 1 => if p (T i) = true then spN p T (i + 1) r + 1 else 0
theorem spN_le {p : Nat → Bool} {T : Nat → Nat} : ∀ (r i : Nat), spN p T i r ≤ r
  | 0, _ => Nat.le_refl _
  | r + 1, i => by
    show (if p (T i) = true then spN p T (i + 1) r + 1 else 0) ≤ r + 1
    have := spN_le (p := p) (T := T) r (i + 1)
    split <;> omega
theorem spN_all {p : Nat → Bool} {T : Nat → Nat} : ∀ (r i j : Nat), j < spN p T i r → p (T (i + j)) = true
  | 0, _, j, h => absurd h (Nat.not_lt_zero j)
  | r + 1, i, j, h => by
    have e : spN p T i (r + 1) = if p (T i) = true then spN p T (i + 1) r + 1 else 0 := rfl
    rw [e] at h
    by_cases q : p (T i) = true
    · rw [if_pos q] at h
      match j, h with
      | 0, _ => exact q
      | j + 1, h =>
        have := spN_all (p := p) (T := T) r (i + 1) j (by omega)
        rw [show i + (j + 1) = i + 1 + j by omega]
        exact this
    · rw [if_neg q] at h
      exact absurd h (Nat.not_lt_zero j)
/-- kind (0 end, 1 word, 2 whole, 3 bad, else the sign), place, length -/
def lexR (T : Nat → Nat) : Nat → Nat → Nat × Nat × Nat
  | i, 0 => (0, i, 0)
  | i, r + 1 => if T i = 32 then lexR T (i + 1) r else if isLt (T i) = true then (if spN isLt T i (r + 1) ≤ 8 then 1 else 3, i, spN isLt T i (r + 1)) else if isDg (T i) = true then (if spN isDg T i (r + 1) ≤ 3 then 2 else 3, i, spN isDg T i (r + 1)) else (if isSg (T i) = true then T i else 3, i, 1)
def tkE (x : Nat × Nat × Nat) : Nat := x.2.1 + x.2.2
def tokS (T : Nat → Nat) (n : Nat) : Nat → Nat × Nat × Nat
  | 0 => lexR T 0 n
  | k + 1 => lexR T (tkE (tokS T n k)) (n - tkE (tokS T n k))
/-- the place of the k-th token's reading -/
def tkP (T : Nat → Nat) (n : Nat) : Nat → Nat
  | 0 => 0
  | k + 1 => tkE (tokS T n k)
theorem tokS_P (T : Nat → Nat) (n k : Nat) : tokS T n k = lexR T (tkP T n k) (n - tkP T n k) := by
  cases k <;> rfl
theorem lexR_rng (T : Nat → Nat) : ∀ (r i : Nat), i ≤ (lexR T i r).2.1 ∧ tkE (lexR T i r) ≤ i + r ∧ ((lexR T i r).1 = 0 → (lexR T i r).2.1 = i + r) ∧ ((lexR T i r).1 ≠ 0 → (lexR T i r).2.1 < i + r ∧ 0 < (lexR T i r).2.2)
  | 0, i => ⟨Nat.le_refl _, Nat.le_refl _, fun _ => rfl, fun h => absurd rfl h⟩
  | r + 1, i => by
    have e : lexR T i (r + 1) = if T i = 32 then lexR T (i + 1) r else if isLt (T i) = true then (if spN isLt T i (r + 1) ≤ 8 then 1 else 3, i, spN isLt T i (r + 1)) else if isDg (T i) = true then (if spN isDg T i (r + 1) ≤ 3 then 2 else 3, i, spN isDg T i (r + 1)) else (if isSg (T i) = true then T i else 3, i, 1) := rfl
    rw [e]
    by_cases q : T i = 32
    · rw [if_pos q]
      obtain ⟨h1, h2, h3, h4⟩ := lexR_rng T r (i + 1)
      exact ⟨by omega, by omega, fun h => by have := h3 h; omega, fun h => by have := h4 h; omega⟩
    · rw [if_neg q]
      have w := spN_le (p := isLt) (T := T) (r + 1) i
      have w2 := spN_le (p := isDg) (T := T) (r + 1) i
      by_cases q1 : isLt (T i) = true
      · rw [if_pos q1]
        have p : 0 < spN isLt T i (r + 1) := by
          show 0 < if isLt (T i) = true then _ else _
          rw [if_pos q1]; omega
        unfold tkE
        refine ⟨Nat.le_refl _, by dsimp only; omega, fun h => ?_, fun _ => ⟨by dsimp only; omega, p⟩⟩
        dsimp only at h
        split at h <;> cases h
      · rw [if_neg q1]
        by_cases q2 : isDg (T i) = true
        · rw [if_pos q2]
          have p : 0 < spN isDg T i (r + 1) := by
            show 0 < if isDg (T i) = true then _ else _
            rw [if_pos q2]; omega
          unfold tkE
          refine ⟨Nat.le_refl _, by dsimp only; omega, fun h => ?_, fun _ => ⟨by dsimp only; omega, p⟩⟩
          dsimp only at h
          split at h <;> cases h
        · rw [if_neg q2]
          unfold tkE
          refine ⟨Nat.le_refl _, by dsimp only; omega, fun h => ?_, fun _ => ⟨by dsimp only; omega, by dsimp only; omega⟩⟩
          dsimp only at h
          by_cases q3 : isSg (T i) = true
          · rw [if_pos q3] at h
            have := of_decide_eq_true q3
            omega
          · rw [if_neg q3] at h; cases h
theorem tkP_le (T : Nat → Nat) (n : Nat) : ∀ k, tkP T n k ≤ n
  | 0 => Nat.zero_le n
  | k + 1 => by
    have h := tkP_le T n k
    have := (lexR_rng T (n - tkP T n k) (tkP T n k)).2.1
    rw [← tokS_P] at this
    show tkE (tokS T n k) ≤ n
    omega
theorem tokS_rng (T : Nat → Nat) (n k : Nat) : tkP T n k ≤ (tokS T n k).2.1 ∧ tkE (tokS T n k) ≤ n ∧ ((tokS T n k).1 = 0 → (tokS T n k).2.1 = n) ∧ ((tokS T n k).1 ≠ 0 → (tokS T n k).2.1 < n ∧ 0 < (tokS T n k).2.2 ∧ tkP T n k + 1 ≤ tkP T n (k + 1)) := by
  have h := tkP_le T n k
  obtain ⟨h1, h2, h3, h4⟩ := lexR_rng T (n - tkP T n k) (tkP T n k)
  rw [← tokS_P] at h1 h2 h3 h4
  refine ⟨h1, by omega, fun q => by have := h3 q; omega, fun q => ?_⟩
  have := h4 q
  refine ⟨by omega, this.2, ?_⟩
  show tkP T n k + 1 ≤ tkE (tokS T n k)
  unfold tkE
  omega
/-- the meanings that the class finds -/
def wdI (T : Nat → Nat) : Nat → Nat → Int64 → Int64
  | _, 0, acc => acc
  | i, k + 1, acc => wdI T (i + 1) k ((((acc * 27) + (jI (T i)).toInt64) - 97) + 1)
def whI (T : Nat → Nat) : Nat → Nat → Int64 → Int64
  | _, 0, acc => acc
  | i, k + 1, acc => whI T (i + 1) k (((acc * 10) + (jI (T i)).toInt64) - 48)
def mnI (T : Nat → Nat) (x : Nat × Nat × Nat) : Int64 := if x.2.2 = 0 then 0 else if isLt (T x.2.1) = true then wdI T x.2.1 x.2.2 0 else if isDg (T x.2.1) = true then whI T x.2.1 x.2.2 0 else 0
/-- the class's tokens -/
def TW (h : aH) (cnt : Nat) (K P : Nat → Int32) (M : Nat → Int64) : Prop := h[52]? = some (.inr (8, [.int (jI cnt), .ref 53, .ref 54, .ref 55])) ∧ h[53]? = some (.inl (.int, 401, .inl K)) ∧ h[54]? = some (.inl (.int, 401, .inl P)) ∧ h[55]? = some (.inl (.long, 401, .inr (.inl M)))
/-- only cells a .. b are touched -/
def Fr (a b : Nat) (h h' : aH) : Prop := h'.length = h.length ∧ ∀ k, (k < a ∨ b < k) → h'[k]? = h[k]?
theorem Fr.refl {a b : Nat} {h : aH} : Fr a b h h := ⟨rfl, fun _ _ => rfl⟩
theorem Fr.trans {a b : Nat} {h1 h2 h3 : aH} (p : Fr a b h1 h2) (q : Fr a b h2 h3) : Fr a b h1 h3 := ⟨q.1.trans p.1, fun k hk => (q.2 k hk).trans (p.2 k hk)⟩
theorem Fr.set {a b k : Nat} {h : aH} {c : aC} (h1 : a ≤ k) (h2 : k ≤ b) : Fr a b h (h.set k c) := ⟨List.length_set .., fun j hj => set_ne (by omega)⟩
theorem Fr.mono {a b a' b' : Nat} {h h' : aH} (p : Fr a b h h') (h1 : a' ≤ a) (h2 : b ≤ b') : Fr a' b' h h' := ⟨p.1, fun k hk => p.2 k (by omega)⟩
theorem keepC {h h1 : aH} {a k : Nat} {c : aC} {v : Option aC} (hh : h1 = h.set a c) (hk : a ≠ k) (e : h[k]? = v) : h1[k]? = v := by
  rw [hh, set_ne hk]
  exact e
section
variable {h : aH} {cnt : Nat} {K P : Nat → Int32} {M : Nat → Int64}
theorem TW.kO {β : Type} {k : Option β} (X : TW h cnt K P M) : kO h 52 8 k = k := kO_of (ltE (by decide)) X.1
theorem add_at (X : TW h cnt K P M) (hc : cnt ≤ 400) (a1 a2 : Int32) (a3 : Int64) : ∃ h', s_X8_add 52 a1 a2 a3 h = some (.inl none, h') ∧ TW h' (cnt + 1) (upd K cnt a1) (upd P cnt a2) (vp_updL M cnt a3) ∧ Fr 52 55 h h' := by
  obtain ⟨x0, x1, x2, x3⟩ := X
  have g0 : gI h (.ref 52) 8 0 = some (jI cnt) := gI_of (ltE (by decide)) x0 rfl
  have g1 : gO h (.ref 52) 8 1 = some 53 := gO_of (ltE (by decide)) x0 rfl
  have e1 := stI_of (h := h) (a := 53) (j := cnt) (x := a1) (ltE (by decide)) x1 (by omega) (by decide)
  obtain ⟨h1, hh1⟩ : ∃ h1, h1 = h.set 53 (.inl (.int, 401, .inl (upd K cnt a1))) := ⟨_, rfl⟩
  rw [← hh1] at e1
  have y0 := keepC (k := 52) hh1 (by decide) x0
  have y2 := keepC (k := 54) hh1 (by decide) x2
  have y3 := keepC (k := 55) hh1 (by decide) x3
  have y1 : h1[53]? = some (.inl (.int, 401, .inl (upd K cnt a1))) := by rw [hh1]; exact set_eq x1
  have e2 := stI_of (h := h1) (a := 54) (j := cnt) (x := a2) (ltE (by decide)) y2 (by omega) (by decide)
  obtain ⟨h2, hh2⟩ : ∃ h2, h2 = h1.set 54 (.inl (.int, 401, .inl (upd P cnt a2))) := ⟨_, rfl⟩
  rw [← hh2] at e2
  have z0 := keepC (k := 52) hh2 (by decide) y0
  have z1 := keepC (k := 53) hh2 (by decide) y1
  have z2 : h2[54]? = some (.inl (.int, 401, .inl (upd P cnt a2))) := by rw [hh2]; exact set_eq y2
  have z3 := keepC (k := 55) hh2 (by decide) y3
  have e3 := stJ_of (h := h2) (a := 55) (j := cnt) (x := a3) (ltE (by decide)) z3 (by omega) (by decide)
  obtain ⟨h3, hh3⟩ : ∃ h3, h3 = h2.set 55 (.inl (.long, 401, .inr (.inl (vp_updL M cnt a3)))) := ⟨_, rfl⟩
  rw [← hh3] at e3
  have w0 := keepC (k := 52) hh3 (by decide) z0
  have w1 := keepC (k := 53) hh3 (by decide) z1
  have w2 := keepC (k := 54) hh3 (by decide) z2
  have w3 : h3[55]? = some (.inl (.long, 401, .inr (.inl (vp_updL M cnt a3)))) := by rw [hh3]; exact set_eq z3
  have e4 : pF h3 (.ref 52) 8 0 (.int (jI (cnt + 1))) = some (h3.set 52 (.inr (8, [.int (jI (cnt + 1)), .ref 53, .ref 54, .ref 55]))) := by
    rw [pF_of (ltE (by decide)) w0 (show 0 < 4 by decide)]
    rfl
  refine ⟨_, ?_, ⟨set_eq w0, by rw [set_ne (by decide)]; exact w1, by rw [set_ne (by decide)]; exact w2, by rw [set_ne (by decide)]; exact w3⟩, ?_⟩
  · unfold s_X8_add
    rw [g0, Option.bind_some, if_neg (fun u => by have := (jI_lt (j := 400) (by omega) (by omega)).mp u; omega), g1, Option.bind_some, Option.bind_some, e1, Option.bind_some, gO_of (x := 54) (k := 2) (ltE (by decide)) y0 rfl, Option.bind_some, gI_of (x := jI cnt) (k := 0) (ltE (by decide)) y0 rfl, Option.bind_some, e2, Option.bind_some, gO_of (x := 55) (k := 3) (ltE (by decide)) z0 rfl, Option.bind_some, gI_of (x := jI cnt) (k := 0) (ltE (by decide)) z0 rfl, Option.bind_some, e3, Option.bind_some, gI_of (x := jI cnt) (k := 0) (ltE (by decide)) w0 rfl, Option.bind_some, jI_inc, e4, Option.bind_some]
  · have f1 : Fr 52 55 h h1 := by rw [hh1]; exact Fr.set (by decide) (by decide)
    have f2 : Fr 52 55 h1 h2 := by rw [hh2]; exact Fr.set (by decide) (by decide)
    have f3 : Fr 52 55 h2 h3 := by rw [hh3]; exact Fr.set (by decide) (by decide)
    exact ((f1.trans f2).trans f3).trans (Fr.set (by decide) (by decide))
end
