/-! ranks: what is meant, and the class's rows -/
def dt3 (R : Nat → Int64) (x y z : Nat) : Int64 := ((R (x * 3) * ((R (y * 3 + 1) * R (z * 3 + 2)) - (R (y * 3 + 2) * R (z * 3 + 1)))) - (R (x * 3 + 1) * ((R (y * 3) * R (z * 3 + 2)) - (R (y * 3 + 2) * R (z * 3))))) + (R (x * 3 + 2) * ((R (y * 3) * R (z * 3 + 1)) - (R (y * 3 + 1) * R (z * 3))))
def mn2 (R : Nat → Int64) (x y i j : Nat) : Int64 := (R (x * 3 + i) * R (y * 3 + j)) - (R (x * 3 + j) * R (y * 3 + i))
def apt (R : Nat → Int64) (x y : Nat) : Prop := mn2 R x y 0 1 ≠ 0 ∨ mn2 R x y 0 2 ≠ 0 ∨ mn2 R x y 1 2 ≠ 0
def isTr (R : Nat → Int64) (n : Nat) : Prop := ∃ x y z, x < y ∧ y < z ∧ z < n ∧ dt3 R x y z ≠ 0
def isPr (R : Nat → Int64) (n : Nat) : Prop := ∃ x y, x < y ∧ y < n ∧ apt R x y
def isNz (R : Nat → Int64) (n : Nat) : Prop := ∃ j, j < n ∧ R j ≠ 0
def isRk (R : Nat → Int64) (n : Nat) (r : Int32) : Prop := (r = 3 ∧ isTr R n) ∨ (r = 2 ∧ ¬ isTr R n ∧ isPr R n) ∨ (r = 1 ∧ ¬ isTr R n ∧ ¬ isPr R n ∧ isNz R (n * 3)) ∨ (r = 0 ∧ ¬ isTr R n ∧ ¬ isPr R n ∧ ¬ isNz R (n * 3))
theorem jI_3 (x : Nat) : jI x * 3 = jI (x * 3) := by rw [show (3 : Int32) = jI 3 from rfl, jI_mul]
theorem jI_a2 (x : Nat) : jI x + 2 = jI (x + 2) := by rw [show (2 : Int32) = jI 2 from rfl, jI_add]
def mtx (see : Bool) (a : Nat → Nat → Int32) (j k : Nat) : Int64 := (if see = true then a j k else a k j).toInt64
def mulV (see : Bool) (a : Nat → Nat → Int32) (R : Nat → Int64) (l k : Nat) : Int64 := ((0 + R (l * 3) * mtx see a 0 k) + R (l * 3 + 1) * mtx see a 1 k) + R (l * 3 + 2) * mtx see a 2 k
def basV (see : Bool) (a c : Nat → Nat → Int32) (l k : Nat) : Int64 := (if see = true then c l k else a k (3 + l)).toInt64
def isCv (see : Bool) (a c : Nat → Nat → Int32) (ln cnt : Nat) (R : Nat → Int64) : Prop :=
  (∀ l, l < ln → ∀ k, k < 3 → R (l * 3 + k) = basV see a c l k) ∧ ∀ l, ln ≤ l → l < cnt → ∀ k, k < 3 → R (l * 3 + k) = mulV see a R (l - ln) k
theorem isCv_uniq {see : Bool} {a c : Nat → Nat → Int32} {ln cnt : Nat} {R R' : Nat → Int64} (hl : 0 < ln) (h : isCv see a c ln cnt R) (h' : isCv see a c ln cnt R') : ∀ l, (l < cnt ∨ l < ln) → ∀ k, k < 3 → R (l * 3 + k) = R' (l * 3 + k) := by
  intro l
  induction l using Nat.strongRecOn with
  | ind l ih =>
    intro hl2 k hk
    by_cases q : l < ln
    · rw [h.1 l q k hk, h'.1 l q k hk]
    · rw [h.2 l (by omega) (by omega) k hk, h'.2 l (by omega) (by omega) k hk]
      have i0 := ih (l - ln) (by omega) (by omega) 0 (by decide)
      have i1 := ih (l - ln) (by omega) (by omega) 1 (by decide)
      have i2 := ih (l - ln) (by omega) (by omega) 2 (by decide)
      rw [Nat.add_zero] at i0
      unfold mulV
      rw [i0, i1, i2]
section
variable {S V : Nat → Nat → Int32} {D Ln : Nat → Nat} {b : Nat} {A : Nat → Nat → Int32} {N : Nat → Int64} {m F : Nat → Nat} {h : aH} {Z : Nat → Nat → Int64}
theorem cwDet (X : CW h S V Z D Ln b) {x y z : Nat} (hx : x < 6) (hy : y < 6) (hz : z < 6) : s_X1_determinant 81 (jI x) (jI y) (jI z) h = some (.inl (some (.long (dt3 (Z 86) x y z))), h) := by
  have g7 : gO h (.ref 81) 1 7 = some 86 := gO_of (ltE (by decide)) (X.1 81 rfl) rfl
  have l : ∀ j, j < 18 → ldJ h (.ref 86) (jI j) = some (Z 86 j) := fun j hj => X.ldJ (a := 86) rfl hj
  unfold s_X1_determinant
  rw [jI_3, jI_3, jI_3, jI_inc, jI_inc, jI_inc, jI_a2, jI_a2, jI_a2]
  simp only [g7, Option.bind_some, l (x * 3) (by omega), l (x * 3 + 1) (by omega), l (x * 3 + 2) (by omega), l (y * 3) (by omega), l (y * 3 + 1) (by omega), l (y * 3 + 2) (by omega), l (z * 3) (by omega), l (z * 3 + 1) (by omega), l (z * 3 + 2) (by omega)]
  rfl
theorem cwMinor (X : CW h S V Z D Ln b) {x y i j : Nat} (hx : x < 6) (hy : y < 6) (hi : i < 3) (hj : j < 3) : s_X1_minor 81 (jI x) (jI y) (jI i) (jI j) h = some (.inl (some (.long (mn2 (Z 86) x y i j))), h) := by
  have g7 : gO h (.ref 81) 1 7 = some 86 := gO_of (ltE (by decide)) (X.1 81 rfl) rfl
  have l : ∀ j, j < 18 → ldJ h (.ref 86) (jI j) = some (Z 86 j) := fun j hj => X.ldJ (a := 86) rfl hj
  unfold s_X1_minor
  rw [jI_3, jI_3, jI_add, jI_add, jI_add, jI_add]
  simp only [g7, Option.bind_some, l (x * 3 + i) (by omega), l (x * 3 + j) (by omega), l (y * 3 + i) (by omega), l (y * 3 + j) (by omega)]
  rfl
theorem tr21_go (X : CW h S V Z D Ln b) {k2 : Nat → Int32 → Int32 → aH → aO} {k11 : Nat → Int32 → Int32 → Int32 → aH → aO} {n x y : Nat} (hn6 : n ≤ 6) (hx : x < n) (hy : y < n) : ∀ (k z f : Nat), z + k = n → k < f →
    ((∃ z', z ≤ z' ∧ z' < n ∧ dt3 (Z 86) x y z' ≠ 0) ∧ s_X1_anyTriple_21 k2 k11 f 81 (jI n) (jI x) (jI y) (jI z) h = some (.inl (some (.int 1)), h)) ∨ ((∀ z', z ≤ z' → z' < n → dt3 (Z 86) x y z' = 0) ∧ s_X1_anyTriple_21 k2 k11 f 81 (jI n) (jI x) (jI y) (jI z) h = k11 81 (jI n) (jI x) (jI (y + 1)) h)
  | _, _, 0, _, hf => by omega
  | 0, z, f + 1, hz, hf => by
    refine Or.inr ⟨fun z' h1 h2 => by omega, ?_⟩
    show s_X1_anyTriple_21_b k2 k11 (s_X1_anyTriple_21 k2 k11 f) 81 (jI n) (jI x) (jI y) (jI z) h = _
    unfold s_X1_anyTriple_21_b
    rw [if_pos ((jI_le (by omega) (by omega)).mpr (by omega)), jI_inc]
  | k + 1, z, f + 1, hz, hf => by
    have e : s_X1_anyTriple_21 k2 k11 (f + 1) 81 (jI n) (jI x) (jI y) (jI z) h = if dt3 (Z 86) x y z = 0 then s_X1_anyTriple_21 k2 k11 f 81 (jI n) (jI x) (jI y) (jI (z + 1)) h else some (.inl (some (.int 1)), h) := by
      show s_X1_anyTriple_21_b k2 k11 (s_X1_anyTriple_21 k2 k11 f) 81 (jI n) (jI x) (jI y) (jI z) h = _
      unfold s_X1_anyTriple_21_b
      rw [if_neg (fun u => by have := (jI_le (by omega) (by omega)).mp u; omega), kO_of (ltE (by decide)) (X.1 81 rfl), cwDet X (by omega) (by omega) (by omega)]
      simp only [cJ]
      rw [jI_inc]
      by_cases q : dt3 (Z 86) x y z = 0
      · rw [if_pos ((lgc_eq _ _).mpr q), if_pos q]
      · rw [if_neg (fun u => q ((lgc_eq _ _).mp u)), if_neg q]
        rfl
    by_cases q : dt3 (Z 86) x y z = 0
    · rw [e, if_pos q]
      rcases tr21_go X (k2 := k2) (k11 := k11) hn6 hx hy k (z + 1) f (by omega) (by omega) with ⟨⟨z', a1, a2, a3⟩, r⟩ | ⟨a1, r⟩
      · exact Or.inl ⟨⟨z', by omega, a2, a3⟩, r⟩
      · refine Or.inr ⟨fun z' h1 h2 => ?_, r⟩
        by_cases u : z' = z
        · rw [u]; exact q
        · exact a1 z' (by omega) h2
    · rw [e, if_neg q]
      exact Or.inl ⟨⟨z, Nat.le_refl z, by omega, q⟩, rfl⟩
theorem tr11_go (X : CW h S V Z D Ln b) {k2 : Nat → Int32 → Int32 → aH → aO} {n x : Nat} (hn6 : n ≤ 6) (hx : x < n) : ∀ (k y f : Nat), y + k = n → k < f →
    ((∃ y' z', y ≤ y' ∧ y' < z' ∧ z' < n ∧ dt3 (Z 86) x y' z' ≠ 0) ∧ s_X1_anyTriple_11 k2 f 81 (jI n) (jI x) (jI y) h = some (.inl (some (.int 1)), h)) ∨ ((∀ y' z', y ≤ y' → y' < z' → z' < n → dt3 (Z 86) x y' z' = 0) ∧ s_X1_anyTriple_11 k2 f 81 (jI n) (jI x) (jI y) h = k2 81 (jI n) (jI (x + 1)) h)
  | _, _, 0, _, hf => by omega
  | 0, y, f + 1, hy, hf => by
    refine Or.inr ⟨fun y' z' h1 h2 h3 => by omega, ?_⟩
    show s_X1_anyTriple_11_b k2 (s_X1_anyTriple_11 k2 f) 81 (jI n) (jI x) (jI y) h = _
    unfold s_X1_anyTriple_11_b
    rw [if_pos ((jI_le (by omega) (by omega)).mpr (by omega)), jI_inc]
  | k + 1, y, f + 1, hy, hf => by
    have e : s_X1_anyTriple_11 k2 (f + 1) 81 (jI n) (jI x) (jI y) h = s_X1_anyTriple_21 k2 (s_X1_anyTriple_11 k2 f) FU 81 (jI n) (jI x) (jI y) (jI (y + 1)) h := by
      show s_X1_anyTriple_11_b k2 (s_X1_anyTriple_11 k2 f) 81 (jI n) (jI x) (jI y) h = _
      unfold s_X1_anyTriple_11_b
      rw [if_neg (fun u => by have := (jI_le (by omega) (by omega)).mp u; omega), jI_inc]
    rw [e]
    rcases tr21_go X (k2 := k2) (k11 := s_X1_anyTriple_11 k2 f) hn6 hx (show y < n by omega) (n - (y + 1)) (y + 1) FU (by omega) (by show n - (y + 1) < 1000000; omega) with ⟨⟨z', a1, a2, a3⟩, r⟩ | ⟨a1, r⟩
    · exact Or.inl ⟨⟨y, z', Nat.le_refl y, by omega, a2, a3⟩, r⟩
    · rw [r]
      rcases tr11_go X (k2 := k2) hn6 hx k (y + 1) f (by omega) (by omega) with ⟨⟨y', z', c1, c2, c3, c4⟩, r2⟩ | ⟨c1, r2⟩
      · exact Or.inl ⟨⟨y', z', by omega, c2, c3, c4⟩, r2⟩
      · refine Or.inr ⟨fun y' z' h1 h2 h3 => ?_, r2⟩
        by_cases u : y' = y
        · rw [u]; exact a1 z' (by omega) h3
        · exact c1 y' z' (by omega) h2 h3
theorem tr2_go (X : CW h S V Z D Ln b) {n : Nat} (hn6 : n ≤ 6) : ∀ (k x f : Nat), x + k = n → k < f →
    ((∃ x' y' z', x ≤ x' ∧ x' < y' ∧ y' < z' ∧ z' < n ∧ dt3 (Z 86) x' y' z' ≠ 0) ∧ s_X1_anyTriple_2 f 81 (jI n) (jI x) h = some (.inl (some (.int 1)), h)) ∨ ((∀ x' y' z', x ≤ x' → x' < y' → y' < z' → z' < n → dt3 (Z 86) x' y' z' = 0) ∧ s_X1_anyTriple_2 f 81 (jI n) (jI x) h = some (.inl (some (.int 0)), h))
  | _, _, 0, _, hf => by omega
  | 0, x, f + 1, hx, hf => by
    refine Or.inr ⟨fun x' y' z' h1 h2 h3 h4 => by omega, ?_⟩
    show s_X1_anyTriple_2_b (s_X1_anyTriple_2 f) 81 (jI n) (jI x) h = _
    unfold s_X1_anyTriple_2_b
    rw [if_pos ((jI_le (by omega) (by omega)).mpr (by omega))]
    rfl
  | k + 1, x, f + 1, hx, hf => by
    have e : s_X1_anyTriple_2 (f + 1) 81 (jI n) (jI x) h = s_X1_anyTriple_11 (s_X1_anyTriple_2 f) FU 81 (jI n) (jI x) (jI (x + 1)) h := by
      show s_X1_anyTriple_2_b (s_X1_anyTriple_2 f) 81 (jI n) (jI x) h = _
      unfold s_X1_anyTriple_2_b
      rw [if_neg (fun u => by have := (jI_le (by omega) (by omega)).mp u; omega), jI_inc]
    rw [e]
    rcases tr11_go X (k2 := s_X1_anyTriple_2 f) hn6 (show x < n by omega) (n - (x + 1)) (x + 1) FU (by omega) (by show n - (x + 1) < 1000000; omega) with ⟨⟨y', z', a1, a2, a3, a4⟩, r⟩ | ⟨a1, r⟩
    · exact Or.inl ⟨⟨x, y', z', Nat.le_refl x, by omega, a2, a3, a4⟩, r⟩
    · rw [r]
      rcases tr2_go X hn6 k (x + 1) f (by omega) (by omega) with ⟨⟨x', y', z', c1, c2⟩, r2⟩ | ⟨c1, r2⟩
      · exact Or.inl ⟨⟨x', y', z', by omega, c2⟩, r2⟩
      · refine Or.inr ⟨fun x' y' z' h1 h2 h3 h4 => ?_, r2⟩
        by_cases u : x' = x
        · rw [u]; exact a1 y' z' (by omega) h3 h4
        · exact c1 x' y' z' (by omega) h2 h3 h4
theorem CW.anyTriple (X : CW h S V Z D Ln b) {n : Nat} (hn6 : n ≤ 6) : ∃ q : Bool, s_X1_anyTriple 81 (jI n) h = some (.inl (some (.int (b01 q))), h) ∧ (q = true ↔ isTr (Z 86) n) := by
  rcases tr2_go X hn6 n 0 FU (by omega) (by show n < 1000000; omega) with ⟨⟨x, y, z, -, a⟩, r⟩ | ⟨a, r⟩
  · exact ⟨true, r, fun _ => ⟨x, y, z, a⟩, fun _ => rfl⟩
  · exact ⟨false, r, fun z => Bool.noConfusion z, fun ⟨x, y, z, a1, a2, a3, a4⟩ => absurd (a x y z (Nat.zero_le x) a1 a2 a3) a4⟩
theorem pr11_go (X : CW h S V Z D Ln b) {k2 : Nat → Int32 → Int32 → aH → aO} {n x : Nat} (hn6 : n ≤ 6) (hx : x < n) : ∀ (k y f : Nat), y + k = n → k < f →
    ((∃ y', y ≤ y' ∧ y' < n ∧ apt (Z 86) x y') ∧ s_X1_anyPair_11 k2 f 81 (jI n) (jI x) (jI y) h = some (.inl (some (.int 1)), h)) ∨ ((∀ y', y ≤ y' → y' < n → ¬ apt (Z 86) x y') ∧ s_X1_anyPair_11 k2 f 81 (jI n) (jI x) (jI y) h = k2 81 (jI n) (jI (x + 1)) h)
  | _, _, 0, _, hf => by omega
  | 0, y, f + 1, hy, hf => by
    refine Or.inr ⟨fun y' h1 h2 => by omega, ?_⟩
    show s_X1_anyPair_11_b k2 (s_X1_anyPair_11 k2 f) 81 (jI n) (jI x) (jI y) h = _
    unfold s_X1_anyPair_11_b
    rw [if_pos ((jI_le (by omega) (by omega)).mpr (by omega)), jI_inc]
  | k + 1, y, f + 1, hy, hf => by
    have m1 : s_X1_minor 81 (jI x) (jI y) 0 1 h = some (.inl (some (.long (mn2 (Z 86) x y 0 1))), h) := cwMinor X (i := 0) (j := 1) (by omega) (by omega) (by decide) (by decide)
    have m2 : s_X1_minor 81 (jI x) (jI y) 0 2 h = some (.inl (some (.long (mn2 (Z 86) x y 0 2))), h) := cwMinor X (i := 0) (j := 2) (by omega) (by omega) (by decide) (by decide)
    have m3 : s_X1_minor 81 (jI x) (jI y) 1 2 h = some (.inl (some (.long (mn2 (Z 86) x y 1 2))), h) := cwMinor X (i := 1) (j := 2) (by omega) (by omega) (by decide) (by decide)
    have kk : ∀ {β : Type} {k : Option β}, kO h 81 1 k = k := fun {β k} => kO_of (ltE (by decide)) (X.1 81 rfl)
    have e : (apt (Z 86) x y ∧ s_X1_anyPair_11 k2 (f + 1) 81 (jI n) (jI x) (jI y) h = some (.inl (some (.int 1)), h)) ∨ (¬ apt (Z 86) x y ∧ s_X1_anyPair_11 k2 (f + 1) 81 (jI n) (jI x) (jI y) h = s_X1_anyPair_11 k2 f 81 (jI n) (jI x) (jI (y + 1)) h) := by
      have u : s_X1_anyPair_11 k2 (f + 1) 81 (jI n) (jI x) (jI y) h = if mn2 (Z 86) x y 0 1 = 0 then (if mn2 (Z 86) x y 0 2 = 0 then (if mn2 (Z 86) x y 1 2 = 0 then s_X1_anyPair_11 k2 f 81 (jI n) (jI x) (jI (y + 1)) h else some (.inl (some (.int 1)), h)) else some (.inl (some (.int 1)), h)) else some (.inl (some (.int 1)), h) := by
        show s_X1_anyPair_11_b k2 (s_X1_anyPair_11 k2 f) 81 (jI n) (jI x) (jI y) h = _
        unfold s_X1_anyPair_11_b
        rw [if_neg (fun u => by have := (jI_le (by omega) (by omega)).mp u; omega), kk, m1]
        simp only [cJ]
        by_cases q1 : mn2 (Z 86) x y 0 1 = 0
        · rw [if_pos ((lgc_eq _ _).mpr q1), if_pos q1, kk, m2]
          simp only []
          by_cases q2 : mn2 (Z 86) x y 0 2 = 0
          · rw [if_pos ((lgc_eq _ _).mpr q2), if_pos q2, kk, m3]
            simp only []
            by_cases q3 : mn2 (Z 86) x y 1 2 = 0
            · rw [if_pos ((lgc_eq _ _).mpr q3), if_pos q3, jI_inc]
            · rw [if_neg (fun u => q3 ((lgc_eq _ _).mp u)), if_neg q3]
              rfl
          · rw [if_neg (fun u => q2 ((lgc_eq _ _).mp u)), if_neg q2]
            rfl
        · rw [if_neg (fun u => q1 ((lgc_eq _ _).mp u)), if_neg q1]
          rfl
      rw [u]
      by_cases q1 : mn2 (Z 86) x y 0 1 = 0
      · rw [if_pos q1]
        by_cases q2 : mn2 (Z 86) x y 0 2 = 0
        · rw [if_pos q2]
          by_cases q3 : mn2 (Z 86) x y 1 2 = 0
          · rw [if_pos q3]
            exact Or.inr ⟨fun z => by rcases z with z | z | z <;> exact z (by assumption), rfl⟩
          · rw [if_neg q3]
            exact Or.inl ⟨Or.inr (Or.inr q3), rfl⟩
        · rw [if_neg q2]
          exact Or.inl ⟨Or.inr (Or.inl q2), rfl⟩
      · rw [if_neg q1]
        exact Or.inl ⟨Or.inl q1, rfl⟩
    rcases e with ⟨a, r⟩ | ⟨a, r⟩
    · exact Or.inl ⟨⟨y, Nat.le_refl y, by omega, a⟩, r⟩
    · rw [r]
      rcases pr11_go X (k2 := k2) hn6 hx k (y + 1) f (by omega) (by omega) with ⟨⟨y', c1, c2⟩, r2⟩ | ⟨c1, r2⟩
      · exact Or.inl ⟨⟨y', by omega, c2⟩, r2⟩
      · refine Or.inr ⟨fun y' h1 h2 => ?_, r2⟩
        by_cases u : y' = y
        · rw [u]; exact a
        · exact c1 y' (by omega) h2
theorem pr2_go (X : CW h S V Z D Ln b) {n : Nat} (hn6 : n ≤ 6) : ∀ (k x f : Nat), x + k = n → k < f →
    ((∃ x' y', x ≤ x' ∧ x' < y' ∧ y' < n ∧ apt (Z 86) x' y') ∧ s_X1_anyPair_2 f 81 (jI n) (jI x) h = some (.inl (some (.int 1)), h)) ∨ ((∀ x' y', x ≤ x' → x' < y' → y' < n → ¬ apt (Z 86) x' y') ∧ s_X1_anyPair_2 f 81 (jI n) (jI x) h = some (.inl (some (.int 0)), h))
  | _, _, 0, _, hf => by omega
  | 0, x, f + 1, hx, hf => by
    refine Or.inr ⟨fun x' y' h1 h2 h3 => by omega, ?_⟩
    show s_X1_anyPair_2_b (s_X1_anyPair_2 f) 81 (jI n) (jI x) h = _
    unfold s_X1_anyPair_2_b
    rw [if_pos ((jI_le (by omega) (by omega)).mpr (by omega))]
    rfl
  | k + 1, x, f + 1, hx, hf => by
    have e : s_X1_anyPair_2 (f + 1) 81 (jI n) (jI x) h = s_X1_anyPair_11 (s_X1_anyPair_2 f) FU 81 (jI n) (jI x) (jI (x + 1)) h := by
      show s_X1_anyPair_2_b (s_X1_anyPair_2 f) 81 (jI n) (jI x) h = _
      unfold s_X1_anyPair_2_b
      rw [if_neg (fun u => by have := (jI_le (by omega) (by omega)).mp u; omega), jI_inc]
    rw [e]
    rcases pr11_go X (k2 := s_X1_anyPair_2 f) hn6 (show x < n by omega) (n - (x + 1)) (x + 1) FU (by omega) (by show n - (x + 1) < 1000000; omega) with ⟨⟨y', a1, a2, a3⟩, r⟩ | ⟨a1, r⟩
    · exact Or.inl ⟨⟨x, y', Nat.le_refl x, by omega, a2, a3⟩, r⟩
    · rw [r]
      rcases pr2_go X hn6 k (x + 1) f (by omega) (by omega) with ⟨⟨x', y', c1, c2⟩, r2⟩ | ⟨c1, r2⟩
      · exact Or.inl ⟨⟨x', y', by omega, c2⟩, r2⟩
      · refine Or.inr ⟨fun x' y' h1 h2 h3 => ?_, r2⟩
        by_cases u : x' = x
        · rw [u]; exact a1 y' (by omega) h3
        · exact c1 x' y' (by omega) h2 h3
theorem CW.anyPair (X : CW h S V Z D Ln b) {n : Nat} (hn6 : n ≤ 6) : ∃ q : Bool, s_X1_anyPair 81 (jI n) h = some (.inl (some (.int (b01 q))), h) ∧ (q = true ↔ isPr (Z 86) n) := by
  rcases pr2_go X hn6 n 0 FU (by omega) (by show n < 1000000; omega) with ⟨⟨x, y, -, a⟩, r⟩ | ⟨a, r⟩
  · exact ⟨true, r, fun _ => ⟨x, y, a⟩, fun _ => rfl⟩
  · exact ⟨false, r, fun z => Bool.noConfusion z, fun ⟨x, y, a1, a2, a3⟩ => absurd a3 (a x y (Nat.zero_le x) a1 a2)⟩
theorem nz10_go (X : CW h S V Z D Ln b) : ∀ (k j f : Nat), j + k = 18 → k < f →
    ((∃ j', j ≤ j' ∧ j' < 18 ∧ Z 86 j' ≠ 0) ∧ s_X1_anyNumber_10 f 86 (jI 18) (jI j) h = some (.inl (some (.int 1)), h)) ∨ ((∀ j', j ≤ j' → j' < 18 → Z 86 j' = 0) ∧ s_X1_anyNumber_10 f 86 (jI 18) (jI j) h = some (.inl (some (.int 0)), h))
  | _, _, 0, _, hf => by omega
  | 0, j, f + 1, hj, hf => by
    refine Or.inr ⟨fun j' h1 h2 => by omega, ?_⟩
    show s_X1_anyNumber_10_b (s_X1_anyNumber_10 f) 86 (jI 18) (jI j) h = _
    unfold s_X1_anyNumber_10_b
    rw [if_pos ((jI_le (by omega) (by omega)).mpr (by omega))]
    rfl
  | k + 1, j, f + 1, hj, hf => by
    have l : ldJ h (.ref 86) (jI j) = some (Z 86 j) := X.ldJ (a := 86) rfl (show j < 18 by omega)
    have e : s_X1_anyNumber_10 (f + 1) 86 (jI 18) (jI j) h = if Z 86 j = 0 then s_X1_anyNumber_10 f 86 (jI 18) (jI (j + 1)) h else some (.inl (some (.int 1)), h) := by
      show s_X1_anyNumber_10_b (s_X1_anyNumber_10 f) 86 (jI 18) (jI j) h = _
      unfold s_X1_anyNumber_10_b
      rw [if_neg (fun u => by have := (jI_le (by omega) (by omega)).mp u; omega), l, Option.bind_some, jI_inc]
      by_cases q : Z 86 j = 0
      · rw [if_pos ((lgc_eq _ _).mpr q), if_pos q]
      · rw [if_neg (fun u => q ((lgc_eq _ _).mp u)), if_neg q]
        rfl
    rw [e]
    by_cases q : Z 86 j = 0
    · rw [if_pos q]
      rcases nz10_go X k (j + 1) f (by omega) (by omega) with ⟨⟨j', a1, a2, a3⟩, r⟩ | ⟨a1, r⟩
      · exact Or.inl ⟨⟨j', by omega, a2, a3⟩, r⟩
      · refine Or.inr ⟨fun j' h1 h2 => ?_, r⟩
        by_cases u : j' = j
        · rw [u]; exact q
        · exact a1 j' (by omega) h2
    · rw [if_neg q]
      exact Or.inl ⟨⟨j, Nat.le_refl j, by omega, q⟩, rfl⟩
theorem CW.anyNumber (X : CW h S V Z D Ln b) : ∃ q : Bool, s_X1_anyNumber 81 h = some (.inl (some (.int (b01 q))), h) ∧ (q = true ↔ isNz (Z 86) 18) := by
  have g7 : gO h (.ref 81) 1 7 = some 86 := gO_of (ltE (by decide)) (X.1 81 rfl) rfl
  have hc : h[86]? = some (.inl (.long, 18, .inr (.inl (Z 86)))) := X.2.2.1 86 rfl
  have e : lnA h (.ref 86) = some (jI 18) := by simp [lnA, aG, ltE (a := 86) (by decide), hc, jI]
  have st : s_X1_anyNumber 81 h = s_X1_anyNumber_10 FU 86 (jI 18) (jI 0) h := by
    unfold s_X1_anyNumber
    rw [g7, Option.bind_some, e, Option.bind_some]
    rfl
  rw [st]
  rcases nz10_go X 18 0 FU (by omega) (by decide) with ⟨⟨j, -, a⟩, r⟩ | ⟨a, r⟩
  · exact ⟨true, r, fun _ => ⟨j, a⟩, fun _ => rfl⟩
  · exact ⟨false, r, fun z => Bool.noConfusion z, fun ⟨j, a1, a2⟩ => absurd (a j (Nat.zero_le j) a1) a2⟩
end
