/-! the reference's rank, and that the two are one -/
section
variable {wd : Int64} {t : Nat} {fv nv : Value} {A : Nat → Nat → Int32} {m F : Nat → Nat} {B : Nat → Nat → Int32} {W : Nat → Int64} {G : Nat → Nat} {S : Nat → Int32} {V : Nat → Nat → Int32} {Z : Nat → Nat → Int64} {h : aH}
theorem three_at (C : RC h S wd t fv nv V Z A m F B W G) {x y z : Nat} (hx : x < 6) (hy : y < 6) (hz : z < 6) : s_X14_three 104 (jI x) (jI y) (jI z) h = some (.inl (some (.long (dt3 (Z 168) x y z))), h) := by
  have g51 : gO h (.ref 104) 14 51 = some 168 := gO_of (ltE (by decide)) C.1.1 rfl
  have l : ∀ j, j < 18 → ldJ h (.ref 168) (jI j) = some (Z 168 j) := fun j hj => C.1.ldJ (a := 168) rfl hj
  unfold s_X14_three
  rw [jI_3', jI_3', jI_3', jI_inc, jI_inc, jI_inc, jI_a2, jI_a2, jI_a2]
  simp only [g51, Option.bind_some, l (x * 3) (by omega), l (x * 3 + 1) (by omega), l (x * 3 + 2) (by omega), l (y * 3) (by omega), l (y * 3 + 1) (by omega), l (y * 3 + 2) (by omega), l (z * 3) (by omega), l (z * 3 + 1) (by omega), l (z * 3 + 2) (by omega)]
  rfl
theorem apart_at (C : RC h S wd t fv nv V Z A m F B W G) {x y : Nat} (hx : x < 6) (hy : y < 6) : ∃ q : Bool, s_X14_areApart 104 (jI x) (jI y) h = some (.inl (some (.int (b01 q))), h) ∧ (q = true ↔ apt (Z 168) x y) := by
  have g51 : gO h (.ref 104) 14 51 = some 168 := gO_of (ltE (by decide)) C.1.1 rfl
  have l : ∀ j, j < 18 → ldJ h (.ref 168) (jI j) = some (Z 168 j) := fun j hj => C.1.ldJ (a := 168) rfl hj
  have l0 := l (x * 3) (by omega)
  have l1 := l (x * 3 + 1) (by omega)
  have l2 := l (x * 3 + 2) (by omega)
  have k0 := l (y * 3) (by omega)
  have k1 := l (y * 3 + 1) (by omega)
  have k2 := l (y * 3 + 2) (by omega)
  have u : s_X14_areApart 104 (jI x) (jI y) h = if lg_cmp (Z 168 (x * 3) * Z 168 (y * 3 + 1)) (Z 168 (x * 3 + 1) * Z 168 (y * 3)) = 0 then (if lg_cmp (Z 168 (x * 3) * Z 168 (y * 3 + 2)) (Z 168 (x * 3 + 2) * Z 168 (y * 3)) = 0 then (if lg_cmp (Z 168 (x * 3 + 1) * Z 168 (y * 3 + 2)) (Z 168 (x * 3 + 2) * Z 168 (y * 3 + 1)) = 0 then rtZ 0 h else rtZ 1 h) else rtZ 1 h) else rtZ 1 h := by
    unfold s_X14_areApart
    rw [jI_3', jI_3', jI_inc, jI_inc, jI_a2, jI_a2]
    simp only [g51, Option.bind_some, l0, l1, l2, k0, k1, k2]
  have n1 : mn2 (Z 168) x y 0 1 = 0 ↔ Z 168 (x * 3) * Z 168 (y * 3 + 1) = Z 168 (x * 3 + 1) * Z 168 (y * 3) := i64_sub0
  have n2 : mn2 (Z 168) x y 0 2 = 0 ↔ Z 168 (x * 3) * Z 168 (y * 3 + 2) = Z 168 (x * 3 + 2) * Z 168 (y * 3) := i64_sub0
  have n3 : mn2 (Z 168) x y 1 2 = 0 ↔ Z 168 (x * 3 + 1) * Z 168 (y * 3 + 2) = Z 168 (x * 3 + 2) * Z 168 (y * 3 + 1) := i64_sub0
  rw [u]
  by_cases q1 : mn2 (Z 168) x y 0 1 = 0
  · rw [if_pos ((lgc_eq _ _).mpr (n1.mp q1))]
    by_cases q2 : mn2 (Z 168) x y 0 2 = 0
    · rw [if_pos ((lgc_eq _ _).mpr (n2.mp q2))]
      by_cases q3 : mn2 (Z 168) x y 1 2 = 0
      · rw [if_pos ((lgc_eq _ _).mpr (n3.mp q3))]
        exact ⟨false, rfl, fun z => Bool.noConfusion z, fun z => absurd z (fun z => by rcases z with z | z | z <;> exact z (by assumption))⟩
      · rw [if_neg (fun z => q3 (n3.mpr ((lgc_eq _ _).mp z)))]
        exact ⟨true, rfl, fun _ => Or.inr (Or.inr q3), fun _ => rfl⟩
    · rw [if_neg (fun z => q2 (n2.mpr ((lgc_eq _ _).mp z)))]
      exact ⟨true, rfl, fun _ => Or.inr (Or.inl q2), fun _ => rfl⟩
  · rw [if_neg (fun z => q1 (n1.mpr ((lgc_eq _ _).mp z)))]
    exact ⟨true, rfl, fun _ => Or.inl q1, fun _ => rfl⟩
theorem rk78_go (C : RC h S wd t fv nv V Z A m F B W G) {k4 : Nat → Int32 → Int32 → Int32 → aH → aO} {k53 : Nat → Int32 → Int32 → Int32 → Int32 → aH → aO} {n x y : Nat} (hx : x < 6) (hyx : y < x) {P Q : Prop} : ∀ (k z f : Nat) (r : Int32) (T : Prop), z + k = y → k < f → isR3 T P Q r →
    ∃ r', s_X14_rankOf_78 k4 k53 f 104 (jI n) r (jI x) (jI y) (jI z) h = k53 104 (jI n) r' (jI x) (jI (y + 1)) h ∧ isR3 (T ∨ ∃ z', z ≤ z' ∧ z' < y ∧ dt3 (Z 168) x y z' ≠ 0) P Q r'
  | _, _, 0, _, _, _, hf, _ => by omega
  | 0, z, f + 1, r, T, hz, hf, hr => by
    refine ⟨r, ?_, hr.congr ⟨Or.inl, fun u => u.elim id (fun ⟨z', a1, a2, _⟩ => by omega)⟩ Iff.rfl Iff.rfl⟩
    show s_X14_rankOf_78_b k4 k53 (s_X14_rankOf_78 k4 k53 f) 104 (jI n) r (jI x) (jI y) (jI z) h = _
    unfold s_X14_rankOf_78_b
    rw [if_pos ((jI_le (by omega) (by omega)).mpr (by omega)), jI_inc]
  | k + 1, z, f + 1, r, T, hz, hf, hr => by
    have e : s_X14_rankOf_78 k4 k53 (f + 1) 104 (jI n) r (jI x) (jI y) (jI z) h = if dt3 (Z 168) x y z = 0 then s_X14_rankOf_78 k4 k53 f 104 (jI n) r (jI x) (jI y) (jI (z + 1)) h else s_X14_rankOf_78 k4 k53 f 104 (jI n) 3 (jI x) (jI y) (jI (z + 1)) h := by
      show s_X14_rankOf_78_b k4 k53 (s_X14_rankOf_78 k4 k53 f) 104 (jI n) r (jI x) (jI y) (jI z) h = _
      unfold s_X14_rankOf_78_b
      rw [if_neg (fun u => by have := (jI_le (by omega) (by omega)).mp u; omega), C.kO, three_at C hx (by omega) (by omega)]
      simp only [cJ]
      rw [jI_inc]
      by_cases q : dt3 (Z 168) x y z = 0
      · rw [if_pos ((lgc_eq _ _).mpr q), if_pos q]
      · rw [if_neg (fun u => q ((lgc_eq _ _).mp u)), if_neg q]
    rw [e]
    by_cases q : dt3 (Z 168) x y z = 0
    · rw [if_pos q]
      obtain ⟨r', i1, i2⟩ := rk78_go C (k4 := k4) (k53 := k53) (n := n) hx hyx k (z + 1) f r T (by omega) (by omega) hr
      refine ⟨r', i1, i2.congr ⟨fun u => u.elim Or.inl (fun ⟨z', a1, a2, a3⟩ => Or.inr ⟨z', by omega, a2, a3⟩), fun u => u.elim Or.inl (fun ⟨z', a1, a2, a3⟩ => ?_)⟩ Iff.rfl Iff.rfl⟩
      by_cases w : z' = z
      · rw [w] at a3; exact absurd q a3
      · exact Or.inr ⟨z', by omega, a2, a3⟩
    · rw [if_neg q]
      obtain ⟨r', i1, i2⟩ := rk78_go C (k4 := k4) (k53 := k53) (n := n) hx hyx k (z + 1) f 3 (T ∨ ∃ z', z ≤ z' ∧ z' < y ∧ dt3 (Z 168) x y z' ≠ 0) (by omega) (by omega) (hr.t ⟨z, Nat.le_refl z, by omega, q⟩)
      exact ⟨r', i1, i2.congr ⟨fun u => u.elim id (fun ⟨z', a1, a2, a3⟩ => Or.inr ⟨z', by omega, a2, a3⟩), Or.inl⟩ Iff.rfl Iff.rfl⟩
theorem rk53_go (C : RC h S wd t fv nv V Z A m F B W G) {k4 : Nat → Int32 → Int32 → Int32 → aH → aO} {n x : Nat} (hx : x < 6) {Q : Prop} : ∀ (k y f : Nat) (r : Int32) (T P : Prop), y + k = x → k < f → isR3 T P Q r →
    ∃ r', s_X14_rankOf_53 k4 f 104 (jI n) r (jI x) (jI y) h = k4 104 (jI n) r' (jI (x + 1)) h ∧ isR3 (T ∨ ∃ y' z', y ≤ y' ∧ y' < x ∧ z' < y' ∧ dt3 (Z 168) x y' z' ≠ 0) (P ∨ ∃ y', y ≤ y' ∧ y' < x ∧ apt (Z 168) x y') Q r'
  | _, _, 0, _, _, _, _, hf, _ => by omega
  | 0, y, f + 1, r, T, P, hy, hf, hr => by
    refine ⟨r, ?_, hr.congr ⟨Or.inl, fun u => u.elim id (fun ⟨y', z', a1, a2, _⟩ => by omega)⟩ ⟨Or.inl, fun u => u.elim id (fun ⟨y', a1, a2, _⟩ => by omega)⟩ Iff.rfl⟩
    show s_X14_rankOf_53_b k4 (s_X14_rankOf_53 k4 f) 104 (jI n) r (jI x) (jI y) h = _
    unfold s_X14_rankOf_53_b
    rw [if_pos ((jI_le (by omega) (by omega)).mpr (by omega)), jI_inc]
  | k + 1, y, f + 1, r, T, P, hy, hf, hr => by
    obtain ⟨q, eq, hq⟩ := apart_at C hx (show y < 6 by omega)
    have e : s_X14_rankOf_53 k4 (f + 1) 104 (jI n) r (jI x) (jI y) h = s_X14_rankOf_78 k4 (s_X14_rankOf_53 k4 f) FU 104 (jI n) (if q = true then jmax r 2 else r) (jI x) (jI y) (jI 0) h := by
      show s_X14_rankOf_53_b k4 (s_X14_rankOf_53 k4 f) 104 (jI n) r (jI x) (jI y) h = _
      unfold s_X14_rankOf_53_b s_X14_rankOf_75
      rw [if_neg (fun u => by have := (jI_le (by omega) (by omega)).mp u; omega), C.kO, eq]
      simp only [cI]
      rw [show jI 0 = (0 : Int32) from rfl]
      cases q
      · rw [if_pos b01_f, if_neg Bool.false_ne_true]
      · rw [if_neg (show ¬ b01 true = 0 by decide), if_pos rfl]
    rw [e]
    have hr1 : isR3 T (P ∨ apt (Z 168) x y) Q (if q = true then jmax r 2 else r) := by
      cases q
      · rw [if_neg Bool.false_ne_true]
        exact hr.congr Iff.rfl ⟨Or.inl, fun u => u.elim id (fun z => Bool.noConfusion (hq.mpr z))⟩ Iff.rfl
      · rw [if_pos rfl]
        exact hr.p (hq.mp rfl)
    obtain ⟨r1, a1, a2⟩ := rk78_go C (k4 := k4) (k53 := s_X14_rankOf_53 k4 f) (n := n) hx (show y < x by omega) y 0 FU _ T (by omega) (by show y < 1000000; omega) hr1
    rw [a1]
    obtain ⟨r', i1, i2⟩ := rk53_go C (k4 := k4) (n := n) hx k (y + 1) f r1 _ _ (by omega) (by omega) a2
    refine ⟨r', i1, i2.congr ⟨fun u => ?_, fun u => ?_⟩ ⟨fun u => ?_, fun u => ?_⟩ Iff.rfl⟩
    · rcases u with (u | ⟨z', -, c2, c3⟩) | ⟨y', z', c1, c2, c3, c4⟩
      · exact Or.inl u
      · exact Or.inr ⟨y, z', Nat.le_refl y, by omega, c2, c3⟩
      · exact Or.inr ⟨y', z', by omega, c2, c3, c4⟩
    · rcases u with u | ⟨y', z', c1, c2, c3, c4⟩
      · exact Or.inl (Or.inl u)
      · by_cases w : y' = y
        · subst w
          exact Or.inl (Or.inr ⟨z', Nat.zero_le z', c3, c4⟩)
        · exact Or.inr ⟨y', z', by omega, c2, c3, c4⟩
    · rcases u with (u | u) | ⟨y', c1, c2, c3⟩
      · exact Or.inl u
      · exact Or.inr ⟨y, Nat.le_refl y, by omega, u⟩
      · exact Or.inr ⟨y', by omega, c2, c3⟩
    · rcases u with u | ⟨y', c1, c2, c3⟩
      · exact Or.inl (Or.inl u)
      · by_cases w : y' = y
        · subst w
          exact Or.inl (Or.inr c3)
        · exact Or.inr ⟨y', by omega, c2, c3⟩
theorem rk12_go (C : RC h S wd t fv nv V Z A m F B W G) {k4 : Nat → Int32 → Int32 → Int32 → aH → aO} {n x : Nat} (hx : x < 6) {T P : Prop} : ∀ (k j f : Nat) (r : Int32) (Q : Prop), j + k = 3 → k < f → isR3 T P Q r →
    ∃ r', s_X14_rankOf_12 k4 f 104 (jI n) r (jI x) (jI j) h = s_X14_rankOf_53 k4 FU 104 (jI n) r' (jI x) (jI 0) h ∧ isR3 T P (Q ∨ ∃ j', j ≤ j' ∧ j' < 3 ∧ Z 168 (x * 3 + j') ≠ 0) r'
  | _, _, 0, _, _, _, hf, _ => by omega
  | 0, j, f + 1, r, Q, hj, hf, hr => by
    refine ⟨r, ?_, hr.congr Iff.rfl Iff.rfl ⟨Or.inl, fun u => u.elim id (fun ⟨j', a1, a2, _⟩ => by omega)⟩⟩
    show s_X14_rankOf_12_b k4 (s_X14_rankOf_12 k4 f) 104 (jI n) r (jI x) (jI j) h = _
    unfold s_X14_rankOf_12_b
    rw [if_pos (show (3 : Int32) ≤ jI j from (jI_le (j := 3) (by omega) (by omega)).mpr (by omega)), show jI 0 = (0 : Int32) from rfl]
  | k + 1, j, f + 1, r, Q, hj, hf, hr => by
    have g51 : gO h (.ref 104) 14 51 = some 168 := gO_of (ltE (by decide)) C.1.1 rfl
    have l : ldJ h (.ref 168) (jI (x * 3 + j)) = some (Z 168 (x * 3 + j)) := C.1.ldJ (a := 168) rfl (show x * 3 + j < 18 by omega)
    have e : s_X14_rankOf_12 k4 (f + 1) 104 (jI n) r (jI x) (jI j) h = if Z 168 (x * 3 + j) = 0 then s_X14_rankOf_12 k4 f 104 (jI n) r (jI x) (jI (j + 1)) h else s_X14_rankOf_12 k4 f 104 (jI n) (jmax r 1) (jI x) (jI (j + 1)) h := by
      show s_X14_rankOf_12_b k4 (s_X14_rankOf_12 k4 f) 104 (jI n) r (jI x) (jI j) h = _
      unfold s_X14_rankOf_12_b s_X14_rankOf_43
      rw [if_neg (fun u => by have := (jI_le (j := 3) (by omega) (by omega)).mp u; omega), g51, Option.bind_some, jI_3', jI_add, l, Option.bind_some, jI_inc]
      by_cases q : Z 168 (x * 3 + j) = 0
      · rw [if_pos ((lgc_eq _ _).mpr q), if_pos q]
      · rw [if_neg (fun u => q ((lgc_eq _ _).mp u)), if_neg q]
    rw [e]
    by_cases q : Z 168 (x * 3 + j) = 0
    · rw [if_pos q]
      obtain ⟨r', i1, i2⟩ := rk12_go C (k4 := k4) (n := n) hx k (j + 1) f r Q (by omega) (by omega) hr
      refine ⟨r', i1, i2.congr Iff.rfl Iff.rfl ⟨fun u => u.elim Or.inl (fun ⟨j', a1, a2, a3⟩ => Or.inr ⟨j', by omega, a2, a3⟩), fun u => u.elim Or.inl (fun ⟨j', a1, a2, a3⟩ => ?_)⟩⟩
      by_cases w : j' = j
      · rw [w] at a3; exact absurd q a3
      · exact Or.inr ⟨j', by omega, a2, a3⟩
    · rw [if_neg q]
      obtain ⟨r', i1, i2⟩ := rk12_go C (k4 := k4) (n := n) hx k (j + 1) f (jmax r 1) (Q ∨ ∃ j', j ≤ j' ∧ j' < 3 ∧ Z 168 (x * 3 + j') ≠ 0) (by omega) (by omega) (hr.q ⟨j, Nat.le_refl j, by omega, q⟩)
      exact ⟨r', i1, i2.congr Iff.rfl Iff.rfl ⟨fun u => u.elim id (fun ⟨j', a1, a2, a3⟩ => Or.inr ⟨j', by omega, a2, a3⟩), Or.inl⟩⟩
theorem rk4_go (C : RC h S wd t fv nv V Z A m F B W G) {n : Nat} (hn : n ≤ 6) : ∀ (k x f : Nat) (r : Int32), x + k = n → k < f → isRk (Z 168) x r →
    ∃ r', s_X14_rankOf_4 f 104 (jI n) r (jI x) h = some (.inl (some (.int r')), h) ∧ isRk (Z 168) n r'
  | _, _, 0, _, _, hf, _ => by omega
  | 0, x, f + 1, r, hx, hf, hr => by
    have ex : x = n := by omega
    subst ex
    refine ⟨r, ?_, hr⟩
    show s_X14_rankOf_4_b (s_X14_rankOf_4 f) 104 (jI x) r (jI x) h = _
    unfold s_X14_rankOf_4_b
    rw [if_pos ((jI_le (by omega) (by omega)).mpr (by omega))]
  | k + 1, x, f + 1, r, hx, hf, hr => by
    have hr' : isR3 (isTr (Z 168) x) (isPr (Z 168) x) (isNz (Z 168) (x * 3)) r := hr
    obtain ⟨r1, a1, a2⟩ := rk12_go C (k4 := s_X14_rankOf_4 f) (n := n) (x := x) (by omega) 3 0 FU r _ rfl (by decide) hr'
    obtain ⟨r2, b1, b2⟩ := rk53_go C (k4 := s_X14_rankOf_4 f) (n := n) (x := x) (by omega) x 0 FU r1 _ _ (by omega) (by show x < 1000000; omega) a2
    have step : isRk (Z 168) (x + 1) r2 := by
      refine b2.congr ⟨fun u => ?_, fun u => ?_⟩ ⟨fun u => ?_, fun u => ?_⟩ ⟨fun u => ?_, fun u => ?_⟩
      · rcases u with ⟨p, q, s, c1, c2, c3, c4⟩ | ⟨y', z', -, c2, c3, c4⟩
        · exact ⟨p, q, s, c1, c2, by omega, c4⟩
        · refine ⟨z', y', x, c3, c2, by omega, fun z => c4 ?_⟩
          rw [dt3_rev (Z 168) x y' z'] at z
          exact i64_neg0.mp z
      · obtain ⟨p, q, s, c1, c2, c3, c4⟩ := u
        by_cases w : s = x
        · subst w
          refine Or.inr ⟨q, p, Nat.zero_le q, c2, c1, fun z => c4 ?_⟩
          rw [dt3_rev (Z 168) s q p]
          exact i64_neg0.mpr z
        · exact Or.inl ⟨p, q, s, c1, c2, by omega, c4⟩
      · rcases u with ⟨p, q, c1, c2, c3⟩ | ⟨y', -, c2, c3⟩
        · exact ⟨p, q, c1, by omega, c3⟩
        · exact ⟨y', x, c2, by omega, apt_rev.mpr c3⟩
      · obtain ⟨p, q, c1, c2, c3⟩ := u
        by_cases w : q = x
        · subst w
          exact Or.inr ⟨p, Nat.zero_le p, c1, apt_rev.mp c3⟩
        · exact Or.inl ⟨p, q, c1, by omega, c3⟩
      · rcases u with ⟨j, c1, c2⟩ | ⟨j', -, c2, c3⟩
        · exact ⟨j, by omega, c2⟩
        · exact ⟨x * 3 + j', by omega, c3⟩
      · obtain ⟨j, c1, c2⟩ := u
        by_cases w : j < x * 3
        · exact Or.inl ⟨j, w, c2⟩
        · refine Or.inr ⟨j - x * 3, Nat.zero_le _, by omega, ?_⟩
          rw [show x * 3 + (j - x * 3) = j by omega]
          exact c2
    obtain ⟨r', i1, i2⟩ := rk4_go C hn k (x + 1) f r2 (by omega) (by omega) step
    refine ⟨r', ?_, i2⟩
    show s_X14_rankOf_4_b (s_X14_rankOf_4 f) 104 (jI n) r (jI x) h = _
    unfold s_X14_rankOf_4_b
    rw [if_neg (fun u => by have := (jI_le (by omega) (by omega)).mp u; omega)]
    exact a1.trans (b1.trans i1)
theorem RC.rankOf (C : RC h S wd t fv nv V Z A m F B W G) {n : Nat} (hn : n ≤ 6) : ∃ r, s_X14_rankOf 104 (jI n) h = some (.inl (some (.int r)), h) ∧ isRk (Z 168) n r :=
  rk4_go C hn n 0 FU 0 (by omega) (by show n < 1000000; omega) (Or.inr (Or.inr (Or.inr ⟨rfl, fun ⟨_, _, _, _, _, h, _⟩ => absurd h (Nat.not_lt_zero _), fun ⟨_, _, _, h, _⟩ => absurd h (Nat.not_lt_zero _), fun ⟨_, h, _⟩ => absurd h (by omega)⟩)))
end
/-! one rank -/
theorem isRk_congr {R R' : Nat → Int64} {n : Nat} {r : Int32} (h : ∀ j, j < n * 3 → R j = R' j) (hr : isRk R n r) : isRk R' n r := by
  have hd : ∀ x y z, x < n → y < n → z < n → dt3 R x y z = dt3 R' x y z := fun x y z hx hy hz => by
    unfold dt3
    rw [h (x * 3) (by omega), h (x * 3 + 1) (by omega), h (x * 3 + 2) (by omega), h (y * 3) (by omega), h (y * 3 + 1) (by omega), h (y * 3 + 2) (by omega), h (z * 3) (by omega), h (z * 3 + 1) (by omega), h (z * 3 + 2) (by omega)]
  have hm : ∀ x y i j, x < n → y < n → i < 3 → j < 3 → mn2 R x y i j = mn2 R' x y i j := fun x y i j hx hy hi hj => by
    unfold mn2
    rw [h (x * 3 + i) (by omega), h (x * 3 + j) (by omega), h (y * 3 + i) (by omega), h (y * 3 + j) (by omega)]
  have ha : ∀ x y, x < n → y < n → (apt R x y ↔ apt R' x y) := fun x y hx hy => by
    unfold apt
    rw [hm x y 0 1 hx hy (by decide) (by decide), hm x y 0 2 hx hy (by decide) (by decide), hm x y 1 2 hx hy (by decide) (by decide)]
  refine isR3.congr hr ⟨fun ⟨x, y, z, a1, a2, a3, a4⟩ => ⟨x, y, z, a1, a2, a3, by rw [← hd x y z (by omega) (by omega) a3]; exact a4⟩, fun ⟨x, y, z, a1, a2, a3, a4⟩ => ⟨x, y, z, a1, a2, a3, by rw [hd x y z (by omega) (by omega) a3]; exact a4⟩⟩ ⟨fun ⟨x, y, a1, a2, a3⟩ => ⟨x, y, a1, a2, (ha x y (by omega) a2).mp a3⟩, fun ⟨x, y, a1, a2, a3⟩ => ⟨x, y, a1, a2, (ha x y (by omega) a2).mpr a3⟩⟩ ⟨fun ⟨j, a1, a2⟩ => ⟨j, a1, by rw [← h j a1]; exact a2⟩, fun ⟨j, a1, a2⟩ => ⟨j, a1, by rw [h j a1]; exact a2⟩⟩
theorem rank_one {see : Bool} {a c : Nat → Nat → Int32} {ln n : Nat} {R R' : Nat → Int64} {r r' : Int32} (h1 : isCv see a c ln (ln * n) R) (h2 : isCv see a c ln (ln * n) R') (k1 : isRk R (ln * n) r) (k2 : isRk R' (ln * n) r') : r = r' := by
  have e : ∀ j, j < ln * n * 3 → R j = R' j := fun j hj => by
    have hl : 0 < ln := by
      by_cases u : ln = 0
      · rw [u] at hj; omega
      · omega
    have := isCv_uniq hl h1 h2 (j / 3) (Or.inl (by omega)) (j % 3) (by omega)
    rw [show j / 3 * 3 + j % 3 = j by omega] at this
    exact this
  exact isR3.uniq (isRk_congr e k1) k2
/-! what there isn't has only 0 -/
theorem addT_z {nm am : Int32} {P P' : Nat → Int32} {k : Nat} (h : addT nm am P = some P') (hn : 0 ≤ nm → nm.toNatClampNeg ≠ k) : P' k = P k := by
  unfold addT at h
  by_cases q : nm < 0
  · rw [if_pos q] at h
    cases h
    rfl
  · rw [if_neg q] at h
    by_cases q1 : am < -20
    · rw [if_pos q1] at h; cases h
    · rw [if_neg q1] at h
      by_cases q2 : am ≤ 20
      · rw [if_pos q2] at h
        cases h
        exact upd_ne (fun e => hn (i32_nlt.mp q) e.symm)
      · rw [if_neg q2] at h; cases h
theorem lnG_z {lo : Nat → Int32} {k : Nat} : ∀ (l : List pFa) (nm am : Int32) (P P' : Nat → Int32), lnG lo l nm am P = some P' → (0 ≤ nm → nm.toNatClampNeg ≠ k) → (∀ a ∈ l, 0 ≤ a.2.1 → a.2.1.toNatClampNeg ≠ k) → P' k = P k
  | [], nm, am, P, P', h, hn, _ => addT_z h hn
  | a :: r, nm, am, P, P', h, hn, hl => by
    have hr := fun x hx => hl x (List.mem_cons_of_mem a hx)
    have u : lnG lo (a :: r) nm am P = ((if a.1 = 2 then some (nm, am, P) else (addT nm am P).bind fun P' => some (-1, if a.1 = 1 then -1 else 1, P')).bind fun x => if 0 ≤ a.2.1 ∧ a.2.1 < 7 then (if 0 ≤ x.1 then none else lnG lo r a.2.1 x.2.1 x.2.2) else lnG lo r x.1 (cl6 (x.2.1 * (if a.2.1 < 0 then a.2.2 else lo a.2.1.toNatClampNeg))) x.2.2) := rfl
    rw [u] at h
    have key : ∀ (nm' am' : Int32) (Q : Nat → Int32), Q k = P k → (0 ≤ nm' → nm'.toNatClampNeg ≠ k) → (if 0 ≤ a.2.1 ∧ a.2.1 < 7 then (if 0 ≤ nm' then none else lnG lo r a.2.1 am' Q) else lnG lo r nm' (cl6 (am' * (if a.2.1 < 0 then a.2.2 else lo a.2.1.toNatClampNeg))) Q) = some P' → P' k = P k := by
      intro nm' am' Q hQ hn' h'
      by_cases q : 0 ≤ a.2.1 ∧ a.2.1 < 7
      · rw [if_pos q] at h'
        by_cases w : 0 ≤ nm'
        · rw [if_pos w] at h'; cases h'
        · rw [if_neg w] at h'
          exact (lnG_z r _ _ _ _ h' (hl a List.mem_cons_self) hr).trans hQ
      · rw [if_neg q] at h'
        exact (lnG_z r _ _ _ _ h' hn' hr).trans hQ
    by_cases j2 : a.1 = 2
    · rw [if_pos j2, Option.bind_some] at h
      exact key nm am P rfl hn h
    · rw [if_neg j2] at h
      cases ea : addT nm am P with
      | none => rw [ea] at h; cases h
      | some P1 =>
        rw [ea, Option.bind_some, Option.bind_some] at h
        exact key (-1) _ P1 (addT_z ea hn) (fun z => absurd z (by decide)) h
/-- a slot that is not told of -/
def noSl (m : Nat → Nat) (k : Nat) : Prop := (k < 3 ∧ m 0 ≤ k) ∨ (3 ≤ k ∧ k < 5 ∧ m 1 ≤ k - 3)
theorem noSl_ne {m : Nat → Nat} (h3 : m 0 ≤ 3) (h2 : m 1 ≤ 2) {k s : Nat} (h : noSl m k) (hd : decl m s) : s ≠ k := by
  unfold noSl at h
  unfold decl at hd
  omega
theorem lk1_z {A : Nat → Nat → Int32} {m F : Nat → Nat} (K : okW A m F) (hS : okSt A m F) {k : Nat} (hk : noSl m k) : ∀ (n i : Nat) (Q : Nat → Bool) (M : Nat → Nat → Int32) (y : (Nat → Bool) × (Nat → Nat → Int32)), i + n = F 4 → lk1 false A n i Q M = some y → (∀ s, Q s = true → s < m 0 ∧ M s k = 0) → ∀ s, y.1 s = true → s < m 0 ∧ y.2 s k = 0
  | 0, i, Q, M, y, _, e, hQ, s, h => by
    have e' : some (Q, M) = some y := e
    cases e'
    exact hQ s h
  | n + 1, i, Q, M, y, hi, e, hQ, s, h => by
    have h3 := K.1.1.1
    have h2 := K.1.1.2.1
    obtain ⟨s', hs', es⟩ := hS i (by omega)
    have ecl : (A 5 i).toNatClampNeg = s' := by rw [es, jI_cl (by omega)]
    have u2 : lk1 false A (n + 1) i Q M = if (sgo A 8 9 i).isEmpty = true ∧ Q s' = false then (lnG (A 3) (sgm A 6 7 i) (-1) 0 (fun _ => 0)).bind fun P => lk1 false A n (i + 1) (upd2 Q s' true) (upd2 M s' P) else none := by rw [← ecl]; rfl
    rw [u2] at e
    by_cases cnd : (sgo A 8 9 i).isEmpty = true ∧ Q s' = false
    · rw [if_pos cnd] at e
      cases eP : lnG (A 3) (sgm A 6 7 i) (-1) 0 (fun _ => 0) with
      | none => rw [eP] at e; cases e
      | some P =>
        rw [eP, Option.bind_some] at e
        refine lk1_z K hS hk n (i + 1) _ _ y (by omega) e (fun r hr => ?_) s h
        by_cases u : r = s'
        · rw [u, upd2_eq]
          exact ⟨hs', lnG_z _ _ _ _ _ eP (fun z => absurd z (by decide)) (fun a ha hge => noSl_ne h3 h2 hk ((K.2.1.1 i (by omega)).1 a ha hge))⟩
        · rw [upd2_ne u] at hr ⊢
          exact hQ r hr
    · rw [if_neg cnd] at e; cases e
theorem lk2_z {A : Nat → Nat → Int32} {m F : Nat → Nat} (K : okW A m F) {k : Nat} (hk : noSl m k) : ∀ (n j : Nat) (M c : Nat → Nat → Int32), j + n = m 4 → lk2 false A n j M = some c → (∀ r, M r k = 0) → ∀ r, c r k = 0
  | 0, j, M, c, _, e, hM, r => by
    have e' : some M = some c := e
    cases e'
    exact hM r
  | n + 1, j, M, c, hi, e, hM, r => by
    have h3 := K.1.1.1
    have h2 := K.1.1.2.1
    have u2 : lk2 false A (n + 1) j M = (lnG (A 3) (sgm A 10 11 j) (-1) 0 (fun _ => 0)).bind fun P => lk2 false A n (j + 1) (upd2 M j P) := rfl
    rw [u2] at e
    cases eP : lnG (A 3) (sgm A 10 11 j) (-1) 0 (fun _ => 0) with
    | none => rw [eP] at e; cases e
    | some P =>
      rw [eP, Option.bind_some] at e
      refine lk2_z K hk n (j + 1) _ c (by omega) e (fun r => ?_) r
      by_cases u : r = j
      · rw [u, upd2_eq]
        exact lnG_z _ _ _ _ _ eP (fun z => absurd z (by decide)) (fun a ha hge => noSl_ne h3 h2 hk (K.2.1.2 j (by omega) a ha hge))
      · rw [upd2_ne u]
        exact hM r
theorem lin_z {A : Nat → Nat → Int32} {m F : Nat → Nat} (K : okW A m F) (hS : okSt A m F) {a c : Nat → Nat → Int32} (h : lin false A m F = some (a, c)) : okZ a c m := by
  have h3 := K.1.1.1
  unfold lin at h
  cases e5 : lk1 false A (F 4) 0 (fun _ => false) (fun _ _ => 0) with
  | none => rw [e5] at h; cases h
  | some q =>
    cases e6 : lk2 false A (m 4) 0 (fun _ _ => 0) with
    | none => rw [e5, e6] at h; cases h
    | some c' =>
      rw [e5, e6] at h
      have h' : some (rwS q.1 q.2 (m 0), c') = some (a, c) := h
      cases h'
      have z1 : ∀ k, noSl m k → ∀ s, q.1 s = true → s < m 0 ∧ q.2 s k = 0 := fun k hk => lk1_z K hS hk (F 4) 0 _ _ q (by omega) e5 (fun s z => Bool.noConfusion z)
      have z2 : ∀ k, noSl m k → ∀ r, c r k = 0 := fun k hk => lk2_z K hk (m 4) 0 _ c (by omega) e6 (fun _ => rfl)
      have dom : ∀ s, q.1 s = true → s < m 0 := fun s hs => by
        by_cases w : m 0 ≤ 2
        · exact (z1 2 (Or.inl ⟨by decide, w⟩) s hs).1
        · have := lk1_dom hS h3 (F 4) 0 _ _ q (by omega) e5 (fun s z => Bool.noConfusion z) s hs
          omega
      have row : ∀ r k, (m 0 ≤ r ∨ noSl m k) → rwS q.1 q.2 (m 0) r k = 0 := fun r k hrk => by
        unfold rwS
        by_cases u : q.1 r = true
        · rw [if_pos u]
          rcases hrk with w | w
          · exact absurd (dom r u) (by omega)
          · exact (z1 k w r u).2
        · rw [if_neg u]
          by_cases w : r < m 0
          · rw [if_pos w]
            rcases hrk with v | v
            · omega
            · show (if k = r then (1 : Int32) else 0) = 0
              rw [if_neg]
              intro e
              unfold noSl at v
              omega
          · rw [if_neg w]
      refine ⟨fun r k hr hk hz => row r k (hz.imp id (fun z => Or.inl ⟨hk, z⟩)), fun r k hr hk hz => row r (3 + k) (hz.imp id (fun z => Or.inr ⟨by omega, by omega, by omega⟩)), fun r k hr hk hz => ?_⟩
      rcases hz with w | w
      · have := lk2_keep (m 4) 0 (fun _ _ => 0) c e6 r (by omega)
        rw [this]
      · exact z2 k (Or.inl ⟨hk, w⟩) r
