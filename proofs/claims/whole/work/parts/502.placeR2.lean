/-! the reference's place: sums of powers, gains -/
def rP (a : Nat → Nat → Int32) : Nat → Nat → Int64
  | 0, j => idL j
  | d + 1, j => mulV true a (rP a d) (j / 3) (j % 3)
def byS (n : Nat) (z0 z1 z2 : Int32) (d : Nat) : Int64 := if d = n then 1 else if d = 0 then z0.toInt64 else if d = 1 then z1.toInt64 else z2.toInt64
def tdS (a : Nat → Nat → Int32) (g : Nat → Int64) : Nat → Nat → Int64
  | 0, _ => 0
  | d + 1, j => tdS a g d j + g d * rP a d j
def lastV (n : Nat) (R : Nat → Int64) (k : Nat) : Int64 := if n = 1 then 1 else if n = 2 then (if k = 0 then -R 1 else R 0) else R ((k + 1) % 3) * R (3 + (k + 2) % 3) - R ((k + 2) % 3) * R (3 + (k + 1) % 3)
def detV (n : Nat) (R : Nat → Int64) : Int64 := if n = 1 then R 0 else if n = 2 then R 0 * R 4 - R 1 * R 3 else dt3 R 0 1 2
def ovS (n : Nat) (R td : Nat → Int64) (i : Nat) : Int64 := -(sm3 (fun k => lastV n R k * td (k * 3 + i)) 0 n 0)
section
variable {wd : Int64} {t : Nat} {fv nv : Value} {A : Nat → Nat → Int32} {m F : Nat → Nat} {B : Nat → Nat → Int32} {W : Nat → Int64} {G : Nat → Nat} {S : Nat → Int32} {V : Nat → Nat → Int32} {a c : Nat → Nat → Int32}
theorem last_at {h : aH} {Z : Nat → Nat → Int64} (C : RC h S wd t fv nv V Z A m F B W G) {k n : Nat} (hk : k < 3) (hn1 : 1 ≤ n) (hn3 : n ≤ 3) : s_X14_last 104 (jI k) (jI n) h = some (.inl (some (.long (lastV n (Z 168) k))), h) := by
  have g51 : gO h (.ref 104) 14 51 = some 168 := gO_of (ltE (by decide)) C.1.1 rfl
  have l : ∀ j, j < 18 → ldJ h (.ref 168) (jI j) = some (Z 168 j) := fun j hj => C.1.ldJ (a := 168) rfl hj
  unfold s_X14_last lastV
  by_cases q1 : n = 1
  · rw [if_pos (show jI n = 1 by rw [q1]; rfl), if_pos q1]
  · rw [if_neg (show ¬ jI n = 1 from fun z => q1 ((jI_inj (k := 1) (by omega) (by omega)).mp z)), if_neg q1]
    by_cases q2 : n = 2
    · rw [if_pos (show jI n = 2 by rw [q2]; rfl), if_pos q2]
      by_cases q3 : k = 0
      · have l1 : ldJ h (.ref 168) 1 = some (Z 168 1) := l 1 (by decide)
        rw [if_pos (show jI k = 0 by rw [q3]; rfl), if_pos q3, g51, Option.bind_some, l1, Option.bind_some]
      · have l0 : ldJ h (.ref 168) 0 = some (Z 168 0) := l 0 (by decide)
        rw [if_neg (show ¬ jI k = 0 from fun z => q3 ((jI_inj (k := 0) (by omega) (by omega)).mp z)), if_neg q3, g51, Option.bind_some, l0, Option.bind_some]
    · have m1 : jI (k + 1) - jI (k + 1) / 3 * 3 = jI ((k + 1) % 3) := jI_mod (w := 3) (by omega) (by decide) (by decide)
      have m2 : jI (k + 2) - jI (k + 2) / 3 * 3 = jI ((k + 2) % 3) := jI_mod (w := 3) (by omega) (by decide) (by decide)
      have a3 : ∀ x, (3 : Int32) + jI x = jI (3 + x) := fun x => by rw [show (3 : Int32) = jI 3 from rfl, jI_add]
      rw [if_neg (show ¬ jI n = 2 from fun z => q2 ((jI_inj (k := 2) (by omega) (by omega)).mp z)), if_neg q2, nz_of (by decide), nz_of (by decide), g51, Option.bind_some, jI_inc, jI_a2, m1, m2, a3, a3, l _ (by omega), Option.bind_some, Option.bind_some, l _ (by omega), Option.bind_some, Option.bind_some, l _ (by omega), Option.bind_some, Option.bind_some, l _ (by omega), Option.bind_some]
theorem pl341_go {k328 : Nat → Int32 → Int64 → Int32 → aH → aO} {n i : Nat} {det : Int64} (hi : i < n) (hn3 : n ≤ 3) {h : aH} {Z : Nat → Nat → Int64} (C : RC h S wd t fv nv V Z A m F B W G) {x : Int64} (bx : bd62 x) (bd : bd62 det) (d0 : det ≠ 0) (x50 : x.toInt.natAbs < 2 ^ 50) : ∀ (r k f : Nat) (acc : Int64), k + r = n → r < f → -(sm3 (fun k => lastV n (Z 168) k * Z 172 (k * 3 + i)) k r acc) = x →
    ∃ h' Z', s_X14_place_341 k328 f 104 (jI n) det (jI i) acc (jI k) h = k328 104 (jI n) det (jI (i + 1)) h' ∧ RC h' S wd t fv nv V Z' A m F B W G ∧ Ou h h' ∧ SmZ [169, 170] Z Z' ∧ (∀ j, j ≠ i → Z' 169 j = Z 169 j ∧ Z' 170 j = Z 170 j) ∧ Z' 169 i = sgR x det (Nat.gcd x.toInt.natAbs det.toInt.natAbs) ∧ Z' 170 i = sgR det det (Nat.gcd x.toInt.natAbs det.toInt.natAbs)
  | _, _, 0, _, _, hf, _ => by omega
  | 0, k, f + 1, acc, hk, hf, hx => by
    have g52 : gO h (.ref 104) 14 52 = some 169 := gO_of (ltE (by decide)) C.1.1 rfl
    obtain ⟨h1, e1, X1, O1⟩ := C.1.stJ (a := 169) (j := i) rfl (show i < 3 by omega) x
    have C1 := C.to X1 O1
    have g53 : gO h1 (.ref 104) 14 53 = some 170 := gO_of (ltE (by decide)) C1.1.1 rfl
    obtain ⟨h2, e2, X2, O2⟩ := C1.1.stJ (a := 170) (j := i) rfl (show i < 3 by omega) det
    have C2 := C1.to X2 O2
    rw [upd2_ne (show (170 : Nat) ≠ 169 by decide)] at C2
    obtain ⟨Z2, hZ2⟩ : ∃ Z2, Z2 = upd2 (upd2 Z 169 (vp_updL (Z 169) i x)) 170 (vp_updL (Z 170) i det) := ⟨_, rfl⟩
    have z169 : Z2 169 = vp_updL (Z 169) i x := by rw [hZ2, upd2_ne (by decide), upd2_eq]
    have z170 : Z2 170 = vp_updL (Z 170) i det := by rw [hZ2, upd2_eq]
    have s2 : SmZ [169, 170] Z Z2 := by rw [hZ2]; exact (SmZ.refl.upd (by decide)).upd (by decide)
    rw [← hZ2] at C2
    obtain ⟨h3, e3, C3, O3⟩ := reduces_at C2 (i := i) (by omega) (x := x) (y := det) (by rw [z169, updL_eq]) (by rw [z170, updL_eq]) bx bd d0 x50
    refine ⟨h3, _, ?_, C3, (O1.trans O2).trans O3, s2.trans ((SmZ.refl.upd (by decide)).upd (by decide)), fun j hj => ⟨?_, ?_⟩, ?_, ?_⟩
    · show s_X14_place_341_b k328 (s_X14_place_341 k328 f) 104 (jI n) det (jI i) acc (jI k) h = _
      unfold s_X14_place_341_b
      have hx' : -acc = x := hx
      rw [if_pos ((jI_le (by omega) (by omega)).mpr (by omega)), g52, Option.bind_some, hx', e1, Option.bind_some, g53, Option.bind_some, e2, Option.bind_some, C2.kO, e3]
      simp only [cN]
      rw [jI_inc]
    · rw [upd2_ne (by decide), upd2_eq, updL_ne hj, z169, updL_ne hj]
    · rw [upd2_eq, updL_ne hj, z170, updL_ne hj]
    · rw [upd2_ne (by decide), upd2_eq, updL_eq]
    · rw [upd2_eq, updL_eq]
  | r + 1, k, f + 1, acc, hk, hf, hx => by
    have g55 : gO h (.ref 104) 14 55 = some 172 := gO_of (ltE (by decide)) C.1.1 rfl
    have l172 : ldJ h (.ref 172) (jI (k * 3 + i)) = some (Z 172 (k * 3 + i)) := C.1.ldJ (a := 172) rfl (show k * 3 + i < 9 by omega)
    obtain ⟨h', Z', i1, i2⟩ := pl341_go (k328 := k328) hi hn3 C bx bd d0 x50 r (k + 1) f (acc + lastV n (Z 168) k * Z 172 (k * 3 + i)) (by omega) (by omega) hx
    refine ⟨h', Z', ?_, i2⟩
    show s_X14_place_341_b k328 (s_X14_place_341 k328 f) 104 (jI n) det (jI i) acc (jI k) h = _
    unfold s_X14_place_341_b
    rw [if_neg (fun u => by have := (jI_le (by omega) (by omega)).mp u; omega), C.kO, last_at C (by omega) (by omega) hn3]
    simp only [cJ]
    rw [g55, Option.bind_some, jI_3', jI_add, l172, Option.bind_some, jI_inc]
    exact i1
theorem pl328_go {n : Nat} {det : Int64} (hn3 : n ≤ 3) (bd : bd62 det) (d0 : det ≠ 0) {R td : Nat → Int64} (bo : ∀ i, i < n → (ovS n R td i).toInt.natAbs < 2 ^ 50) : ∀ (r i f : Nat) (h : aH) (Z : Nat → Nat → Int64), i + r = n → r < f → RC h S wd t fv nv V Z A m F B W G → Z 168 = R → (∀ j, j < 9 → Z 172 j = td j) →
    ∃ h' Z', s_X14_place_328 f 104 (jI n) det (jI i) h = some (.inl (some (.int (jI n))), h') ∧ RC h' (twS (upd S 56 (jI n)) 0) wd t fv nv V Z' A m F B W G ∧ Ou h h' ∧ SmZ [169, 170] Z Z' ∧ (∀ j, (j < i ∨ n ≤ j) → Z' 169 j = Z 169 j ∧ Z' 170 j = Z 170 j) ∧ ∀ j, i ≤ j → j < n → Z' 169 j = sgR (ovS n R td j) det (Nat.gcd (ovS n R td j).toInt.natAbs det.toInt.natAbs) ∧ Z' 170 j = sgR det det (Nat.gcd (ovS n R td j).toInt.natAbs det.toInt.natAbs)
  | _, _, 0, _, _, _, hf, _, _, _ => by omega
  | 0, i, f + 1, h, Z, hi, hf, C, hR, ht => by
    obtain ⟨h1, e1, X1, O1⟩ := C.1.pS (k := 56) rfl (jI n)
    have C1 := C.toS X1 O1 ⟨upd_ne (by decide), upd_ne (by decide), upd_ne (by decide), upd_ne (by decide)⟩
    obtain ⟨h2, e2, C2, O2⟩ := C1.done (jI n)
    refine ⟨h2, Z, ?_, C2, O1.trans O2, SmZ.refl, fun _ _ => ⟨rfl, rfl⟩, fun j h1 h2 => by omega⟩
    show s_X14_place_328_b (s_X14_place_328 f) 104 (jI n) det (jI i) h = _
    unfold s_X14_place_328_b
    rw [if_pos ((jI_le (by omega) (by omega)).mpr (by omega)), e1, Option.bind_some, C1.kO, e2]
    rfl
  | r + 1, i, f + 1, h, Z, hi, hf, C, hR, ht => by
    have sm_cg : ∀ (r k : Nat) (acc : Int64), k + r = n → sm3 (fun k => lastV n (Z 168) k * Z 172 (k * 3 + i)) k r acc = sm3 (fun k => lastV n R k * td (k * 3 + i)) k r acc := by
      intro r
      induction r with
      | zero => intro k acc _; rfl
      | succ r ih =>
        intro k acc hk
        show sm3 _ (k + 1) r (acc + lastV n (Z 168) k * Z 172 (k * 3 + i)) = sm3 _ (k + 1) r (acc + lastV n R k * td (k * 3 + i))
        rw [ih (k + 1) _ (by omega), hR, ht (k * 3 + i) (by omega)]
    obtain ⟨h1, Z1, e1, C1, O1, s1, k1, v1, w1⟩ := pl341_go (k328 := s_X14_place_328 f) (i := i) (det := det) (by omega) hn3 C (x := ovS n R td i) (by have := bo i (by omega); unfold bd62; omega) bd d0 (bo i (by omega)) n 0 FU 0 (by omega) (by show n < 1000000; omega) (by rw [sm_cg n 0 0 (by omega)]; rfl)
    obtain ⟨h', Z', i1, i2, i3, i4, i5, i6⟩ := pl328_go hn3 bd d0 bo r (i + 1) f h1 Z1 (by omega) (by omega) C1 (by rw [s1 168 (by decide)]; exact hR) (fun j hj => by rw [s1 172 (by decide)]; exact ht j hj)
    refine ⟨h', Z', ?_, i2, O1.trans i3, s1.trans i4, fun j hj => ?_, fun j h1 h2 => ?_⟩
    · show s_X14_place_328_b (s_X14_place_328 f) 104 (jI n) det (jI i) h = _
      unfold s_X14_place_328_b
      rw [if_neg (fun u => by have := (jI_le (by omega) (by omega)).mp u; omega)]
      exact e1.trans i1
    · obtain ⟨q1, q2⟩ := i5 j (by omega)
      obtain ⟨q3, q4⟩ := k1 j (by omega)
      exact ⟨q1.trans q3, q2.trans q4⟩
    · by_cases u : j = i
      · obtain ⟨q1, q2⟩ := i5 j (by omega)
        subst u
        exact ⟨q1.trans v1, q2.trans w1⟩
      · exact i6 j (by omega) h2
theorem det_at {h : aH} {Z : Nat → Nat → Int64} (C : RC h S wd t fv nv V Z A m F B W G) {n d f : Nat} {z0 z1 z2 : Int32} (hn1 : 1 ≤ n) (hn3 : n ≤ 3) (hd : n < d) (hd2 : d < 10) : s_X14_place_176 (f + 1) 104 z0 z1 z2 (jI n) (jI d) h = s_X14_place_328 FU 104 (jI n) (detV n (Z 168)) 0 h := by
  have g51 : gO h (.ref 104) 14 51 = some 168 := gO_of (ltE (by decide)) C.1.1 rfl
  have l : ∀ j, j < 18 → ldJ h (.ref 168) (jI j) = some (Z 168 j) := fun j hj => C.1.ldJ (a := 168) rfl hj
  have l0 : ldJ h (.ref 168) 0 = some (Z 168 0) := l 0 (by decide)
  have l1 : ldJ h (.ref 168) 1 = some (Z 168 1) := l 1 (by decide)
  have l3 : ldJ h (.ref 168) 3 = some (Z 168 3) := l 3 (by decide)
  have l4 : ldJ h (.ref 168) 4 = some (Z 168 4) := l 4 (by decide)
  show s_X14_place_176_b (s_X14_place_176 f) 104 z0 z1 z2 (jI n) (jI d) h = _
  unfold s_X14_place_176_b detV
  rw [if_pos ((jI_lt (by omega) (by omega)).mpr hd)]
  by_cases q1 : n = 1
  · rw [if_pos (show jI n = 1 by rw [q1]; rfl), if_pos q1, g51, Option.bind_some, l0, Option.bind_some]
    rfl
  · rw [if_neg (show ¬ jI n = 1 from fun z => q1 ((jI_inj (k := 1) (by omega) (by omega)).mp z)), if_neg q1]
    by_cases q2 : n = 2
    · rw [if_pos (show jI n = 2 by rw [q2]; rfl), if_pos q2, g51, Option.bind_some, l0, Option.bind_some, Option.bind_some, l4, Option.bind_some, Option.bind_some, l1, Option.bind_some, Option.bind_some, l3, Option.bind_some]
      rfl
    · have t3 : s_X14_three 104 0 1 2 h = some (.inl (some (.long (dt3 (Z 168) 0 1 2))), h) := three_at C (x := 0) (y := 1) (z := 2) (by decide) (by decide) (by decide)
      rw [if_neg (show ¬ jI n = 2 from fun z => q2 ((jI_inj (k := 2) (by omega) (by omega)).mp z)), if_neg q2, C.kO, t3]
      rfl
theorem pl176_go {z0 z1 z2 : Int32} {n : Nat} (hn1 : 1 ≤ n) (hn3 : n ≤ 3) (hA : okLr V a c) : ∀ (r d f : Nat) (h : aH) (Z : Nat → Nat → Int64), d + r = n + 1 → r < f → RC h S wd t fv nv V Z A m F B W G → (∀ j, j < 9 → Z 171 j = rP a d j ∧ Z 172 j = tdS a (byS n z0 z1 z2) d j) →
    ∃ h' Z', s_X14_place_176 f 104 z0 z1 z2 (jI n) (jI d) h = s_X14_place_328 FU 104 (jI n) (detV n (Z 168)) 0 h' ∧ RC h' S wd t fv nv V Z' A m F B W G ∧ Ou h h' ∧ SmZ [171, 172, 173] Z Z' ∧ ∀ j, j < 9 → Z' 172 j = tdS a (byS n z0 z1 z2) (n + 1) j
  | _, _, 0, _, _, _, hf, _, _ => by omega
  | 0, d, f + 1, h, Z, hd, hf, C, hz => by
    refine ⟨h, Z, det_at C hn1 hn3 (by omega) (by omega), C, Ou.refl, SmZ.refl, fun j hj => ?_⟩
    have e : d = n + 1 := by omega
    rw [← e]
    exact (hz j hj).2
  | r + 1, d, f + 1, h, Z, hd, hf, C, hz => by
    have step : s_X14_place_176 (f + 1) 104 z0 z1 z2 (jI n) (jI d) h = s_X14_place_222 (s_X14_place_176 f) FU 104 z0 z1 z2 (jI n) (jI d) (byS n z0 z1 z2 d) 0 h := by
      show s_X14_place_176_b (s_X14_place_176 f) 104 z0 z1 z2 (jI n) (jI d) h = _
      unfold s_X14_place_176_b byS
      rw [if_neg (fun u => by have := (jI_lt (by omega) (by omega)).mp u; omega)]
      by_cases q1 : d = n
      · rw [if_pos (by rw [q1]), if_pos q1]
        rfl
      · rw [if_neg (fun z => q1 ((jI_inj (by omega) (by omega)).mp z)), if_neg q1]
        by_cases q2 : d = 0
        · rw [if_pos (show jI d = 0 by rw [q2]; rfl), if_pos q2]
          rfl
        · rw [if_neg (show ¬ jI d = 0 from fun z => q2 ((jI_inj (k := 0) (by omega) (by omega)).mp z)), if_neg q2]
          by_cases q3 : d = 1
          · rw [if_pos (show jI d = 1 by rw [q3]; rfl), if_pos q3]
            rfl
          · rw [if_neg (show ¬ jI d = 1 from fun z => q3 ((jI_inj (k := 1) (by omega) (by omega)).mp z)), if_neg q3]
            rfl
    obtain ⟨h1, Z1, e1, C1, O1, s1, v1, -, w1⟩ := pl222_go (k176 := s_X14_place_176 f) (z0 := z0) (z1 := z1) (z2 := z2) (n4 := jI n) (d := d) (y := byS n z0 z1 z2 d) hA 9 0 FU h Z rfl (by decide) C
    have z168 : Z1 168 = Z 168 := s1 168 (by decide)
    obtain ⟨h', Z', i1, i2, i3, i4, i5⟩ := pl176_go (z0 := z0) (z1 := z1) (z2 := z2) hn1 hn3 hA r (d + 1) f h1 Z1 (by omega) (by omega) C1 (fun j hj => ⟨by
      rw [v1 j hj]
      exact mulV_cg (fun i hi => (hz _ (by omega)).1), by
      rw [w1 j (Nat.zero_le j) hj, (hz j hj).1, (hz j hj).2]
      rfl⟩)
    refine ⟨h', Z', ?_, i2, O1.trans i3, s1.trans i4, i5⟩
    rw [step, ← z168]
    exact e1.trans i1
/-- the reference's place, once all is asked -/
theorem RC.places {h : aH} {Z : Nat → Nat → Int64} (C : RC h S wd t fv nv V Z A m F B W G) (hA : okLr V a c) {z0 z1 z2 : Int32} {n : Nat} (hn1 : 1 ≤ n) (hn3 : n ≤ 3) {det : Int64} (hd : detV n (Z 168) = det) (bd : bd62 det) (d0 : det ≠ 0) (bo : ∀ i, i < n → (ovS n (Z 168) (tdS a (byS n z0 z1 z2) (n + 1)) i).toInt.natAbs < 2 ^ 50) :
    ∃ h' Z', s_X14_place_129 FU 104 z0 z1 z2 (jI n) 0 h = some (.inl (some (.int (jI n))), h') ∧ RC h' (twS (upd S 56 (jI n)) 0) wd t fv nv V Z' A m F B W G ∧ Ou h h' ∧ SmZ [169, 170, 171, 172, 173] Z Z' ∧ ∀ j, j < n → Z' 169 j = sgR (ovS n (Z 168) (tdS a (byS n z0 z1 z2) (n + 1)) j) det (Nat.gcd (ovS n (Z 168) (tdS a (byS n z0 z1 z2) (n + 1)) j).toInt.natAbs det.toInt.natAbs) ∧ Z' 170 j = sgR det det (Nat.gcd (ovS n (Z 168) (tdS a (byS n z0 z1 z2) (n + 1)) j).toInt.natAbs det.toInt.natAbs) := by
  obtain ⟨h1, Z1, e1, C1, O1, s1, v1⟩ := pl129_go (z0 := z0) (z1 := z1) (z2 := z2) (n4 := jI n) 9 0 FU h Z rfl (by decide) C (fun j hj => absurd hj (Nat.not_lt_zero j))
  obtain ⟨h2, Z2, e2, C2, O2, s2, v2⟩ := pl176_go (z0 := z0) (z1 := z1) (z2 := z2) hn1 hn3 hA (n + 1) 0 FU h1 Z1 (by omega) (by show n + 1 < 1000000; omega) C1 (fun j hj => v1 j hj)
  have k1 : Z1 168 = Z 168 := s1 168 (by decide)
  have z2' : Z2 168 = Z 168 := by rw [s2 168 (by decide), k1]
  obtain ⟨h3, Z3, e3, C3, O3, s3, -, v3⟩ := pl328_go (R := Z 168) hn3 bd d0 bo n 0 FU h2 Z2 (by omega) (by show n < 1000000; omega) C2 z2' v2
  refine ⟨h3, Z3, ?_, C3, (O1.trans O2).trans O3, ((s1.mono (by decide)).trans (s2.mono (by decide))).trans (s3.mono (by decide)), fun j hj => v3 j (Nat.zero_le j) hj⟩
  have e1' : s_X14_place_129 FU 104 z0 z1 z2 (jI n) 0 h = s_X14_place_176 FU 104 z0 z1 z2 (jI n) 0 h1 := e1
  have e2' : s_X14_place_176 FU 104 z0 z1 z2 (jI n) 0 h1 = s_X14_place_328 FU 104 (jI n) (detV n (Z1 168)) 0 h2 := e2
  rw [e1', e2', k1, hd]
  exact e3
end
