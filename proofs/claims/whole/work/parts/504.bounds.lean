/-! place: bounds -/
def bdI (K : Nat) (x : Int64) : Prop := x.toInt.natAbs ≤ K
section
variable {K L : Nat} {x y : Int64}
theorem bdI.mono (h : bdI K x) (hl : K ≤ L) : bdI L x := Nat.le_trans h hl
theorem bdI.add (h : bdI K x) (g : bdI L y) (hk : K + L ≤ 4611686018427387904) : bdI (K + L) (x + y) := by
  unfold bdI at *
  have e : (x + y).toInt = x.toInt + y.toInt := by
    rw [Int64.toInt_add]
    exact Int.bmod_eq_of_le (by omega) (by omega)
  rw [e]
  omega
theorem bdI.neg (h : bdI K x) (hk : K ≤ 4611686018427387904) : bdI K (-x) := by
  unfold bdI at *
  have e : (-x).toInt = -x.toInt := by
    rw [Int64.toInt_neg]
    exact Int.bmod_eq_of_le (by omega) (by omega)
  rw [e]
  omega
theorem bdI.sub (h : bdI K x) (g : bdI L y) (hk : K + L ≤ 4611686018427387904) : bdI (K + L) (x - y) := by
  unfold bdI at *
  have e : (x - y).toInt = x.toInt - y.toInt := by
    rw [Int64.toInt_sub]
    exact Int.bmod_eq_of_le (by omega) (by omega)
  rw [e]
  omega
theorem bdI.mul (h : bdI K x) (g : bdI L y) (hk : K * L ≤ 4611686018427387904) : bdI (K * L) (x * y) := by
  unfold bdI at *
  have q : (x.toInt * y.toInt).natAbs ≤ K * L := by
    rw [Int.natAbs_mul]
    exact Nat.mul_le_mul h g
  obtain ⟨z, hz⟩ : ∃ z, z = x.toInt * y.toInt := ⟨_, rfl⟩
  rw [← hz] at q
  have e : (x * y).toInt = z := by
    rw [Int64.toInt_mul, ← hz]
    exact Int.bmod_eq_of_le (by omega) (by omega)
  rw [e]
  exact q
theorem bdI.zero : bdI 0 0 := by unfold bdI; decide
theorem bdI.ofI {z : Int32} {k : Nat} (h1 : -(k : Int) ≤ z.toInt) (h2 : z.toInt ≤ k) : bdI k z.toInt64 := by
  unfold bdI
  rw [Int32.toInt_toInt64]
  omega
end
def nr20 (a : Nat → Nat → Int32) : Prop := ∀ r, r < 3 → ∀ k, k < 5 → bdI 20 (a r k).toInt64
theorem nr20_of {a c : Nat → Nat → Int32} (h : nrM a c = true) : nr20 a := fun r hr k hk => by
  have q := (nrR_iff 5 0).mp ((nrM_iff.mp h).1 r hr) k hk
  rw [Nat.zero_add] at q
  have q1 := Int32.le_iff_toInt_le.mp q.1
  have q2 := Int32.le_iff_toInt_le.mp q.2
  have z1 : (-20 : Int32).toInt = -20 := by decide
  have z2 : (20 : Int32).toInt = 20 := by decide
  rw [z1] at q1
  rw [z2] at q2
  exact bdI.ofI q1 q2
section
variable {a c : Nat → Nat → Int32}
theorem bd_mtx (ha : nr20 a) {see : Bool} {j k : Nat} (hj : j < 3) (hk : k < 3) : bdI 20 (mtx see a j k) := by
  unfold mtx
  cases see
  · exact ha k hk j (by omega)
  · exact ha j hj k (by omega)
theorem bd_mulV (ha : nr20 a) {see : Bool} {R : Nat → Int64} {l k K : Nat} (hk : k < 3) (hR : ∀ j, j < 3 → bdI K (R (l * 3 + j))) (hK : K ≤ 1000000000000) : bdI (60 * K) (mulV see a R l k) := by
  unfold mulV
  have m0 := (hR 0 (by decide)).mul (bd_mtx ha (see := see) (j := 0) (by decide) hk) (by omega)
  have m1 := (hR 1 (by decide)).mul (bd_mtx ha (see := see) (j := 1) (by decide) hk) (by omega)
  have m2 := (hR 2 (by decide)).mul (bd_mtx ha (see := see) (j := 2) (by decide) hk) (by omega)
  exact (((bdI.zero.add m0 (by omega)).add m1 (by omega)).add m2 (by omega)).mono (by omega)
theorem bd_idL (j : Nat) : bdI 1 (idL j) := by
  unfold idL
  split
  · unfold bdI; decide
  · unfold bdI; decide
theorem bd_rP (ha : nr20 a) : ∀ d, d ≤ 3 → ∀ j, j < 9 → bdI 216000 (rP a d j) ∧ (d = 2 → bdI 3600 (rP a d j)) ∧ (d = 1 → bdI 60 (rP a d j)) ∧ (d = 0 → bdI 1 (rP a d j))
  | 0, _, j, hj => ⟨(bd_idL j).mono (by decide), fun h => by omega, fun h => by omega, fun _ => bd_idL j⟩
  | 1, _, j, hj => by
    have := bd_mulV ha (see := true) (R := rP a 0) (l := j / 3) (k := j % 3) (K := 1) (by omega) (fun i hi => (bd_rP ha 0 (by omega) _ (by omega)).2.2.2 rfl) (by decide)
    exact ⟨this.mono (by decide), fun h => by omega, fun _ => this, fun h => by omega⟩
  | 2, _, j, hj => by
    have := bd_mulV ha (see := true) (R := rP a 1) (l := j / 3) (k := j % 3) (K := 60) (by omega) (fun i hi => (bd_rP ha 1 (by omega) _ (by omega)).2.2.1 rfl) (by decide)
    exact ⟨this.mono (by decide), fun _ => this, fun h => by omega, fun h => by omega⟩
  | 3, _, j, hj => by
    have := bd_mulV ha (see := true) (R := rP a 2) (l := j / 3) (k := j % 3) (K := 3600) (by omega) (fun i hi => (bd_rP ha 2 (by omega) _ (by omega)).2.1 rfl) (by decide)
    exact ⟨this, fun h => by omega, fun h => by omega, fun h => by omega⟩
  | d + 4, h, _, _ => by omega
theorem bd_td (ha : nr20 a) {g : Nat → Int64} {n : Nat} (hn : n ≤ 3) (hg : ∀ d, d ≤ n → bdI 999 (g d)) {j : Nat} (hj : j < 9) : ∀ d, d ≤ n + 1 → bdI (d * 215784000) (tdS a g d j)
  | 0, _ => by
    show bdI (0 * 215784000) 0
    unfold bdI; decide
  | d + 1, hd => by
    show bdI ((d + 1) * 215784000) (tdS a g d j + g d * rP a d j)
    have i := bd_td ha hn hg hj d (by omega)
    have q := (hg d (by omega)).mul (bd_rP ha d (by omega) j hj).1 (by decide)
    exact (i.add q (by omega)).mono (by omega)
theorem bd_Q (ha : nr20 a) {n : Nat} (hn1 : 1 ≤ n) {Q : Nat → Int64} (hQ : isCv false a c 1 (1 * n) Q) : (∀ k, k < 3 → bdI 20 (Q k)) ∧ (2 ≤ n → ∀ k, k < 3 → bdI 1200 (Q (3 + k))) ∧ (3 ≤ n → ∀ k, k < 3 → bdI 72000 (Q (6 + k))) := by
  have q0 : ∀ k, k < 3 → bdI 20 (Q k) := fun k hk => by
    have e := hQ.1 0 (by decide) k hk
    rw [show 0 * 3 + k = k by omega] at e
    rw [e]
    exact ha k hk 3 (by decide)
  have q1 : 2 ≤ n → ∀ k, k < 3 → bdI 1200 (Q (3 + k)) := fun h2 k hk => by
    have e := hQ.2 1 (by decide) (by omega) k hk
    rw [show 1 * 3 + k = 3 + k by omega] at e
    rw [e]
    exact (bd_mulV ha (K := 20) hk (fun j hj => by rw [show (1 - 1) * 3 + j = j by omega]; exact q0 j hj) (by decide)).mono (by decide)
  refine ⟨q0, q1, fun h3 k hk => ?_⟩
  have e := hQ.2 2 (by decide) (by omega) k hk
  rw [show 2 * 3 + k = 6 + k by omega] at e
  rw [e]
  exact (bd_mulV ha (K := 1200) hk (fun j hj => by rw [show (2 - 1) * 3 + j = 3 + j by omega]; exact q1 (by omega) j hj) (by decide)).mono (by decide)
theorem bd_det (ha : nr20 a) {n : Nat} (hn1 : 1 ≤ n) (hn3 : n ≤ 3) {Q : Nat → Int64} (hQ : isCv false a c 1 (1 * n) Q) : bdI 20000000000 (detV n Q) := by
  obtain ⟨q0, q1, q2⟩ := bd_Q ha hn1 hQ
  unfold detV
  by_cases h1 : n = 1
  · rw [if_pos h1]
    exact (q0 0 (by decide)).mono (by decide)
  · rw [if_neg h1]
    by_cases h2 : n = 2
    · rw [if_pos h2]
      exact (((q0 0 (by decide)).mul (q1 (by omega) 1 (by decide)) (by decide)).sub ((q0 1 (by decide)).mul (q1 (by omega) 0 (by decide)) (by decide)) (by decide)).mono (by decide)
    · rw [if_neg h2]
      have Q1 := q1 (by omega)
      have Q2 := q2 (by omega)
      have mm : ∀ {i j : Nat}, i < 3 → j < 3 → ∀ {i' j' : Nat}, i' < 3 → j' < 3 → bdI 172800000 (Q (3 + i) * Q (6 + j) - Q (3 + i') * Q (6 + j')) := fun {i j} hi hj {i' j'} hi' hj' => (((Q1 i hi).mul (Q2 j hj) (by decide)).sub ((Q1 i' hi').mul (Q2 j' hj') (by decide)) (by decide)).mono (by decide)
      have t0 : bdI 3456000000 (Q 0 * (Q 4 * Q 8 - Q 5 * Q 7)) := (q0 0 (by decide)).mul (mm (i := 1) (j := 2) (by decide) (by decide) (i' := 2) (j' := 1) (by decide) (by decide)) (by decide)
      have t1 : bdI 3456000000 (Q 1 * (Q 3 * Q 8 - Q 5 * Q 6)) := (q0 1 (by decide)).mul (mm (i := 0) (j := 2) (by decide) (by decide) (i' := 2) (j' := 0) (by decide) (by decide)) (by decide)
      have t2 : bdI 3456000000 (Q 2 * (Q 3 * Q 7 - Q 4 * Q 6)) := (q0 2 (by decide)).mul (mm (i := 0) (j := 1) (by decide) (by decide) (i' := 1) (j' := 0) (by decide) (by decide)) (by decide)
      exact ((t0.sub t1 (by decide)).add t2 (by decide)).mono (by decide)
theorem bd_last (ha : nr20 a) {n : Nat} (hn1 : 1 ≤ n) (hn3 : n ≤ 3) {Q : Nat → Int64} (hQ : isCv false a c 1 (1 * n) Q) (k : Nat) : bdI 48000 (lastV n Q k) := by
  obtain ⟨q0, q1, -⟩ := bd_Q ha hn1 hQ
  unfold lastV
  by_cases h1 : n = 1
  · rw [if_pos h1]
    unfold bdI; decide
  · rw [if_neg h1]
    by_cases h2 : n = 2
    · rw [if_pos h2]
      by_cases h3 : k = 0
      · rw [if_pos h3]
        exact ((q0 1 (by decide)).neg (by decide)).mono (by decide)
      · rw [if_neg h3]
        exact (q0 0 (by decide)).mono (by decide)
    · rw [if_neg h2]
      have Q1 := q1 (by omega)
      exact (((q0 _ (by omega)).mul (Q1 _ (by omega)) (by decide)).sub ((q0 _ (by omega)).mul (Q1 _ (by omega)) (by decide)) (by decide)).mono (by decide)
theorem bd_by {n : Nat} {z0 z1 z2 : Int32} (b0 : bdI 999 z0.toInt64) (b1 : 1 < n → bdI 999 z1.toInt64) (b2 : 2 < n → bdI 999 z2.toInt64) : ∀ d, d ≤ n → bdI 999 (byS n z0 z1 z2 d) := fun d hd => by
  unfold byS
  by_cases h1 : d = n
  · rw [if_pos h1]
    unfold bdI; decide
  · rw [if_neg h1]
    by_cases h2 : d = 0
    · rw [if_pos h2]; exact b0
    · rw [if_neg h2]
      by_cases h3 : d = 1
      · rw [if_pos h3]; exact b1 (by omega)
      · rw [if_neg h3]; exact b2 (by omega)
theorem bd_ov (ha : nr20 a) {n : Nat} (hn1 : 1 ≤ n) (hn3 : n ≤ 3) {Q : Nat → Int64} (hQ : isCv false a c 1 (1 * n) Q) {z0 z1 z2 : Int32} (b0 : bdI 999 z0.toInt64) (b1 : 1 < n → bdI 999 z1.toInt64) (b2 : 2 < n → bdI 999 z2.toInt64) {i : Nat} (hi : i < n) : (ovS n Q (tdS a (byS n z0 z1 z2) (n + 1)) i).toInt.natAbs < 2 ^ 50 := by
  have term : ∀ k, k < n → bdI 41430528000000 (lastV n Q k * tdS a (byS n z0 z1 z2) (n + 1) (k * 3 + i)) := fun k hk => by
    have t := (bd_td ha hn3 (bd_by b0 b1 b2) (j := k * 3 + i) (by omega) (n + 1) (by omega)).mono (L := 863136000) (by omega)
    exact ((bd_last ha hn1 hn3 hQ k).mul t (by decide)).mono (by decide)
  have sm : ∀ (r k : Nat) (acc : Int64), k + r = n → bdI (k * 41430528000000) acc → bdI (n * 41430528000000) (sm3 (fun k => lastV n Q k * tdS a (byS n z0 z1 z2) (n + 1) (k * 3 + i)) k r acc) := by
    intro r
    induction r with
    | zero =>
      intro k acc hk h
      have e : k = n := hk
      rw [← e]
      exact h
    | succ r ih =>
      intro k acc hk h
      exact ih (k + 1) _ (by omega) ((h.add (term k (by omega)) (by omega)).mono (by omega))
  have q := (sm n 0 0 (by omega) (bdI.zero.mono (by omega))).neg (by omega)
  have q2 : (ovS n Q (tdS a (byS n z0 z1 z2) (n + 1)) i).toInt.natAbs ≤ n * 41430528000000 := q
  omega
/-! small numbers in 32 bits -/
def b32 (K : Nat) (x : Int32) : Prop := x.toInt.natAbs ≤ K
theorem b32.add {K L : Nat} {x y : Int32} (h : b32 K x) (g : b32 L y) (hk : K + L ≤ 1073741824) : b32 (K + L) (x + y) ∧ (x + y).toInt64 = x.toInt64 + y.toInt64 := by
  unfold b32 at *
  have e : (x + y).toInt = x.toInt + y.toInt := by
    rw [Int32.toInt_add]
    exact Int.bmod_eq_of_le (by omega) (by omega)
  refine ⟨by rw [e]; omega, Int64.toInt_inj.mp ?_⟩
  rw [Int32.toInt_toInt64, e, Int64.toInt_add, Int32.toInt_toInt64, Int32.toInt_toInt64]
  exact (Int.bmod_eq_of_le (by omega) (by omega)).symm
theorem b32.sub {K L : Nat} {x y : Int32} (h : b32 K x) (g : b32 L y) (hk : K + L ≤ 1073741824) : b32 (K + L) (x - y) ∧ (x - y).toInt64 = x.toInt64 - y.toInt64 := by
  unfold b32 at *
  have e : (x - y).toInt = x.toInt - y.toInt := by
    rw [Int32.toInt_sub]
    exact Int.bmod_eq_of_le (by omega) (by omega)
  refine ⟨by rw [e]; omega, Int64.toInt_inj.mp ?_⟩
  rw [Int32.toInt_toInt64, e, Int64.toInt_sub, Int32.toInt_toInt64, Int32.toInt_toInt64]
  exact (Int.bmod_eq_of_le (by omega) (by omega)).symm
theorem b32.mul {K L : Nat} {x y : Int32} (h : b32 K x) (g : b32 L y) (hk : K * L ≤ 1073741824) : b32 (K * L) (x * y) ∧ (x * y).toInt64 = x.toInt64 * y.toInt64 := by
  unfold b32 at *
  have q : (x.toInt * y.toInt).natAbs ≤ K * L := by
    rw [Int.natAbs_mul]
    exact Nat.mul_le_mul h g
  obtain ⟨z, hz⟩ : ∃ z, z = x.toInt * y.toInt := ⟨_, rfl⟩
  rw [← hz] at q
  have e : (x * y).toInt = z := by
    rw [Int32.toInt_mul, ← hz]
    exact Int.bmod_eq_of_le (by omega) (by omega)
  refine ⟨by rw [e]; exact q, Int64.toInt_inj.mp ?_⟩
  rw [Int32.toInt_toInt64, e, Int64.toInt_mul, Int32.toInt_toInt64, Int32.toInt_toInt64, ← hz]
  exact (Int.bmod_eq_of_le (by omega) (by omega)).symm
theorem b32_of {x : Int32} {K : Nat} (h : bdI K x.toInt64) : b32 K x := by
  unfold bdI at h
  rw [Int32.toInt_toInt64] at h
  exact h
/-- the form's numbers in 64 bits -/
theorem fm64 {V : Nat → Nat → Int32} (ha : nr20 a) (hA : okLn V a c) : (trV (V 82)).toInt64 = trP (a 0 0).toInt64 (a 1 1).toInt64 (a 2 2).toInt64 ∧ (miV (V 82)).toInt64 = miP (a 0 0).toInt64 (a 0 1).toInt64 (a 0 2).toInt64 (a 1 0).toInt64 (a 1 1).toInt64 (a 1 2).toInt64 (a 2 0).toInt64 (a 2 1).toInt64 (a 2 2).toInt64 ∧ deV (V 82) = deP (a 0 0).toInt64 (a 0 1).toInt64 (a 0 2).toInt64 (a 1 0).toInt64 (a 1 1).toInt64 (a 1 2).toInt64 (a 2 0).toInt64 (a 2 1).toInt64 (a 2 2).toInt64 := by
  have e : ∀ r, r < 3 → ∀ k, k < 3 → V 82 (r * 3 + k) = a r k := fun r hr k hk => (show (∀ k, k < 3 → V 82 (r * 3 + k) = a r k) ∧ ∀ k, k < 2 → V 83 (r * 2 + k) = a r (3 + k) from hA.1 r hr).1 k hk
  have e0 : V 82 0 = a 0 0 := e 0 (by decide) 0 (by decide)
  have e1 : V 82 1 = a 0 1 := e 0 (by decide) 1 (by decide)
  have e2 : V 82 2 = a 0 2 := e 0 (by decide) 2 (by decide)
  have e3 : V 82 3 = a 1 0 := e 1 (by decide) 0 (by decide)
  have e4 : V 82 4 = a 1 1 := e 1 (by decide) 1 (by decide)
  have e5 : V 82 5 = a 1 2 := e 1 (by decide) 2 (by decide)
  have e6 : V 82 6 = a 2 0 := e 2 (by decide) 0 (by decide)
  have e7 : V 82 7 = a 2 1 := e 2 (by decide) 1 (by decide)
  have e8 : V 82 8 = a 2 2 := e 2 (by decide) 2 (by decide)
  have b : ∀ r, r < 3 → ∀ k, k < 3 → b32 20 (a r k) := fun r hr k hk => b32_of (ha r hr k (by omega))
  have pr : ∀ {r k r' k' : Nat}, r < 3 → k < 3 → r' < 3 → k' < 3 → b32 400 (a r k * a r' k') ∧ (a r k * a r' k').toInt64 = (a r k).toInt64 * (a r' k').toInt64 := fun h1 h2 h3 h4 => (b _ h1 _ h2).mul (b _ h3 _ h4) (by decide)
  refine ⟨?_, ?_, ?_⟩
  · unfold trV trP
    rw [e0, e4, e8]
    have s1 := (b 0 (by decide) 0 (by decide)).add (b 1 (by decide) 1 (by decide)) (by decide)
    have s2 := s1.1.add (b 2 (by decide) 2 (by decide)) (by decide)
    rw [s2.2, s1.2]
  · unfold miV miP
    rw [e0, e1, e2, e3, e4, e5, e6, e7, e8]
    have p1 := pr (r := 0) (k := 0) (r' := 1) (k' := 1) (by decide) (by decide) (by decide) (by decide)
    have p2 := pr (r := 0) (k := 1) (r' := 1) (k' := 0) (by decide) (by decide) (by decide) (by decide)
    have p3 := pr (r := 0) (k := 0) (r' := 2) (k' := 2) (by decide) (by decide) (by decide) (by decide)
    have p4 := pr (r := 0) (k := 2) (r' := 2) (k' := 0) (by decide) (by decide) (by decide) (by decide)
    have p5 := pr (r := 1) (k := 1) (r' := 2) (k' := 2) (by decide) (by decide) (by decide) (by decide)
    have p6 := pr (r := 1) (k := 2) (r' := 2) (k' := 1) (by decide) (by decide) (by decide) (by decide)
    have s1 := p1.1.sub p2.1 (by decide)
    have s2 := s1.1.add p3.1 (by decide)
    have s3 := s2.1.sub p4.1 (by decide)
    have s4 := s3.1.add p5.1 (by decide)
    have s5 := s4.1.sub p6.1 (by decide)
    rw [s5.2, s4.2, s3.2, s2.2, s1.2, p1.2, p2.2, p3.2, p4.2, p5.2, p6.2]
  · show dt3 (fun j => (V 82 j).toInt64) 0 1 2 = _
    show (V 82 0).toInt64 * ((V 82 4).toInt64 * (V 82 8).toInt64 - (V 82 5).toInt64 * (V 82 7).toInt64) - (V 82 1).toInt64 * ((V 82 3).toInt64 * (V 82 8).toInt64 - (V 82 5).toInt64 * (V 82 6).toInt64) + (V 82 2).toInt64 * ((V 82 3).toInt64 * (V 82 7).toInt64 - (V 82 4).toInt64 * (V 82 6).toInt64) = _
    rw [e0, e1, e2, e3, e4, e5, e6, e7, e8]
    rfl
/-- full rank: the one determinant isn't 0 -/
theorem det_ne {n : Nat} (hn1 : 1 ≤ n) (hn3 : n ≤ 3) {Q : Nat → Int64} (hQ : isCv false a c 1 (1 * n) Q) (hz : ∀ k, n ≤ k → k < 3 → a k 3 = 0) (hza : ∀ r k, r < 3 → k < 3 → (n ≤ r ∨ n ≤ k) → a r k = 0) (hr : isRk Q (1 * n) (jI n)) : detV n Q ≠ 0 := by
  have q0 : ∀ k, k < 3 → Q k = bbL a k := fun k hk => by
    have e := hQ.1 0 (by decide) k hk
    rw [show 0 * 3 + k = k by omega] at e
    exact e
  match n, hn1, hn3 with
  | 1, _, _ =>
    show Q 0 ≠ 0
    rcases hr with ⟨h, -⟩ | ⟨h, -⟩ | ⟨-, -, -, j, hj, hne⟩ | ⟨h, -⟩
    · exact absurd h (by decide)
    · exact absurd h (by decide)
    · have z1 : Q 1 = 0 := by rw [q0 1 (by decide)]; unfold bbL; rw [hz 1 (by decide) (by decide)]; rfl
      have z2 : Q 2 = 0 := by rw [q0 2 (by decide)]; unfold bbL; rw [hz 2 (by decide) (by decide)]; rfl
      match j, hj with
      | 0, _ => exact hne
      | 1, _ => exact absurd z1 hne
      | 2, _ => exact absurd z2 hne
    · exact absurd h (by decide)
  | 2, _, _ =>
    show Q 0 * Q 4 - Q 1 * Q 3 ≠ 0
    have z2 : Q 2 = 0 := by rw [q0 2 (by decide)]; unfold bbL; rw [hz 2 (by decide) (by decide)]; rfl
    have z5 : Q 5 = 0 := by
      have e : Q 5 = ((0 + Q 0 * (a 2 0).toInt64) + Q 1 * (a 2 1).toInt64) + Q 2 * (a 2 2).toInt64 := hQ.2 1 (by decide) (by decide) 2 (by decide)
      rw [e, hza 2 0 (by decide) (by decide) (Or.inl (by decide)), hza 2 1 (by decide) (by decide) (Or.inl (by decide)), z2, show (0 : Int32).toInt64 = 0 from rfl]
      grind
    rcases hr with ⟨h, -⟩ | ⟨-, -, x, y, hxy, hy, hap⟩ | ⟨h, -⟩ | ⟨h, -⟩
    · exact absurd h (by decide)
    · have ex : x = 0 := by omega
      have ey : y = 1 := by omega
      subst ex ey
      rcases hap with h | h | h
      · exact h
      · exact absurd (show Q 0 * Q 5 - Q 2 * Q 3 = 0 by rw [z2, z5]; grind) h
      · exact absurd (show Q 1 * Q 5 - Q 2 * Q 4 = 0 by rw [z2, z5]; grind) h
    · exact absurd h (by decide)
    · exact absurd h (by decide)
  | 3, _, _ =>
    show dt3 Q 0 1 2 ≠ 0
    rcases hr with ⟨-, x, y, z, h1, h2, h3, hne⟩ | ⟨h, -⟩ | ⟨h, -⟩ | ⟨h, -⟩
    · have ex : x = 0 := by omega
      have ey : y = 1 := by omega
      have ez : z = 2 := by omega
      subst ex ey ez
      exact hne
    · exact absurd h (by decide)
    · exact absurd h (by decide)
    · exact absurd h (by decide)
end
