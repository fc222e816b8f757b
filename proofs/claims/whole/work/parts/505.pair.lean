/-! place: the class's gains are the reference's -/
theorem nab_neg {x : Int64} (h : bd62 x) : (-x).toInt.natAbs = x.toInt.natAbs := by
  rw [(negL_int h).1]
  omega
theorem pair_one {x y : Int64} (bx : bd62 x) (by' : bd62 y) (y0 : y ≠ 0) : sgP x y (Nat.gcd y.toInt.natAbs x.toInt.natAbs) = sgR x y (Nat.gcd x.toInt.natAbs y.toInt.natAbs) ∧ sgP y y (Nat.gcd y.toInt.natAbs x.toInt.natAbs) = sgR y y (Nat.gcd x.toInt.natAbs y.toInt.natAbs) ∧
    sgP (-x) (-y) (Nat.gcd (-y).toInt.natAbs (-x).toInt.natAbs) = sgR x y (Nat.gcd x.toInt.natAbs y.toInt.natAbs) ∧ sgP (-y) (-y) (Nat.gcd (-y).toInt.natAbs (-x).toInt.natAbs) = sgR y y (Nat.gcd x.toInt.natAbs y.toInt.natAbs) := by
  rw [nab_neg bx, nab_neg by', Nat.gcd_comm y.toInt.natAbs x.toInt.natAbs]
  have yn : 0 < y.toInt.natAbs := by
    have : y.toInt ≠ 0 := fun z => y0 (Int64.toInt_inj.mp z)
    omega
  obtain ⟨g, hg⟩ : ∃ g, g = Nat.gcd x.toInt.natAbs y.toInt.natAbs := ⟨_, rfl⟩
  have g0 : 0 < g := by rw [hg]; exact Nat.gcd_pos_of_pos_right _ yn
  have gle : g ≤ y.toInt.natAbs := by rw [hg]; exact Nat.gcd_le_right _ yn
  have g62 : g ≤ 4611686018427387904 := by unfold bd62 at by'; omega
  rw [← hg]
  exact ⟨red_one bx g0 g62, red_one by' g0 g62, red_neg bx by' y0 g0 g62, red_neg by' by' y0 g0 g62⟩
/-- what both find -/
def plO (n : Nat) (a : Nat → Nat → Int32) (Q : Nat → Int64) (z0 z1 z2 : Int32) (i : Nat) : Int64 := ovS n Q (tdS a (byS n z0 z1 z2) (n + 1)) i
def plT (n : Nat) (a : Nat → Nat → Int32) (Q : Nat → Int64) (z0 z1 z2 : Int32) (i : Nat) : Int64 := sgR (plO n a Q z0 z1 z2 i) (detV n Q) (Nat.gcd (plO n a Q z0 z1 z2 i).toInt.natAbs (detV n Q).toInt.natAbs)
def plU (n : Nat) (a : Nat → Nat → Int32) (Q : Nat → Int64) (z0 z1 z2 : Int32) (i : Nat) : Int64 := sgR (detV n Q) (detV n Q) (Nat.gcd (plO n a Q z0 z1 z2 i).toInt.natAbs (detV n Q).toInt.natAbs)
section
variable {a c : Nat → Nat → Int32} {f R Q y : Nat → Int64} {z0 z1 z2 : Int32} {m : Nat → Nat}
theorem cls_pair {n : Nat} (hn1 : 1 ≤ n) (hn3 : n ≤ 3) (hR : svR n a f R) (hI : svI n R) (hQ : isCv false a c 1 (1 * n) Q) (hf : ∀ j, j < 4 → f j = fmW n (trP (a 0 0).toInt64 (a 1 1).toInt64 (a 2 2).toInt64) (miP (a 0 0).toInt64 (a 0 1).toInt64 (a 0 2).toInt64 (a 1 0).toInt64 (a 1 1).toInt64 (a 1 2).toInt64 (a 2 0).toInt64 (a 2 1).toInt64 (a 2 2).toInt64) (deP (a 0 0).toInt64 (a 0 1).toInt64 (a 0 2).toInt64 (a 1 0).toInt64 (a 1 1).toInt64 (a 1 2).toInt64 (a 2 0).toInt64 (a 2 1).toInt64 (a 2 2).toInt64) j) (hy : ∀ i, i < 3 → y i = rhY n f z0 z1 z2 i)
    (hz : ∀ k, n ≤ k → k < 3 → a k 3 = 0) (hza : ∀ r k, r < 3 → k < 3 → (n ≤ r ∨ n ≤ k) → a r k = 0) :
    (dt3 R 0 1 2 = detV n Q ∧ ∀ i, i < n → dt3 (swp R y i) 0 1 2 = plO n a Q z0 z1 z2 i) ∨ (dt3 R 0 1 2 = -(detV n Q) ∧ ∀ i, i < n → dt3 (swp R y i) 0 1 2 = -(plO n a Q z0 z1 z2 i)) := by
  match n, hn1, hn3 with
  | 1, _, _ =>
    left
    obtain ⟨h1, h2⟩ := alg1 hR hI hQ hf hy (hza 1 1 (by decide) (by decide) (Or.inl (by decide))) (hza 2 2 (by decide) (by decide) (Or.inl (by decide)))
    refine ⟨h1, fun i hi => ?_⟩
    have e : i = 0 := by omega
    rw [e]
    exact h2
  | 2, _, _ =>
    right
    exact alg2 hR hI hQ hf hy (hza 0 2 (by decide) (by decide) (Or.inr (by decide))) (hza 1 2 (by decide) (by decide) (Or.inr (by decide))) (hza 2 0 (by decide) (by decide) (Or.inl (by decide))) (hza 2 1 (by decide) (by decide) (Or.inl (by decide))) (hza 2 2 (by decide) (by decide) (Or.inl (by decide))) (by unfold bbL; rw [hz 2 (by decide) (by decide)]; rfl)
  | 3, _, _ =>
    right
    exact alg3 hR hQ hf hy
end
section
variable {S V : Nat → Nat → Int32} {D Ln : Nat → Nat} {b : Nat} {A : Nat → Nat → Int32} {N : Nat → Int64} {m F : Nat → Nat} {a c : Nat → Nat → Int32}
theorem bd62_of {K : Nat} {x : Int64} (h : bdI K x) (hk : K ≤ 4611686018427387904) : bd62 x := by
  unfold bdI at h
  unfold bd62
  omega
/-- the class's gains -/
theorem CC.solve {h : aH} {Z : Nat → Nat → Int64} (C : CC h S V Z D Ln b A N m F) (hA : okLn V a c) (hz : okZ a c m) (hn : nrM a c = true) (hf : ∀ j, j < 4 → Z 85 j = fmW (m 0) (trV (V 82)).toInt64 (miV (V 82)).toInt64 (deV (V 82)) j) {Q : Nat → Int64} (hQ : isCv false a c 1 (1 * m 0) Q) (hr : isRk Q (1 * m 0) (jI (m 0)))
    {z0 z1 z2 : Int32} (b0 : bdI 999 z0.toInt64) (b1 : 1 < m 0 → bdI 999 z1.toInt64) (b2 : 2 < m 0 → bdI 999 z2.toInt64) :
    ∃ h' Z', s_X1_solve 81 z0 z1 z2 h = some (.inl none, h') ∧ CC h' (upd2 S 81 (upd (S 81) 8 (jI (m 0)))) V Z' D Ln b A N m F ∧ Oc D h h' ∧ SmZ [86, 87, 88, 89] Z Z' ∧ ∀ j, j < m 0 → Z' 87 j = plT (m 0) a Q z0 z1 z2 j ∧ Z' 88 j = plU (m 0) a Q z0 z1 z2 j := by
  have h3 := C.2.2.1.1.1.1
  have hm0 : 1 ≤ m 0 := C.2.2.2.1.2.2.2.2.2.2.2
  have hz3 : ∀ k, m 0 ≤ k → k < 3 → a k 3 = 0 := fun k h1 h2 => hz.2.1 k 0 h2 (by decide) (Or.inl h1)
  have ha := nr20_of hn
  obtain ⟨q1, q2, q3⟩ := fm64 (V := V) ha hA
  rw [q1, q2, q3] at hf
  have d0 := det_ne hm0 h3 hQ hz3 hz.1 hr
  have bd := bd_det ha hm0 h3 hQ
  have bo := fun (i : Nat) (hi : i < m 0) => bd_ov ha hm0 h3 hQ b0 b1 b2 hi
  have bo62 : ∀ i, i < m 0 → bd62 (plO (m 0) a Q z0 z1 z2 i) := fun i hi => by
    have := bo i hi
    unfold bd62 plO
    omega
  have bd62' : bd62 (detV (m 0) Q) := bd62_of bd (by decide)
  obtain ⟨h1, Z1, e1, C1, O1, s1, r1, i1, y1⟩ := C.solve1 hA hz z0 z1 z2
  have z85 : ∀ j, j < 4 → Z 85 j = _ := hf
  rcases cls_pair hm0 h3 r1 i1 hQ hf y1 hz3 hz.1 with ⟨p1, p2⟩ | ⟨p1, p2⟩
  · obtain ⟨h2, Z2, e2, C2, O2, s2, v2⟩ := C1.solve2 p1 d0 (by have := bd; unfold bdI at this; omega) (fun i hi => by rw [p2 i hi]; exact bo62 i hi)
    refine ⟨h2, Z2, by rw [e1, p1]; exact e2, C2, O1.trans O2, (s1.mono (by decide)).trans s2, fun j hj => ?_⟩
    obtain ⟨w1, w2⟩ := v2 j hj
    obtain ⟨k1, k2, -, -⟩ := pair_one (bo62 j hj) bd62' d0
    rw [w1, w2, p2 j hj]
    exact ⟨k1, k2⟩
  · have nd : -(detV (m 0) Q) ≠ 0 := fun z => d0 (i64_neg0.mp z)
    obtain ⟨h2, Z2, e2, C2, O2, s2, v2⟩ := C1.solve2 p1 nd (by rw [nab_neg bd62']; have := bd; unfold bdI at this; omega) (fun i hi => by rw [p2 i hi]; exact (negL_int (bo62 i hi)).2)
    refine ⟨h2, Z2, by rw [e1, p1]; exact e2, C2, O1.trans O2, (s1.mono (by decide)).trans s2, fun j hj => ?_⟩
    obtain ⟨w1, w2⟩ := v2 j hj
    obtain ⟨-, -, k3, k4⟩ := pair_one (bo62 j hj) bd62' d0
    rw [w1, w2, p2 j hj]
    exact ⟨k3, k4⟩
end
