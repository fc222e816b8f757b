/-! the law: one call -/
def LI (h : aH) (c z j : Nat) : Prop := ∃ c0 z0, SS h c0 z0 ∧ c ≤ c0 + j ∧ z ≤ z0 + j
def RR (o : aP) : Prop := ∃ h', o = some (.inl (some (.int 1)), h', 601024, 7293034)
theorem RR.ck {o : aP} {c z : Nat} (r : RR o) (b : c ≤ 601024 ∧ z ≤ 7293034) : RR (ck c z o) := by
  obtain ⟨h', e⟩ := r
  rw [e]
  exact ⟨h', ck_of b.1 b.2⟩
theorem DA.sum {h : aH} {D Ln : Nat → Nat} {b : Nat} (A : DA h D Ln b) : sumL Ln ≤ 578400 := by
  obtain ⟨-, -, h3, -⟩ := A
  have a1 : Ln 58 ≤ 2 * 97200 := h3 58 rfl
  have a2 : Ln 59 ≤ 2 * 46800 := h3 59 rfl
  have a3 : Ln 64 ≤ 2 * 3600 := h3 64 rfl
  have a4 : Ln 68 ≤ 2 * 3600 := h3 68 rfl
  have a5 : Ln 75 ≤ 2 * 46800 := h3 75 rfl
  have a6 : Ln 79 ≤ 2 * 8400 := h3 79 rfl
  have a7 : Ln 80 ≤ 2 * 8400 := h3 80 rfl
  have a8 : Ln 97 ≤ 2 * 74400 := h3 97 rfl
  unfold sumL
  omega
theorem SS.bd {h : aH} {c z : Nat} (s : SS h c z) : c ≤ 578600 ∧ z ≤ 1756800 := by
  rcases s with ⟨γ, S, V, Z, D, Ln, K, R, c1, z1⟩ | ⟨γ, τ, t2, S, V, Z, D, Ln, N, K, sp, tl, R, c1, z1⟩
  · have := K.1.1.2.2.2.2.sum
    omega
  · have := K.1.1.2.2.2.2.sum
    omega
theorem SS.k0 {h : aH} {c z : Nat} (s : SS h c z) {β : Type} {y : Option β} : kO h 0 11 y = y := by
  rcases s with ⟨γ, S, V, Z, D, Ln, K, R, c1, z1⟩ | ⟨γ, τ, t2, S, V, Z, D, Ln, N, K, sp, tl, R, c1, z1⟩
  · exact K.k0
  · exact K.k0
theorem SS.k1 {h : aH} {c z : Nat} (s : SS h c z) {β : Type} {y : Option β} : kO h 104 14 y = y := by
  rcases s with ⟨γ, S, V, Z, D, Ln, K, R, c1, z1⟩ | ⟨γ, τ, t2, S, V, Z, D, Ln, N, K, sp, tl, R, c1, z1⟩
  · exact R.k0
  · obtain ⟨S, wd, t, f, nv, V, Z, B, W, G, R⟩ := R
    exact R.k0
theorem LI.bd {h : aH} {c z j : Nat} (I : LI h c z j) (hj : j ≤ 3078) : c ≤ 601024 ∧ z ≤ 7293034 := by
  obtain ⟨c0, z0, s, a, b⟩ := I
  have := s.bd
  omega
theorem LI.k0 {h : aH} {c z j : Nat} (I : LI h c z j) {β : Type} {y : Option β} : kO h 0 11 y = y := by
  obtain ⟨c0, z0, s, a, b⟩ := I
  exact s.k0
theorem LI.k1 {h : aH} {c z j : Nat} (I : LI h c z j) {β : Type} {y : Option β} : kO h 104 14 y = y := by
  obtain ⟨c0, z0, s, a, b⟩ := I
  exact s.k1
theorem lawI {cf : aH → aO} {rf : aH → aO} (H : cOK (fun h => wC 0 0 (cf h)) rf) {h : aH} {c z j : Nat} (I : LI h c z j) : ∃ x h1 h2, cf h = some (.inl (some (.int x)), h1) ∧ rf h1 = some (.inl (some (.int x)), h2) ∧ kO h1 104 14 (some ()) = some () ∧ LI h2 c z (j + 6) := by
  obtain ⟨c0, z0, s, a, b⟩ := I
  obtain ⟨x, h1, n, y, h2, e1, e2, k1, s2⟩ := H h c0 z0 s
  have e1' : wC 0 0 (cf h) = some (.inl (some (.int x)), h1, n, y) := e1
  generalize ho : cf h = o at e1'
  match o, e1' with
  | some (r, g), e1' =>
    have q : some (r, g, 0, 0) = some (.inl (some (.int x)), h1, n, y) := e1'
    cases q
    exact ⟨x, h1, h2, rfl, e2, k1, c0 + 0, z0 + 0, s2, by omega, by omega⟩
theorem lawP {cf : aH → aP} {rf : aH → aO} (H : cOK cf rf) {h : aH} {c z j : Nat} (I : LI h c z j) : ∃ x h1 n y h2, cf h = some (.inl (some (.int x)), h1, n, y) ∧ rf h1 = some (.inl (some (.int x)), h2) ∧ kO h1 104 14 (some ()) = some () ∧ LI h2 (c + n) (z + y) (j + 6) := by
  obtain ⟨c0, z0, s, a, b⟩ := I
  obtain ⟨x, h1, n, y, h2, e1, e2, k1, s2⟩ := H h c0 z0 s
  exact ⟨x, h1, n, y, h2, e1, e2, k1, c0 + n, z0 + y, s2, by omega, by omega⟩
theorem lgc_self (x : Int64) : lg_cmp x x = 0 := by
  unfold lg_cmp
  rw [if_neg (fun z => by have := Int64.lt_iff_toInt_lt.mp z; omega), if_pos rfl]
section
variable {L j : Nat} {xs : Nat → Int32} {k23 : Nat → Nat → Nat → Int32 → aH → Nat → Nat → aP} {h : aH} {c z : Nat}
def KK (k23 : Nat → Nat → Nat → Int32 → aH → Nat → Nat → aP) (j : Nat) : Prop := ∀ h c z, LI h c z (j + 6) → RR (k23 0 104 183 (jI j + 6) h c z)
def SX (L : Nat) (xs : Nat → Int32) (j : Nat) : Prop := j ≤ 3066 ∧ sX L xs (jI j + 1) = some (xs (j + 1)) ∧ sX L xs (jI j + 2) = some (xs (j + 2)) ∧ sX L xs (jI j + 3) = some (xs (j + 3)) ∧ sX L xs (jI j + 4) = some (xs (j + 4)) ∧ sX L xs (jI j + 5) = some (xs (j + 5))
theorem law_236 (I : LI h c z j) (hk : KK k23 j) (S : SX L xs j) : RR (s_L_law_236 L xs k23 0 104 183 (jI j) h c z) := by
  obtain ⟨hj, s1, s2, s3, s4, s5⟩ := S
  obtain ⟨x, h1, h2, e1, e2, k1, I2⟩ := lawI (call_feed (xs (j + 1)) (xs (j + 2)) (xs (j + 3)) (xs (j + 4)) (xs (j + 5))) I
  unfold s_L_law_236 s_L_law_1705
  rw [s1, Option.bind_some, s2, Option.bind_some, s3, Option.bind_some, s4, Option.bind_some, s5, Option.bind_some, I.k0, cI_of e1, Option.bind_some, Option.bind_some, Option.bind_some, Option.bind_some, Option.bind_some, kO_un2 k1, cI_of e2, if_pos rfl]
  exact ((hk h2 c z I2).ck (I2.bd (by omega))).ck (I2.bd (by omega))
theorem law_309 (I : LI h c z j) (hk : KK k23 j) (S : SX L xs j) : RR (s_L_law_309 L xs k23 0 104 183 (jI j) h c z) := by
  obtain ⟨hj, s1, s2, s3, s4, s5⟩ := S
  obtain ⟨c0, z0, s, a, b⟩ := id I
  obtain ⟨x, h1, n1, y1, h2, n2, y2, e1, e2, k1, s2⟩ := call_thing (xs (j + 1)) h c0 z0 s
  have I2 : LI h2 (c + n1 + n2) (z + y1 + y2) (j + 6) := ⟨_, _, s2, by omega, by omega⟩
  have bd := I2.bd (by omega)
  unfold s_L_law_309 s_L_law_1705
  rw [s1, Option.bind_some, I.k0, dI_of e1, Option.bind_some, kO_un2 k1, dI_of e2, if_pos rfl]
  exact ((hk h2 _ _ I2).ck bd).ck (by omega)
theorem law_334 (I : LI h c z j) (hk : KK k23 j) (S : SX L xs j) : RR (s_L_law_334 L xs k23 0 104 183 (jI j) h c z) := by
  obtain ⟨hj, s1, s2, s3, s4, s5⟩ := S
  obtain ⟨x, h1, h2, e1, e2, k1, I2⟩ := lawI (call_good (xs (j + 1))) I
  unfold s_L_law_334 s_L_law_1705
  rw [s1, Option.bind_some, I.k0, cI_of e1, Option.bind_some, kO_un2 k1, cI_of e2, if_pos rfl]
  exact ((hk h2 c z I2).ck (I2.bd (by omega))).ck (I2.bd (by omega))
theorem law_359 (I : LI h c z j) (hk : KK k23 j) (S : SX L xs j) : RR (s_L_law_359 L xs k23 0 104 183 (jI j) h c z) := by
  obtain ⟨hj, s1, s2, s3, s4, s5⟩ := S
  obtain ⟨x, h1, h2, e1, e2, k1, I2⟩ := lawI (call_goal (xs (j + 1))) I
  unfold s_L_law_359 s_L_law_1705
  rw [s1, Option.bind_some, I.k0, cI_of e1, Option.bind_some, kO_un2 k1, cI_of e2, if_pos rfl]
  exact ((hk h2 c z I2).ck (I2.bd (by omega))).ck (I2.bd (by omega))
theorem law_384 (I : LI h c z j) (hk : KK k23 j) (S : SX L xs j) : RR (s_L_law_384 L xs k23 0 104 183 (jI j) h c z) := by
  obtain ⟨hj, s1, s2, s3, s4, s5⟩ := S
  obtain ⟨x, h1, h2, e1, e2, k1, I2⟩ := lawI (call_cost (xs (j + 1))) I
  unfold s_L_law_384 s_L_law_1705
  rw [s1, Option.bind_some, I.k0, cI_of e1, Option.bind_some, kO_un2 k1, cI_of e2, if_pos rfl]
  exact ((hk h2 c z I2).ck (I2.bd (by omega))).ck (I2.bd (by omega))
theorem law_409 (I : LI h c z j) (hk : KK k23 j) (S : SX L xs j) : RR (s_L_law_409 L xs k23 0 104 183 (jI j) h c z) := by
  obtain ⟨hj, s1, s2, s3, s4, s5⟩ := S
  obtain ⟨x, h1, h2, e1, e2, k1, I2⟩ := lawI (call_fault) I
  unfold s_L_law_409 s_L_law_1705
  rw [I.k0, cI_of e1, kO_un2 k1, cI_of e2, if_pos rfl]
  exact ((hk h2 c z I2).ck (I2.bd (by omega))).ck (I2.bd (by omega))
theorem law_422 (I : LI h c z j) (hk : KK k23 j) (S : SX L xs j) : RR (s_L_law_422 L xs k23 0 104 183 (jI j) h c z) := by
  obtain ⟨hj, s1, s2, s3, s4, s5⟩ := S
  obtain ⟨x, h1, h2, e1, e2, k1, I2⟩ := lawI (call_where) I
  unfold s_L_law_422 s_L_law_1705
  rw [I.k0, cI_of e1, kO_un2 k1, cI_of e2, if_pos rfl]
  exact ((hk h2 c z I2).ck (I2.bd (by omega))).ck (I2.bd (by omega))
theorem law_435 (I : LI h c z j) (hk : KK k23 j) (S : SX L xs j) : RR (s_L_law_435 L xs k23 0 104 183 (jI j) h c z) := by
  obtain ⟨hj, s1, s2, s3, s4, s5⟩ := S
  obtain ⟨x, h1, h2, e1, e2, k1, I2⟩ := lawI (call_count (xs (j + 1))) I
  unfold s_L_law_435 s_L_law_1705
  rw [s1, Option.bind_some, I.k0, cI_of e1, Option.bind_some, kO_un2 k1, cI_of e2, if_pos rfl]
  exact ((hk h2 c z I2).ck (I2.bd (by omega))).ck (I2.bd (by omega))
theorem law_460 (I : LI h c z j) (hk : KK k23 j) (S : SX L xs j) : RR (s_L_law_460 L xs k23 0 104 183 (jI j) h c z) := by
  obtain ⟨hj, s1, s2, s3, s4, s5⟩ := S
  obtain ⟨x, h1, h2, e1, e2, k1, I2⟩ := lawI (call_cell (xs (j + 1)) (xs (j + 2)) (xs (j + 3))) I
  unfold s_L_law_460 s_L_law_1705
  rw [s1, Option.bind_some, s2, Option.bind_some, s3, Option.bind_some, I.k0, cI_of e1, Option.bind_some, Option.bind_some, Option.bind_some, kO_un2 k1, cI_of e2, if_pos rfl]
  exact ((hk h2 c z I2).ck (I2.bd (by omega))).ck (I2.bd (by omega))
theorem law_509 (I : LI h c z j) (hk : KK k23 j) (S : SX L xs j) : RR (s_L_law_509 L xs k23 0 104 183 (jI j) h c z) := by
  obtain ⟨hj, s1, s2, s3, s4, s5⟩ := S
  obtain ⟨x, h1, h2, e1, e2, k1, I2⟩ := lawI (call_state (xs (j + 1)) (xs (j + 2))) I
  unfold s_L_law_509 s_L_law_1705
  rw [s1, Option.bind_some, s2, Option.bind_some, I.k0, cI_of e1, Option.bind_some, Option.bind_some, kO_un2 k1, cI_of e2, if_pos rfl]
  exact ((hk h2 c z I2).ck (I2.bd (by omega))).ck (I2.bd (by omega))
theorem law_546 (I : LI h c z j) (hk : KK k23 j) (S : SX L xs j) : RR (s_L_law_546 L xs k23 0 104 183 (jI j) h c z) := by
  obtain ⟨hj, s1, s2, s3, s4, s5⟩ := S
  obtain ⟨x, h1, h2, e1, e2, k1, I2⟩ := lawI (call_push (xs (j + 1)) (xs (j + 2))) I
  unfold s_L_law_546 s_L_law_1705
  rw [s1, Option.bind_some, s2, Option.bind_some, I.k0, cI_of e1, Option.bind_some, Option.bind_some, kO_un2 k1, cI_of e2, if_pos rfl]
  exact ((hk h2 c z I2).ck (I2.bd (by omega))).ck (I2.bd (by omega))
theorem law_583 (I : LI h c z j) (hk : KK k23 j) (S : SX L xs j) : RR (s_L_law_583 L xs k23 0 104 183 (jI j) h c z) := by
  obtain ⟨hj, s1, s2, s3, s4, s5⟩ := S
  obtain ⟨x, h1, h2, e1, e2, k1, I2⟩ := lawI (call_next (xs (j + 1)) (xs (j + 2)) (xs (j + 3))) I
  unfold s_L_law_583 s_L_law_1705
  rw [s1, Option.bind_some, s2, Option.bind_some, s3, Option.bind_some, I.k0, cI_of e1, Option.bind_some, Option.bind_some, Option.bind_some, kO_un2 k1, cI_of e2, if_pos rfl]
  exact ((hk h2 c z I2).ck (I2.bd (by omega))).ck (I2.bd (by omega))
theorem law_632 (I : LI h c z j) (hk : KK k23 j) (S : SX L xs j) : RR (s_L_law_632 L xs k23 0 104 183 (jI j) h c z) := by
  obtain ⟨hj, s1, s2, s3, s4, s5⟩ := S
  obtain ⟨x, h1, h2, e1, e2, k1, I2⟩ := lawI (call_sight (xs (j + 1)) (xs (j + 2)) (xs (j + 3)) (xs (j + 4))) I
  unfold s_L_law_632 s_L_law_1705
  rw [s1, Option.bind_some, s2, Option.bind_some, s3, Option.bind_some, s4, Option.bind_some, I.k0, cI_of e1, Option.bind_some, Option.bind_some, Option.bind_some, Option.bind_some, kO_un2 k1, cI_of e2, if_pos rfl]
  exact ((hk h2 c z I2).ck (I2.bd (by omega))).ck (I2.bd (by omega))
theorem law_693 (I : LI h c z j) (hk : KK k23 j) (S : SX L xs j) : RR (s_L_law_693 L xs k23 0 104 183 (jI j) h c z) := by
  obtain ⟨hj, s1, s2, s3, s4, s5⟩ := S
  obtain ⟨x, h1, n, y, h2, e1, e2, k1, I2⟩ := lawP (call_safe) I
  unfold s_L_law_693 s_L_law_1705
  rw [I.k0, dI_of e1, kO_un2 k1, cI_of e2, if_pos rfl]
  exact ((hk h2 _ _ I2).ck (I2.bd (by omega))).ck (I2.bd (by omega))
theorem law_706 (I : LI h c z j) (hk : KK k23 j) (S : SX L xs j) : RR (s_L_law_706 L xs k23 0 104 183 (jI j) h c z) := by
  obtain ⟨hj, s1, s2, s3, s4, s5⟩ := S
  obtain ⟨x, h1, n, y, h2, e1, e2, k1, I2⟩ := lawP (call_layer (xs (j + 1))) I
  unfold s_L_law_706 s_L_law_1705
  rw [s1, Option.bind_some, I.k0, dI_of e1, Option.bind_some, kO_un2 k1, cI_of e2, if_pos rfl]
  exact ((hk h2 _ _ I2).ck (I2.bd (by omega))).ck (I2.bd (by omega))
theorem law_731 (I : LI h c z j) (hk : KK k23 j) (S : SX L xs j) : RR (s_L_law_731 L xs k23 0 104 183 (jI j) h c z) := by
  obtain ⟨hj, s1, s2, s3, s4, s5⟩ := S
  obtain ⟨x, h1, n, y, h2, e1, e2, k1, I2⟩ := lawP (call_allowed (xs (j + 1))) I
  unfold s_L_law_731 s_L_law_1705
  rw [s1, Option.bind_some, I.k0, dI_of e1, Option.bind_some, kO_un2 k1, cI_of e2, if_pos rfl]
  exact ((hk h2 _ _ I2).ck (I2.bd (by omega))).ck (I2.bd (by omega))
theorem law_756 (I : LI h c z j) (hk : KK k23 j) (S : SX L xs j) : RR (s_L_law_756 L xs k23 0 104 183 (jI j) h c z) := by
  obtain ⟨hj, s1, s2, s3, s4, s5⟩ := S
  obtain ⟨x, h1, n, y, h2, e1, e2, k1, I2⟩ := lawP (call_ticks (xs (j + 1))) I
  unfold s_L_law_756 s_L_law_1705
  rw [s1, Option.bind_some, I.k0, dI_of e1, Option.bind_some, kO_un2 k1, cI_of e2, if_pos rfl]
  exact ((hk h2 _ _ I2).ck (I2.bd (by omega))).ck (I2.bd (by omega))
theorem law_781 (I : LI h c z j) (hk : KK k23 j) (S : SX L xs j) : RR (s_L_law_781 L xs k23 0 104 183 (jI j) h c z) := by
  obtain ⟨hj, s1, s2, s3, s4, s5⟩ := S
  obtain ⟨x, h1, n, y, h2, e1, e2, k1, I2⟩ := lawP (call_law (xs (j + 1))) I
  unfold s_L_law_781 s_L_law_1705
  rw [s1, Option.bind_some, I.k0, dI_of e1, Option.bind_some, kO_un2 k1, cI_of e2, if_pos rfl]
  exact ((hk h2 _ _ I2).ck (I2.bd (by omega))).ck (I2.bd (by omega))
theorem law_806 (I : LI h c z j) (hk : KK k23 j) (S : SX L xs j) : RR (s_L_law_806 L xs k23 0 104 183 (jI j) h c z) := by
  obtain ⟨hj, s1, s2, s3, s4, s5⟩ := S
  obtain ⟨x, h1, n, y, h2, e1, e2, k1, I2⟩ := lawP (call_best (xs (j + 1)) (xs (j + 2))) I
  unfold s_L_law_806 s_L_law_1705
  rw [s1, Option.bind_some, s2, Option.bind_some, I.k0, dI_of e1, Option.bind_some, Option.bind_some, kO_un2 k1, cI_of e2, if_pos rfl]
  exact ((hk h2 _ _ I2).ck (I2.bd (by omega))).ck (I2.bd (by omega))
theorem law_843 (I : LI h c z j) (hk : KK k23 j) (S : SX L xs j) : RR (s_L_law_843 L xs k23 0 104 183 (jI j) h c z) := by
  obtain ⟨hj, s1, s2, s3, s4, s5⟩ := S
  obtain ⟨x, h1, n, y, h2, e1, e2, k1, I2⟩ := lawP (call_bestLaw (xs (j + 1)) (xs (j + 2))) I
  unfold s_L_law_843 s_L_law_1705
  rw [s1, Option.bind_some, s2, Option.bind_some, I.k0, dI_of e1, Option.bind_some, Option.bind_some, kO_un2 k1, cI_of e2, if_pos rfl]
  exact ((hk h2 _ _ I2).ck (I2.bd (by omega))).ck (I2.bd (by omega))
theorem law_880 (I : LI h c z j) (hk : KK k23 j) (S : SX L xs j) : RR (s_L_law_880 L xs k23 0 104 183 (jI j) h c z) := by
  obtain ⟨hj, s1, s2q, s3, s4, s5⟩ := S
  obtain ⟨c0, z0, s, a, b⟩ := id I
  obtain ⟨k, h1, n, y, x, h2, e1, k1, e2, e3, ez, c1, z1, s2, a1, b1⟩ := call_worst (xs (j + 1)) (xs (j + 2)) (xs (j + 3)) h c0 z0 s
  have I2 : LI h2 (c + n) (z + y) (j + 6) := ⟨c1, z1, s2, by omega, by omega⟩
  have bd := I2.bd (by omega)
  unfold s_L_law_880 s_L_law_1705
  rw [s1, Option.bind_some, s2q, Option.bind_some, s3, Option.bind_some, dI_of e1, Option.bind_some, Option.bind_some, Option.bind_some, kO_un2 k1, cI_of e2, I2.k1, cI_of e3, if_pos rfl]
  refine RR.ck (RR.ck (RR.ck ?_ bd) bd) bd
  by_cases q : k = 0
  · rw [if_pos q, ez q, Option.bind_some, if_pos (lgc_self _)]
    exact hk h2 _ _ I2
  · rw [if_neg q]
    exact hk h2 _ _ I2
theorem law_960 (I : LI h c z j) (hk : KK k23 j) (S : SX L xs j) : RR (s_L_law_960 L xs k23 0 104 183 (jI j) h c z) := by
  obtain ⟨hj, s1, s2, s3, s4, s5⟩ := S
  obtain ⟨x, h1, n, y, h2, e1, e2, k1, I2⟩ := lawP (call_margin (xs (j + 1))) I
  unfold s_L_law_960 s_L_law_1705
  rw [s1, Option.bind_some, I.k0, dI_of e1, Option.bind_some, kO_un2 k1, cI_of e2, if_pos rfl]
  exact ((hk h2 _ _ I2).ck (I2.bd (by omega))).ck (I2.bd (by omega))
theorem law_985 (I : LI h c z j) (hk : KK k23 j) (S : SX L xs j) : RR (s_L_law_985 L xs k23 0 104 183 (jI j) h c z) := by
  obtain ⟨hj, s1, s2, s3, s4, s5⟩ := S
  unfold s_L_law_985 s_L_law_1000 s_L_law_1018 s_L_law_1705
  by_cases q : xs (j + 1) = 0
  · obtain ⟨x, h1, h2, e1, e2, k1, I2⟩ := lawI (call_rank false) I
    have e1' : s_X11_rank 0 0 h = some (.inl (some (.int x)), h1) := e1
    have e2' : s_X14_rank 104 0 h1 = some (.inl (some (.int x)), h2) := e2
    rw [s1, Option.bind_some, if_pos q, I.k0, cI_of e1', Option.bind_some, if_pos q, kO_un2 k1, cI_of e2', if_pos rfl]
    exact ((hk h2 c z I2).ck (I2.bd (by omega))).ck (I2.bd (by omega))
  · obtain ⟨x, h1, h2, e1, e2, k1, I2⟩ := lawI (call_rank true) I
    have e1' : s_X11_rank 0 1 h = some (.inl (some (.int x)), h1) := e1
    have e2' : s_X14_rank 104 1 h1 = some (.inl (some (.int x)), h2) := e2
    rw [s1, Option.bind_some, if_neg q, I.k0, cI_of e1', Option.bind_some, if_neg q, kO_un2 k1, cI_of e2', if_pos rfl]
    exact ((hk h2 c z I2).ck (I2.bd (by omega))).ck (I2.bd (by omega))
theorem law_1026 (I : LI h c z j) (hk : KK k23 j) (S : SX L xs j) : RR (s_L_law_1026 L xs k23 0 104 183 (jI j) h c z) := by
  obtain ⟨hj, s1, s2, s3, s4, s5⟩ := S
  obtain ⟨x, h1, h2, e1, e2, k1, I2⟩ := lawI (call_form (xs (j + 1))) I
  unfold s_L_law_1026 s_L_law_1705
  rw [s1, Option.bind_some, I.k0, cI_of e1, Option.bind_some, kO_un2 k1, cI_of e2, if_pos rfl]
  exact ((hk h2 c z I2).ck (I2.bd (by omega))).ck (I2.bd (by omega))
theorem law_1051 (I : LI h c z j) (hk : KK k23 j) (S : SX L xs j) : RR (s_L_law_1051 L xs k23 0 104 183 (jI j) h c z) := by
  obtain ⟨hj, s1, s2, s3, s4, s5⟩ := S
  obtain ⟨x, h1, h2, e1, e2, k1, I2⟩ := lawI (call_place (xs (j + 1)) (xs (j + 2)) (xs (j + 3))) I
  unfold s_L_law_1051 s_L_law_1705
  rw [s1, Option.bind_some, s2, Option.bind_some, s3, Option.bind_some, I.k0, cI_of e1, Option.bind_some, Option.bind_some, Option.bind_some, kO_un2 k1, cI_of e2, if_pos rfl]
  exact ((hk h2 c z I2).ck (I2.bd (by omega))).ck (I2.bd (by omega))
theorem law_1100 (I : LI h c z j) (hk : KK k23 j) (S : SX L xs j) : RR (s_L_law_1100 L xs k23 0 104 183 (jI j) h c z) := by
  obtain ⟨hj, s1, s2, s3, s4, s5⟩ := S
  obtain ⟨c0, z0, s, a, b⟩ := id I
  unfold s_L_law_1100 s_L_law_1121 s_L_law_1145 s_L_law_1705
  by_cases q : xs (j + 2) = 0
  · obtain ⟨v, h2, e1, e2, s2x⟩ := call_gain (xs (j + 1)) false h c0 z0 s
    have I2 : LI h2 c z (j + 6) := ⟨c0, z0, s2x, by omega, by omega⟩
    have e1' : s_X11_gain 0 (xs (j + 1)) 0 h = some (.inl (some (.long v)), h) := e1
    have e2' : s_X14_gain 104 (xs (j + 1)) 0 h = some (.inl (some (.long v)), h2) := e2
    rw [s1, Option.bind_some, s2, Option.bind_some, if_pos q, I.k0, cJ_of e1', Option.bind_some, Option.bind_some, if_pos q, I.k1, cJ_of e2', if_pos (lgc_self _)]
    exact ((hk h2 c z I2).ck (I2.bd (by omega))).ck (I2.bd (by omega))
  · obtain ⟨v, h2, e1, e2, s2x⟩ := call_gain (xs (j + 1)) true h c0 z0 s
    have I2 : LI h2 c z (j + 6) := ⟨c0, z0, s2x, by omega, by omega⟩
    have e1' : s_X11_gain 0 (xs (j + 1)) 1 h = some (.inl (some (.long v)), h) := e1
    have e2' : s_X14_gain 104 (xs (j + 1)) 1 h = some (.inl (some (.long v)), h2) := e2
    rw [s1, Option.bind_some, s2, Option.bind_some, if_neg q, I.k0, cJ_of e1', Option.bind_some, Option.bind_some, if_neg q, I.k1, cJ_of e2', if_pos (lgc_self _)]
    exact ((hk h2 c z I2).ck (I2.bd (by omega))).ck (I2.bd (by omega))
theorem law_1154 (I : LI h c z j) (hk : KK k23 j) (S : SX L xs j) : RR (s_L_law_1154 L xs k23 0 104 183 (jI j) h c z) := by
  obtain ⟨hj, s1, s2, s3, s4, s5⟩ := S
  obtain ⟨x, h1, h2, e1, e2, k1, I2⟩ := lawI (call_stays (xs (j + 1)) (xs (j + 2)) (xs (j + 3)) (xs (j + 4))) I
  unfold s_L_law_1154 s_L_law_1705
  rw [s1, Option.bind_some, s2, Option.bind_some, s3, Option.bind_some, s4, Option.bind_some, I.k0, cI_of e1, Option.bind_some, Option.bind_some, Option.bind_some, Option.bind_some, kO_un2 k1, cI_of e2, if_pos rfl]
  exact ((hk h2 c z I2).ck (I2.bd (by omega))).ck (I2.bd (by omega))
theorem law_1215 (I : LI h c z j) (hk : KK k23 j) (S : SX L xs j) : RR (s_L_law_1215 L xs k23 0 104 183 (jI j) h c z) := by
  obtain ⟨hj, s1, s2, s3, s4, s5⟩ := S
  obtain ⟨x, h1, h2, e1, e2, k1, I2⟩ := lawI (call_tick (xs (j + 1))) I
  unfold s_L_law_1215 s_L_law_1705
  rw [s1, Option.bind_some, I.k0, cI_of e1, Option.bind_some, kO_un2 k1, cI_of e2, if_pos rfl]
  exact ((hk h2 c z I2).ck (I2.bd (by omega))).ck (I2.bd (by omega))
theorem law_1240 (I : LI h c z j) (hk : KK k23 j) (S : SX L xs j) : RR (s_L_law_1240 L xs k23 0 104 183 (jI j) h c z) := by
  obtain ⟨hj, s1, s2, s3, s4, s5⟩ := S
  obtain ⟨x, h1, h2, e1, e2, k1, I2⟩ := lawI (call_told (xs (j + 1)) (xs (j + 2)) (xs (j + 3))) I
  unfold s_L_law_1240 s_L_law_1705
  rw [s1, Option.bind_some, s2, Option.bind_some, s3, Option.bind_some, I.k0, cI_of e1, Option.bind_some, Option.bind_some, Option.bind_some, kO_un2 k1, cI_of e2, if_pos rfl]
  exact ((hk h2 c z I2).ck (I2.bd (by omega))).ck (I2.bd (by omega))
theorem law_1289 (I : LI h c z j) (hk : KK k23 j) (S : SX L xs j) : RR (s_L_law_1289 L xs k23 0 104 183 (jI j) h c z) := by
  obtain ⟨hj, s1, s2, s3, s4, s5⟩ := S
  obtain ⟨x, h1, n, y, h2, e1, e2, k1, I2⟩ := lawP (call_can (xs (j + 1))) I
  unfold s_L_law_1289 s_L_law_1705
  rw [s1, Option.bind_some, I.k0, dI_of e1, Option.bind_some, kO_un2 k1, cI_of e2, if_pos rfl]
  exact ((hk h2 _ _ I2).ck (I2.bd (by omega))).ck (I2.bd (by omega))
theorem law_1314 (I : LI h c z j) (hk : KK k23 j) (S : SX L xs j) : RR (s_L_law_1314 L xs k23 0 104 183 (jI j) h c z) := by
  obtain ⟨hj, s1, s2, s3, s4, s5⟩ := S
  obtain ⟨x, h1, n, y, h2, e1, e2, k1, I2⟩ := lawP (call_canBe (xs (j + 1))) I
  unfold s_L_law_1314 s_L_law_1705
  rw [s1, Option.bind_some, I.k0, dI_of e1, Option.bind_some, kO_un2 k1, cI_of e2, if_pos rfl]
  exact ((hk h2 _ _ I2).ck (I2.bd (by omega))).ck (I2.bd (by omega))
theorem law_1339 (I : LI h c z j) (hk : KK k23 j) (S : SX L xs j) : RR (s_L_law_1339 L xs k23 0 104 183 (jI j) h c z) := by
  obtain ⟨hj, s1, s2, s3, s4, s5⟩ := S
  unfold s_L_law_1339 s_L_law_1360 s_L_law_1384 s_L_law_1705
  by_cases q : xs (j + 2) = 0
  · obtain ⟨x, h1, n, y, h2, e1, e2, k1, I2⟩ := lawP (call_guess (xs (j + 1)) false) I
    have e1' : s_X11_guess 0 (xs (j + 1)) 0 h = some (.inl (some (.int x)), h1, n, y) := e1
    have e2' : s_X14_guess 104 (xs (j + 1)) 0 h1 = some (.inl (some (.int x)), h2) := e2
    rw [s1, Option.bind_some, s2, Option.bind_some, if_pos q, I.k0, dI_of e1', Option.bind_some, Option.bind_some, if_pos q, kO_un2 k1, cI_of e2', if_pos rfl]
    exact ((hk h2 _ _ I2).ck (I2.bd (by omega))).ck (I2.bd (by omega))
  · obtain ⟨x, h1, n, y, h2, e1, e2, k1, I2⟩ := lawP (call_guess (xs (j + 1)) true) I
    have e1' : s_X11_guess 0 (xs (j + 1)) 1 h = some (.inl (some (.int x)), h1, n, y) := e1
    have e2' : s_X14_guess 104 (xs (j + 1)) 1 h1 = some (.inl (some (.int x)), h2) := e2
    rw [s1, Option.bind_some, s2, Option.bind_some, if_neg q, I.k0, dI_of e1', Option.bind_some, Option.bind_some, if_neg q, kO_un2 k1, cI_of e2', if_pos rfl]
    exact ((hk h2 _ _ I2).ck (I2.bd (by omega))).ck (I2.bd (by omega))
theorem law_1392 (I : LI h c z j) (hk : KK k23 j) (S : SX L xs j) : RR (s_L_law_1392 L xs k23 0 104 183 (jI j) h c z) := by
  obtain ⟨hj, s1, s2, s3, s4, s5⟩ := S
  obtain ⟨x, h1, n, y, h2, e1, e2, k1, I2⟩ := lawP (call_named) I
  unfold s_L_law_1392 s_L_law_1705
  rw [I.k0, dI_of e1, kO_un2 k1, cI_of e2, if_pos rfl]
  exact ((hk h2 _ _ I2).ck (I2.bd (by omega))).ck (I2.bd (by omega))
theorem law_1405 (I : LI h c z j) (hk : KK k23 j) (S : SX L xs j) : RR (s_L_law_1405 L xs k23 0 104 183 (jI j) h c z) := by
  obtain ⟨hj, s1, s2, s3, s4, s5⟩ := S
  obtain ⟨x, h1, n, y, h2, e1, e2, k1, I2⟩ := lawP (call_known (xs (j + 1))) I
  unfold s_L_law_1405 s_L_law_1705
  rw [s1, Option.bind_some, I.k0, dI_of e1, Option.bind_some, kO_un2 k1, cI_of e2, if_pos rfl]
  exact ((hk h2 _ _ I2).ck (I2.bd (by omega))).ck (I2.bd (by omega))
theorem law_1430 (I : LI h c z j) (hk : KK k23 j) (S : SX L xs j) : RR (s_L_law_1430 L xs k23 0 104 183 (jI j) h c z) := by
  obtain ⟨hj, s1, s2, s3, s4, s5⟩ := S
  obtain ⟨x, h1, n, y, h2, e1, e2, k1, I2⟩ := lawP (call_fit) I
  unfold s_L_law_1430 s_L_law_1705
  rw [I.k0, dI_of e1, kO_un2 k1, cI_of e2, if_pos rfl]
  exact ((hk h2 _ _ I2).ck (I2.bd (by omega))).ck (I2.bd (by omega))
theorem law_1443 (I : LI h c z j) (hk : KK k23 j) (S : SX L xs j) : RR (s_L_law_1443 L xs k23 0 104 183 (jI j) h c z) := by
  obtain ⟨hj, s1, s2, s3, s4, s5⟩ := S
  obtain ⟨x, h1, n, y, h2, e1, e2, k1, I2⟩ := lawP (call_probe (xs (j + 1))) I
  unfold s_L_law_1443 s_L_law_1705
  rw [s1, Option.bind_some, I.k0, dI_of e1, Option.bind_some, kO_un2 k1, cI_of e2, if_pos rfl]
  exact ((hk h2 _ _ I2).ck (I2.bd (by omega))).ck (I2.bd (by omega))
theorem law_1468 (I : LI h c z j) (hk : KK k23 j) (S : SX L xs j) : RR (s_L_law_1468 L xs k23 0 104 183 (jI j) h c z) := by
  obtain ⟨hj, s1, s2, s3, s4, s5⟩ := S
  obtain ⟨x, h1, h2, e1, e2, k1, I2⟩ := lawI (call_anew) I
  unfold s_L_law_1468 s_L_law_1705
  rw [I.k0, cI_of e1, kO_un2 k1, cI_of e2, if_pos rfl]
  exact ((hk h2 c z I2).ck (I2.bd (by omega))).ck (I2.bd (by omega))
theorem law_1481 (I : LI h c z j) (hk : KK k23 j) (S : SX L xs j) : RR (s_L_law_1481 L xs k23 0 104 183 (jI j) h c z) := by
  obtain ⟨hj, s1, s2, s3, s4, s5⟩ := S
  obtain ⟨x, h1, h2, e1, e2, k1, I2⟩ := lawI (call_code (xs (j + 1)) (xs (j + 2)) (xs (j + 3)) (xs (j + 4)) (xs (j + 5))) I
  unfold s_L_law_1481 s_L_law_1705
  rw [s1, Option.bind_some, s2, Option.bind_some, s3, Option.bind_some, s4, Option.bind_some, s5, Option.bind_some, I.k0, cI_of e1, Option.bind_some, Option.bind_some, Option.bind_some, Option.bind_some, Option.bind_some, kO_un2 k1, cI_of e2, if_pos rfl]
  exact ((hk h2 c z I2).ck (I2.bd (by omega))).ck (I2.bd (by omega))
theorem law_1554 (I : LI h c z j) (hk : KK k23 j) (S : SX L xs j) : RR (s_L_law_1554 L xs k23 0 104 183 (jI j) h c z) := by
  obtain ⟨hj, s1, s2, s3, s4, s5⟩ := S
  obtain ⟨x, h1, h2, e1, e2, k1, I2⟩ := lawI (call_coded (xs (j + 1))) I
  unfold s_L_law_1554 s_L_law_1705
  rw [s1, Option.bind_some, I.k0, cI_of e1, Option.bind_some, kO_un2 k1, cI_of e2, if_pos rfl]
  exact ((hk h2 c z I2).ck (I2.bd (by omega))).ck (I2.bd (by omega))
theorem law_1579 (I : LI h c z j) (hk : KK k23 j) (S : SX L xs j) : RR (s_L_law_1579 L xs k23 0 104 183 (jI j) h c z) := by
  obtain ⟨hj, s1, s2, s3, s4, s5⟩ := S
  obtain ⟨x, h1, n, y, h2, e1, e2, k1, I2⟩ := lawP (call_strays) I
  unfold s_L_law_1579 s_L_law_1705
  rw [I.k0, dI_of e1, kO_un2 k1, cI_of e2, if_pos rfl]
  exact ((hk h2 _ _ I2).ck (I2.bd (by omega))).ck (I2.bd (by omega))
theorem law_1592 (I : LI h c z j) (hk : KK k23 j) (S : SX L xs j) : RR (s_L_law_1592 L xs k23 0 104 183 (jI j) h c z) := by
  obtain ⟨hj, s1, s2, s3, s4, s5⟩ := S
  obtain ⟨x, h1, h2, e1, e2, k1, I2⟩ := lawI (call_walk (xs (j + 1))) I
  unfold s_L_law_1592 s_L_law_1705
  rw [s1, Option.bind_some, I.k0, cI_of e1, Option.bind_some, kO_un2 k1, cI_of e2, if_pos rfl]
  exact ((hk h2 c z I2).ck (I2.bd (by omega))).ck (I2.bd (by omega))
theorem law_1617 (I : LI h c z j) (hk : KK k23 j) (S : SX L xs j) : RR (s_L_law_1617 L xs k23 0 104 183 (jI j) h c z) := by
  obtain ⟨hj, s1, s2, s3, s4, s5⟩ := S
  obtain ⟨x, h1, h2, e1, e2, k1, I2⟩ := lawI (call_claim (xs (j + 1)) (xs (j + 2))) I
  unfold s_L_law_1617 s_L_law_1705
  rw [s1, Option.bind_some, s2, Option.bind_some, I.k0, cI_of e1, Option.bind_some, Option.bind_some, kO_un2 k1, cI_of e2, if_pos rfl]
  exact ((hk h2 c z I2).ck (I2.bd (by omega))).ck (I2.bd (by omega))
theorem law_1654 (I : LI h c z j) (hk : KK k23 j) (S : SX L xs j) : RR (s_L_law_1654 L xs k23 0 104 183 (jI j) h c z) := by
  obtain ⟨hj, s1, s2, s3, s4, s5⟩ := S
  obtain ⟨x, h1, n, y, h2, e1, e2, k1, I2⟩ := lawP (call_proved (xs (j + 1))) I
  unfold s_L_law_1654 s_L_law_1705
  rw [s1, Option.bind_some, I.k0, dI_of e1, Option.bind_some, kO_un2 k1, cI_of e2, if_pos rfl]
  exact ((hk h2 _ _ I2).ck (I2.bd (by omega))).ck (I2.bd (by omega))
theorem law_1679 (I : LI h c z j) (hk : KK k23 j) (S : SX L xs j) : RR (s_L_law_1679 L xs k23 0 104 183 (jI j) h c z) := by
  obtain ⟨hj, s1, s2, s3, s4, s5⟩ := S
  obtain ⟨x, h1, n, y, h2, e1, e2, k1, I2⟩ := lawP (call_breaks) I
  unfold s_L_law_1679 s_L_law_1705
  rw [I.k0, dI_of e1, kO_un2 k1, cI_of e2, if_pos rfl]
  exact ((hk h2 _ _ I2).ck (I2.bd (by omega))).ck (I2.bd (by omega))
theorem law_1692 (I : LI h c z j) (hk : KK k23 j) (S : SX L xs j) : RR (s_L_law_1692 L xs k23 0 104 183 (jI j) h c z) := by
  obtain ⟨hj, s1, s2, s3, s4, s5⟩ := S
  obtain ⟨x, h1, h2, e1, e2, k1, I2⟩ := lawI (call_trouble) I
  unfold s_L_law_1692 s_L_law_1705
  rw [I.k0, cI_of e1, kO_un2 k1, cI_of e2, if_pos rfl]
  exact ((hk h2 c z I2).ck (I2.bd (by omega))).ck (I2.bd (by omega))
end
