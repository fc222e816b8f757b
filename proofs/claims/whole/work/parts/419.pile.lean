/-! sums and tests by the pile, as a whole -/
def okU (a : pOne) : Prop := (a.1 ≠ [] ∧ a.2.1 ≠ []) ∧ (∀ x ∈ a.1, okA x) ∧ ∀ x ∈ a.2.1, okA x
theorem okI_and {R : List (Int32 × Int32)} {d0 : Nat} (h4 : d0 + 5 ≤ 400) : ∀ (l : List pOne), (∀ a ∈ l, okU a) → okI R (d0 + 1) → okI (andI l ++ R) (d0 + 1)
  | [], _, hR => hR
  | a :: r, hl, hR => by
    have h := hl a List.mem_cons_self
    have E : andI (a :: r) ++ R = oneI a ++ ((9, 0) :: (andI r ++ R)) := by
      show ((oneI a ++ [(9, 0)]) ++ andI r) ++ R = _
      rw [List.append_assoc, List.append_assoc]
      rfl
    rw [E]
    refine okI_one (by omega) h.1.1 h.1.2 h.2.1 h.2.2 ?_
    have a1 : ¬ (9 : Int32) = 0 := by decide
    have a2 : ¬ (9 : Int32) = 1 := by decide
    have a3 : ¬ (9 : Int32) = 5 := by decide
    simp only [okI, a1, a2, a3, if_false, Nat.add_sub_cancel]
    exact ⟨by omega, okI_and h4 r (fun x hx => hl x (List.mem_cons_of_mem a hx)) hR⟩
theorem okI_test {R : List (Int32 × Int32)} {d0 : Nat} (h4 : d0 + 5 ≤ 400) {a : pOne} {r : List pOne} (hl : ∀ x ∈ a :: r, okU x) (hR : okI R (d0 + 1)) : okI (testI (a :: r) ++ R) d0 := by
  have h := hl a List.mem_cons_self
  show okI ((oneI a ++ andI r) ++ R) d0
  rw [List.append_assoc]
  exact okI_one (by omega) h.1.1 h.1.2 h.2.1 h.2.2 (okI_and h4 r (fun x hx => hl x (List.mem_cons_of_mem a hx)) hR)
section
variable {h : aH} {t t' : Nat} {B : Nat → Nat → Int32} {W : Nat → Int64} {G : Nat → Nat} {fs : List Value} {vals p : Nat → Int32}
theorem valSum_at (ht2 : t + 12 < 149 ∨ 149 < t) (H : isT h t B W G) (X : isX h t' fs) (hv : h[148]? = some (.inl (.int, 11, .inl vals))) (hp : h[149]? = some (.inl (.int, 400, .inl p))) {l : List pFa} {a b : Nat} (hab : a + b ≤ 400)
    (hs : seg2 (B 11) (B 12) a b = postV l) (hq : okQ vals l) (hA : ∀ x ∈ l, okA x) :
    ∃ p', s_X14_valueOf 104 t (jI a) (jI (a + b)) h = some (.inl (some (.int (sumV vals l))), h.set 149 (.inl (.int, 400, .inl p'))) := by
  obtain ⟨⟨x, r, e, q⟩, hv2⟩ := hq
  have hne : l ≠ [] := by rw [e]; exact List.cons_ne_nil _ _
  have ok : okI (seg2 (B 11) (B 12) a b) 0 := by
    rw [hs, ← List.append_nil (postV l)]
    exact okI_postV (by decide) hne hA trivial
  obtain ⟨p', e1, e2, -⟩ := postV_at (vals := vals) q (by rw [← e]; exact hv2) [] 0 p
  refine ⟨p', ?_⟩
  have this := valueOf_go ht2 b a FU 0 h p hab (by decide) (by unfold FU; omega) H X hv hp ok
  have hpp : pilGo vals (postV l) 0 p = p' := by
    rw [List.append_nil] at e1
    rw [e]
    exact e1
  rw [hs, hpp, e2, ← e] at this
  exact this
theorem valTest_at (ht2 : t + 12 < 149 ∨ 149 < t) (H : isT h t B W G) (X : isX h t' fs) (hv : h[148]? = some (.inl (.int, 11, .inl vals))) (hp : h[149]? = some (.inl (.int, 400, .inl p))) {l : List pOne} {a b : Nat} (hab : a + b ≤ 400)
    (hs : seg2 (B 11) (B 12) a b = testI l) (hne : l ≠ []) (hq : ∀ x ∈ l, okQ vals x.1 ∧ okQ vals x.2.1) (hA : ∀ x ∈ l, okU x) :
    ∃ p', s_X14_valueOf 104 t (jI a) (jI (a + b)) h = some (.inl (some (.int (b01 (allV vals l)))), h.set 149 (.inl (.int, 400, .inl p'))) := by
  match l, hne with
  | x :: r, _ =>
    have ok : okI (seg2 (B 11) (B 12) a b) 0 := by
      rw [hs, ← List.append_nil (testI (x :: r))]
      exact okI_test (by decide) hA trivial
    obtain ⟨p', e1, e2, -⟩ := test_at (vals := vals) hq [] 0 p
    refine ⟨p', ?_⟩
    have this := valueOf_go ht2 b a FU 0 h p hab (by decide) (by unfold FU; omega) H X hv hp ok
    have hpp : pilGo vals (testI (x :: r)) 0 p = p' := by
      rw [List.append_nil] at e1
      exact e1
    rw [hs, hpp, e2] at this
    exact this
end
/-! the class's thing and the reference's: the same -/
def okB (l : List pFa) : Prop := (∃ a r, l = a :: r ∧ (a.1 = 0 ∨ a.1 = 1)) ∧ ∀ x ∈ l, ¬ 0 ≤ x.2.1 → sm 1000 x.2.2
def okOB (a : pOne) : Prop := okB a.1 ∧ okB a.2.1
/-- a thing as a text tells it -/
def okW (A : Nat → Nat → Int32) (m F : Nat → Nat) : Prop :=
  okM A m F ∧ okN A m F ∧ (∀ s, decl m s → okR A s) ∧ (∀ i, i < F 4 → okB (sgm A 6 7 i) ∧ ∀ o ∈ sgo A 8 9 i, okOB o) ∧ ∀ i, i < m 4 → okB (sgm A 10 11 i)
def simT (A : Nat → Nat → Int32) (m F : Nat → Nat) (B : Nat → Nat → Int32) (G : Nat → Nat) : Prop :=
  (∀ k, k < 5 → B 1 k = jI (m k)) ∧ (∀ s, decl m s → B 2 s = A 3 s ∧ B 3 s = A 4 s) ∧ G 6 = F 4 ∧
  (∀ i, i < F 4 → B 7 i = A 5 i ∧ ∃ a b c : Nat, B 8 i = jI a ∧ B 9 i = jI (a + b) ∧ B 10 i = jI (a + b + c) ∧ a + b + c ≤ 400 ∧ seg2 (B 11) (B 12) a b = postV (sgm A 6 7 i) ∧ seg2 (B 11) (B 12) (a + b) c = testI (sgo A 8 9 i)) ∧
  ∀ i, i < m 4 → ∃ a b : Nat, B 4 (9 + i) = jI a ∧ B 5 (9 + i) = jI (a + b) ∧ a + b ≤ 400 ∧ seg2 (B 11) (B 12) a b = postV (sgm A 10 11 i)
/-- values that are small where something is told -/
def okVs (m : Nat → Nat) (v : Nat → Int32) : Prop := ∀ s, decl m s → sm 100 (v s)
theorem decl_lt {m : Nat → Nat} (K : okm m) {s : Nat} (h : decl m s) : s < 9 := by
  obtain ⟨h0, h1, h2, h3, -⟩ := K
  rcases h with h | h | h | h <;> omega
theorem okQ_of {m : Nat → Nat} {v : Nat → Int32} {l : List pFa} (hB : okB l) (hL : okL m l) (hv : okVs m v) : okQ v l := by
  refine ⟨hB.1, fun x hx => ?_⟩
  unfold fVal
  by_cases q : 0 ≤ x.2.1
  · rw [if_pos q]
    exact sm_le (by decide) (hv _ (hL x hx q))
  · rw [if_neg q]
    exact hB.2 x hx q
theorem okA_of {m : Nat → Nat} {l : List pFa} (K : okm m) (hL : okL m l) : ∀ x ∈ l, okA x := fun x hx q => by
  have := decl_lt K (hL x hx q)
  omega
theorem okU_of {m : Nat → Nat} {a : pOne} (K : okm m) (hB : okOB a) (h1 : okL m a.1) (h2 : okL m a.2.1) : okU a := by
  obtain ⟨⟨⟨x, r, e, -⟩, -⟩, ⟨⟨y, q, e2, -⟩, -⟩⟩ := hB
  exact ⟨⟨by rw [e]; exact List.cons_ne_nil _ _, by rw [e2]; exact List.cons_ne_nil _ _⟩, okA_of K h1, okA_of K h2⟩
theorem szT_wdt {A B : Nat → Nat → Int32} {s : Nat} (h : okR A s) (h2 : B 2 s = A 3 s) (h3 : B 3 s = A 4 s) : szT B s = wdt A 0 s := by
  have e := wdN_R h
  have e1 : wdt A 0 s = jI (wdN A 0 s) := wdt_N A 0 s
  obtain ⟨r1, r2, r3⟩ := h
  unfold szT
  rw [h2, h3, e1]
  apply Int32.toInt_inj.mp
  rw [jI_int (by omega), (toInt_small (x := A 4 s - A 3 s) (y := 1) (by
    rw [(toInt_small (x := A 4 s) (y := A 3 s) (by omega) (by omega)).1]; omega) (by decide)).2, (toInt_small (x := A 4 s) (y := A 3 s) (by omega) (by omega)).1, e.1]
  rfl
theorem testI_nil {l : List pOne} (hU : ∀ a ∈ l, okU a) : testI l = [] ↔ l = [] := by
  match l, hU with
  | [], _ => exact ⟨fun _ => rfl, fun _ => rfl⟩
  | a :: r, hU =>
    refine ⟨fun z => ?_, fun z => absurd z (List.cons_ne_nil _ _)⟩
    have h := hU a List.mem_cons_self
    obtain ⟨x, q, e⟩ := List.exists_cons_of_ne_nil h.1.1
    have : testI (a :: r) = (postV a.1 ++ (postV a.2.1 ++ [(kRl a.2.2, 0)])) ++ andI r := rfl
    rw [this, e] at z
    cases z
theorem seg2_len (f g : Nat → Int32) : ∀ (n i : Nat), (seg2 f g i n).length = n
  | 0, _ => rfl
  | n + 1, i => by
    show (seg2 f g (i + 1) n).length + 1 = n + 1
    rw [seg2_len f g n (i + 1)]
section
variable {t : Nat} {A B : Nat → Nat → Int32} {m F : Nat → Nat} {W : Nat → Int64} {G : Nat → Nat} {fs : List Value} {vals : Nat → Int32}
theorem nh166_at {h : aH} (K : okW A m F) (S : simT A m F B G) (H : isT h t B W G) (X : isX h t fs) {k4 : Nat → Int32 → Int32 → aH → aO} {k : Nat} (hk : k < m 0) (c x : Int32) :
    s_X14_nextHere_166 k4 104 c (jI k) x h = if x < A 3 k then some (.inl (some (.int (-2))), h) else if x ≤ A 4 k then k4 104 (((c * wdt A 0 k) + x) - A 3 k) (jI (k + 1)) h else some (.inl (some (.int (-2))), h) := by
  have hT := H.1
  have h3 := K.1.1.1
  have hd : decl m k := Or.inl hk
  obtain ⟨s2, s3⟩ := S.2.1 k hd
  have g4 : gO h (.ref 104) 14 4 = some t := gO_of (ltE (by decide)) X.1 X.2.1
  have g1 : gO h (.ref t) 13 1 = some (t + 2) := gO_of (by omega) H.2.1 rfl
  have g2 : gO h (.ref t) 13 2 = some (t + 3) := gO_of (by omega) H.2.1 rfl
  have l2 : ldI .int h (.ref (t + 2)) (jI k) = some (A 3 k) := s2 ▸ H.ld (by decide) (by decide) (by decide) (show k < 11 by omega)
  have l3 : ldI .int h (.ref (t + 3)) (jI k) = some (A 4 k) := s3 ▸ H.ld (by decide) (by decide) (by decide) (show k < 11 by omega)
  have es : szT B k = wdt A 0 k := szT_wdt (K.2.2.1 k hd) s2 s3
  have hsz := size_at H (show k < 11 by omega)
  rw [es] at hsz
  have r0 : rtZ 0 h = some (.inl (some (.int 0)), h) := rfl
  have r1 : rtZ 1 h = some (.inl (some (.int 1)), h) := rfl
  have z1 : ¬ (1 : Int32) = 0 := by decide
  unfold s_X14_nextHere_166
  simp only [g4, g1, g2, l2, l3, Option.bind_some, s_X14_in]
  by_cases q1 : x < A 3 k
  · rw [if_pos q1, if_pos q1]
    simp only [r0, cI, if_true]
  · rw [if_neg q1, if_neg q1]
    by_cases q2 : x ≤ A 4 k
    · rw [if_neg (i32_nlt.mpr q2), if_pos q2]
      simp only [r1, cI, z1, if_false, g4, g1, l2, Option.bind_some, H.kO, hsz, jI_inc]
    · rw [if_pos (i32_nle.mp q2), if_neg q2]
      simp only [r0, cI, if_true]
theorem nh30_go (ht2 : t + 12 < 148 ∨ 149 < t) (K : okW A m F) (S : simT A m F B G) (hvs : okVs m vals) {k4 : Nat → Int32 → Int32 → aH → aO} {k : Nat} (hk : k < m 0) (c : Int32) :
    ∀ (n i f : Nat) (h : aH) (p : Nat → Int32), i + n = F 4 → n + 1 < f → isT h t B W G → isX h t fs → h[148]? = some (.inl (.int, 11, .inl vals)) → h[149]? = some (.inl (.int, 400, .inl p)) →
      ∃ p', s_X14_nextHere_30 k4 f 104 c (jI k) (vals k) 0 (jI i) h = s_X14_nextHere_166 k4 104 c (jI k) (stepGo A vals k i n) (h.set 149 (.inl (.int, 400, .inl p')))
  | _, _, 0, _, _, _, hf, _, _, _, _ => by omega
  | 0, i, f + 1, h, p, hi, hf, H, X, hv, hp => by
    refine ⟨p, ?_⟩
    rw [set_same hp]
    show s_X14_nextHere_30_b k4 (s_X14_nextHere_30 k4 f) 104 c (jI k) (vals k) 0 (jI i) h = _
    have hT := H.1
    have h8 := K.1.2.2.1
    have g4 : gO h (.ref 104) 14 4 = some t := gO_of (ltE (by decide)) X.1 X.2.1
    have g6 : gI h (.ref t) 13 6 = some (jI (F 4)) := S.2.2.1 ▸ gI_of (by omega) H.2.1 rfl
    unfold s_X14_nextHere_30_b
    simp only [g4, g6, Option.bind_some]
    rw [if_pos ((jI_le (by omega) (by omega)).mpr (by omega))]
    rfl
  | n + 1, i, f + 1, h, p, hi, hf, H, X, hv, hp => by
    have hT := H.1
    have h8 := K.1.2.2.1
    have h3 := K.1.1.1
    have g4 : ∀ p1 : Nat → Int32, gO (h.set 149 (.inl (.int, 400, .inl p1))) (.ref 104) 14 4 = some t := fun p1 => gO_of (ltE (by decide)) (X.set (by decide)).1 X.2.1
    have H' : ∀ p1 : Nat → Int32, isT (h.set 149 (.inl (.int, 400, .inl p1))) t B W G := fun p1 => H.set (by omega)
    have X' : ∀ p1 : Nat → Int32, isX (h.set 149 (.inl (.int, 400, .inl p1))) t fs := fun p1 => X.set (by decide)
    have hv' : ∀ p1 : Nat → Int32, (h.set 149 (.inl (.int, 400, .inl p1)))[148]? = some (.inl (.int, 11, .inl vals)) := fun p1 => by rw [set_ne (by decide)]; exact hv
    have g6 : ∀ p1 : Nat → Int32, gI (h.set 149 (.inl (.int, 400, .inl p1))) (.ref t) 13 6 = some (jI (F 4)) := fun p1 => S.2.2.1 ▸ gI_of (by omega) (H' p1).2.1 rfl
    have g8 : ∀ p1 : Nat → Int32, gO (h.set 149 (.inl (.int, 400, .inl p1))) (.ref t) 13 8 = some (t + 7) := fun p1 => gO_of (by omega) (H' p1).2.1 rfl
    have g9 : ∀ p1 : Nat → Int32, gO (h.set 149 (.inl (.int, 400, .inl p1))) (.ref t) 13 9 = some (t + 8) := fun p1 => gO_of (by omega) (H' p1).2.1 rfl
    have g10 : ∀ p1 : Nat → Int32, gO (h.set 149 (.inl (.int, 400, .inl p1))) (.ref t) 13 10 = some (t + 9) := fun p1 => gO_of (by omega) (H' p1).2.1 rfl
    have g11 : ∀ p1 : Nat → Int32, gO (h.set 149 (.inl (.int, 400, .inl p1))) (.ref t) 13 11 = some (t + 10) := fun p1 => gO_of (by omega) (H' p1).2.1 rfl
    obtain ⟨e7, a, b, d, e8, e9, e10, hle, s1, s2⟩ := S.2.2.2.1 i (by omega)
    have l7 : ∀ p1 : Nat → Int32, ldI .int (h.set 149 (.inl (.int, 400, .inl p1))) (.ref (t + 7)) (jI i) = some (A 5 i) := fun p1 => e7 ▸ (H' p1).ld (by decide) (by decide) (by decide) (show i < 8 by omega)
    have l8 : ∀ p1 : Nat → Int32, ldI .int (h.set 149 (.inl (.int, 400, .inl p1))) (.ref (t + 8)) (jI i) = some (jI a) := fun p1 => e8 ▸ (H' p1).ld (by decide) (by decide) (by decide) (show i < 8 by omega)
    have l9 : ∀ p1 : Nat → Int32, ldI .int (h.set 149 (.inl (.int, 400, .inl p1))) (.ref (t + 9)) (jI i) = some (jI (a + b)) := fun p1 => e9 ▸ (H' p1).ld (by decide) (by decide) (by decide) (show i < 8 by omega)
    have l10 : ∀ p1 : Nat → Int32, ldI .int (h.set 149 (.inl (.int, 400, .inl p1))) (.ref (t + 10)) (jI i) = some (jI (a + b + d)) := fun p1 => e10 ▸ (H' p1).ld (by decide) (by decide) (by decide) (show i < 8 by omega)
    have kk : ∀ {β : Type} {k : Option β} (p1 : Nat → Int32), kO (h.set 149 (.inl (.int, 400, .inl p1))) 104 14 k = k := fun {β k} p1 => kO_of (ltE (by decide)) (X' p1).1
    have nq := K.2.1.1 i (by omega)
    have bq := K.2.2.2.1 i (by omega)
    have hU : ∀ o ∈ sgo A 8 9 i, okU o := fun o ho => okU_of K.1.1 (bq.2 o ho) (nq.2 o ho).1 (nq.2 o ho).2
    have hQ : ∀ o ∈ sgo A 8 9 i, okQ vals o.1 ∧ okQ vals o.2.1 := fun o ho => ⟨okQ_of (bq.2 o ho).1 (nq.2 o ho).1 hvs, okQ_of (bq.2 o ho).2 (nq.2 o ho).2 hvs⟩
    have hd0 : d = 0 ↔ sgo A 8 9 i = [] := by
      rw [← testI_nil hU, ← s2]
      constructor
      · rintro rfl; rfl
      · intro z
        have := seg2_len (B 11) (B 12) d (a + b)
        rw [z] at this
        exact this.symm
    have z1 : ¬ (1 : Int32) = 0 := by decide
    -- once found, the walk ends
    have fin : ∀ (p1 : Nat → Int32), ∃ p', s_X14_nextHere_119 k4 (s_X14_nextHere_30 k4 f) 104 c (jI k) (vals k) (jI i) (h.set 149 (.inl (.int, 400, .inl p1))) = s_X14_nextHere_166 k4 104 c (jI k) (sumV vals (sgm A 6 7 i)) (h.set 149 (.inl (.int, 400, .inl p'))) := by
      intro p1
      obtain ⟨p2, v1⟩ := valSum_at (by omega) (H' p1) (X' p1) (hv' p1) (set_eq hp) (show a + b ≤ 400 by omega) s1 (okQ_of bq.1 nq.1 hvs) (okA_of K.1.1 nq.1)
      rw [set_set] at v1
      refine ⟨p2, ?_⟩
      unfold s_X14_nextHere_119 s_X14_nextHere_124
      rw [if_neg z1]
      simp only [g4, g9, g10, l8, l9, Option.bind_some, kk, v1, cI, jI_inc]
      match f, hf with
      | f + 1, _ =>
        show s_X14_nextHere_30_b k4 (s_X14_nextHere_30 k4 f) 104 c (jI k) (sumV vals (sgm A 6 7 i)) 1 (jI (i + 1)) (h.set 149 (.inl (.int, 400, .inl p2))) = _
        unfold s_X14_nextHere_30_b
        simp only [g4, g6, Option.bind_some, z1, if_false, ite_self]
    obtain ⟨p0, hp0⟩ : ∃ p0, p0 = p := ⟨p, rfl⟩
    have hh : h = h.set 149 (.inl (.int, 400, .inl p0)) := by rw [hp0, set_same hp]
    have start : s_X14_nextHere_30 k4 (f + 1) 104 c (jI k) (vals k) 0 (jI i) h = s_X14_nextHere_30_b k4 (s_X14_nextHere_30 k4 f) 104 c (jI k) (vals k) 0 (jI i) (h.set 149 (.inl (.int, 400, .inl p0))) := by rw [← hh]; rfl
    rw [start]
    unfold s_X14_nextHere_30_b
    simp only [g4, g6, g8, l7, Option.bind_some]
    rw [if_neg (fun q => by have := (jI_le (by omega) (by omega)).mp q; omega)]
    simp only [if_true]
    have go : ∀ p1 : Nat → Int32, ∃ p', s_X14_nextHere_30 k4 f 104 c (jI k) (vals k) 0 (jI (i + 1)) (h.set 149 (.inl (.int, 400, .inl p1))) = s_X14_nextHere_166 k4 104 c (jI k) (stepGo A vals k (i + 1) n) (h.set 149 (.inl (.int, 400, .inl p'))) := by
      intro p1
      obtain ⟨p', e⟩ := nh30_go ht2 K S hvs hk c n (i + 1) f _ p1 (by omega) (by omega) (H' p1) (X' p1) (hv' p1) (set_eq hp)
      rw [set_set] at e
      exact ⟨p', e⟩
    by_cases q : A 5 i = jI k
    · rw [if_pos q]
      simp only [g10, g11, l9, l10, Option.bind_some]
      by_cases q0 : d = 0
      · obtain ⟨p', e⟩ := fin p0
        refine ⟨p', ?_⟩
        have e0 : sgo A 8 9 i = [] := hd0.mp q0
        have eg : stepGo A vals k i (n + 1) = sumV vals (sgm A 6 7 i) := by
          unfold stepGo
          rw [if_pos q, e0]
          rfl
        rw [if_pos (by rw [q0]; rfl), eg]
        exact e
      · have hne : sgo A 8 9 i ≠ [] := fun z => q0 (hd0.mpr z)
        rw [if_neg (fun z => q0 (by have := (jI_inj (by omega) (by omega)).mp z; omega))]
        obtain ⟨p2, v1⟩ := valTest_at (by omega) (H' p0) (X' p0) (hv' p0) (set_eq hp) hle s2 hne hQ hU
        rw [set_set] at v1
        simp only [kk, v1, cI]
        by_cases qt : allV vals (sgo A 8 9 i) = true
        · have e1 : b01 (allV vals (sgo A 8 9 i)) = 1 := by rw [qt]; rfl
          obtain ⟨p', e⟩ := fin p2
          refine ⟨p', ?_⟩
          have eg : stepGo A vals k i (n + 1) = sumV vals (sgm A 6 7 i) := by
            unfold stepGo
            rw [if_pos q, if_pos qt]
          rw [if_pos e1, eg]
          exact e
        · have e1 : b01 (allV vals (sgo A 8 9 i)) = 0 := by rw [Bool.eq_false_iff.mpr qt]; rfl
          obtain ⟨p', e⟩ := go p2
          refine ⟨p', ?_⟩
          have eg : stepGo A vals k i (n + 1) = stepGo A vals k (i + 1) n := by
            show (if A 5 i = jI k then (if allV vals (sgo A 8 9 i) = true then _ else _) else _) = _
            rw [if_pos q, if_neg qt]
          rw [if_neg (by rw [e1]; decide), eg]
          unfold s_X14_nextHere_124
          rw [if_pos rfl, jI_inc]
          exact e
    · rw [if_neg q]
      obtain ⟨p', e⟩ := go p0
      refine ⟨p', ?_⟩
      have eg : stepGo A vals k i (n + 1) = stepGo A vals k (i + 1) n := by
        show (if A 5 i = jI k then _ else _) = _
        rw [if_neg q]
      rw [jI_inc, eg]
      exact e
theorem nh4_go (ht2 : t + 12 < 148 ∨ 149 < t) (K : okW A m F) (S : simT A m F B G) (hvs : okVs m vals) :
    ∀ (n i f : Nat) (c : Int32) (h : aH) (p : Nat → Int32), i + n = m 0 → n < f → isT h t B W G → isX h t fs → h[148]? = some (.inl (.int, 11, .inl vals)) → h[149]? = some (.inl (.int, 400, .inl p)) →
      ∃ p', s_X14_nextHere_4 f 104 c (jI i) h = some (.inl (some (.int (cellGo A (fun s => stepGo A vals s 0 (F 4)) i n c))), h.set 149 (.inl (.int, 400, .inl p')))
  | _, _, 0, _, _, _, _, hf, _, _, _, _ => by omega
  | 0, i, f + 1, c, h, p, hi, hf, H, X, hv, hp => by
    refine ⟨p, ?_⟩
    rw [set_same hp]
    show s_X14_nextHere_4_b (s_X14_nextHere_4 f) 104 c (jI i) h = _
    have hT := H.1
    have h3 := K.1.1.1
    have g4 : gO h (.ref 104) 14 4 = some t := gO_of (ltE (by decide)) X.1 X.2.1
    have g0 : gO h (.ref t) 13 0 = some (t + 1) := gO_of (by omega) H.2.1 rfl
    have l1 : ldI .int h (.ref (t + 1)) 0 = some (jI (m 0)) := (S.1 0 (by decide)) ▸ H.ld (k := 1) (j := 0) (by decide) (by decide) (by decide) (by decide)
    unfold s_X14_nextHere_4_b
    simp only [g4, g0, l1, Option.bind_some]
    rw [if_pos ((jI_le (by omega) (by omega)).mpr (by omega))]
    rfl
  | n + 1, i, f + 1, c, h, p, hi, hf, H, X, hv, hp => by
    have hT := H.1
    have h3 := K.1.1.1
    have g4 : gO h (.ref 104) 14 4 = some t := gO_of (ltE (by decide)) X.1 X.2.1
    have g0 : gO h (.ref t) 13 0 = some (t + 1) := gO_of (by omega) H.2.1 rfl
    have g29 : gO h (.ref 104) 14 29 = some 148 := gO_of (ltE (by decide)) X.1 X.2.2.1
    have l1 : ldI .int h (.ref (t + 1)) 0 = some (jI (m 0)) := (S.1 0 (by decide)) ▸ H.ld (k := 1) (j := 0) (by decide) (by decide) (by decide) (by decide)
    have lv : ldI .int h (.ref 148) (jI i) = some (vals i) := ldI_of (ltE (by decide)) hv (show i < 11 by omega) (by decide)
    obtain ⟨p1, e1⟩ := nh30_go ht2 K S hvs (k4 := s_X14_nextHere_4 f) (show i < m 0 by omega) c (F 4) 0 FU h p (by omega) (by have := K.1.2.2.1; unfold FU; omega) H X hv hp
    have e1' : s_X14_nextHere_30 (s_X14_nextHere_4 f) FU 104 c (jI i) (vals i) 0 0 h = _ := e1
    have e2 := nh166_at (k4 := s_X14_nextHere_4 f) K S (H.set (k := 149) (c := .inl (.int, 400, .inl p1)) (by omega)) (X.set (by decide)) (show i < m 0 by omega) c (stepGo A vals i 0 (F 4))
    obtain ⟨p', ih⟩ := nh4_go ht2 K S hvs n (i + 1) f (((c * wdt A 0 i) + stepGo A vals i 0 (F 4)) - A 3 i) (h.set 149 (.inl (.int, 400, .inl p1))) p1 (by omega) (by omega) (H.set (by omega)) (X.set (by decide)) (by rw [set_ne (by decide)]; exact hv) (set_eq hp)
    rw [set_set] at ih
    have start : s_X14_nextHere_4 (f + 1) 104 c (jI i) h = if stepGo A vals i 0 (F 4) < A 3 i then some (.inl (some (.int (-2))), h.set 149 (.inl (.int, 400, .inl p1))) else if stepGo A vals i 0 (F 4) ≤ A 4 i then s_X14_nextHere_4 f 104 (((c * wdt A 0 i) + stepGo A vals i 0 (F 4)) - A 3 i) (jI (i + 1)) (h.set 149 (.inl (.int, 400, .inl p1))) else some (.inl (some (.int (-2))), h.set 149 (.inl (.int, 400, .inl p1))) := by
      rw [← e2, ← e1']
      show s_X14_nextHere_4_b (s_X14_nextHere_4 f) 104 c (jI i) h = _
      unfold s_X14_nextHere_4_b
      simp only [g4, g0, g29, l1, lv, Option.bind_some]
      rw [if_neg (fun q => by have := (jI_le (by omega) (by omega)).mp q; omega)]
    rw [start]
    by_cases q1 : stepGo A vals i 0 (F 4) < A 3 i
    · refine ⟨p1, ?_⟩
      rw [if_pos q1]
      unfold cellGo
      rw [if_pos q1]
    · by_cases q2 : stepGo A vals i 0 (F 4) ≤ A 4 i
      · refine ⟨p', ?_⟩
        rw [if_neg q1, if_pos q2, ih]
        show _ = some (Sum.inl (some (Value.int (if stepGo A vals i 0 (F 4) < A 3 i then -2 else if stepGo A vals i 0 (F 4) ≤ A 4 i then _ else -2))), _)
        rw [if_neg q1, if_pos q2]
      · refine ⟨p1, ?_⟩
        rw [if_neg q1, if_neg q2]
        unfold cellGo
        rw [if_neg q1, if_neg q2]
theorem nextHere_at {h : aH} {p : Nat → Int32} (ht2 : t + 12 < 148 ∨ 149 < t) (K : okW A m F) (S : simT A m F B G) (hvs : okVs m vals) (H : isT h t B W G) (X : isX h t fs) (hv : h[148]? = some (.inl (.int, 11, .inl vals))) (hp : h[149]? = some (.inl (.int, 400, .inl p))) :
    ∃ p', s_X14_nextHere 104 h = some (.inl (some (.int (leadV A m F vals))), h.set 149 (.inl (.int, 400, .inl p'))) :=
  nh4_go ht2 K S hvs (m 0) 0 FU 0 h p (by omega) (by have := K.1.1.1; unfold FU; omega) H X hv hp
end
