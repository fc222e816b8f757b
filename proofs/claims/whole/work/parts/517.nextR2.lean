/-! the reference's reader: stops, the next token, the slot of a name -/
theorem RW.of {h h' : aH} {S : Nat → Int32} {wd : Int64} {t f nv : Value} {V : Nat → Nat → Int32} {Z : Nat → Nat → Int64} (X : RW h S wd t f nv V Z) (g : ∀ k, rfC k = true → h'[k]? = h[k]?) : RW h' S wd t f nv V Z := by
  refine ⟨by rw [g 104 rfl]; exact X.1, fun k hk => ?_, fun k hk => ?_⟩
  · rw [g k (by simp [rfC, hk])]; exact X.2.1 k hk
  · rw [g k (by simp [rfC, hk])]; exact X.2.2 k hk
theorem isT.of {h h' : aH} {t : Nat} {B : Nat → Nat → Int32} {W : Nat → Int64} {G : Nat → Nat} (X : isT h t B W G) (g : ∀ k, t ≤ k → k ≤ t + 12 → h'[k]? = h[k]?) : isT h' t B W G := by
  obtain ⟨a, h0, h1, h2⟩ := X
  exact ⟨a, by rw [g _ (by omega) (by omega)]; exact h0, by rw [g _ (by omega) (by omega)]; exact h1, fun j j1 j2 j3 => by rw [g _ (by omega) (by omega)]; exact h2 j j1 j2 j3⟩
theorem rfC_118 {k : Nat} (h : rfC k = true) : k ≠ 118 := by
  have := of_decide_eq_true h
  rcases this with z | z | z
  · omega
  · have := of_decide_eq_true z; omega
  · have := of_decide_eq_true z; omega
theorem rfC_okt2 {t k : Nat} (ht : okt2 t) (h : rfC k = true) : k < t ∨ t + 12 < k := by
  have := of_decide_eq_true h
  rcases this with z | z | z
  · rcases ht with rfl | rfl | q <;> omega
  · have := of_decide_eq_true z
    rcases ht with rfl | rfl | q <;> omega
  · have := of_decide_eq_true z
    rcases ht with rfl | rfl | q <;> omega
section
variable {h : aH} {S : Nat → Int32} {wd : Int64} {tv fv : Value} {t : Nat} {V : Nat → Nat → Int32} {Z : Nat → Nat → Int64} {T : Nat → Nat} {n k : Nat} {B : Nat → Nat → Int32} {W : Nat → Int64} {G : Nat → Nat}
/-- thrown at the token -/
theorem throw_at (X : RPw h S wd tv fv t V Z T n k) (HT : isT h t B W G) (f : Nat) : ∃ h', kO h 104 14 (cR (s_X14_stop 104 (jI f) h) fun x h10 => kO h10 x 12 (some ((.inr (RX12, x) : aR), h10))) = some ((.inr (RX12, 118) : aR), h') ∧ FaR h h' S tv fv t V Z T n (f, k) := by
  obtain ⟨h', e, s9, l9, o9⟩ := stopAt_at X.1 X.2.2.2.2.2.2.2 (jI f) (jI (tokS T n k).2.1)
  have q := okt2_ne X.2.2.2.2.2.2.1
  refine ⟨h', ?_, s9, ⟨S, wd, X.1.of (fun i hi => o9 i (rfC_118 hi)), fun _ _ => rfl⟩, ⟨B, W, G, HT.of (fun i h1 h2 => o9 i (by omega))⟩, l9, fun i _ h2 _ => o9 i h2⟩
  rw [X.kO]
  unfold s_X14_stop
  rw [X.1.gS (k := 13) rfl, Option.bind_some, X.2.2.2.2.2.1.1, X.kO, e]
  obtain ⟨fs, f0, -⟩ := s9
  simp only [cR]
  exact kO_of (ltE (by decide)) f0
theorem throwA_at (X : RPw h S wd tv fv t V Z T n k) (HT : isT h t B W G) (f q : Nat) : ∃ h', kO h 104 14 (cR (s_X14_stopAt 104 (jI f) (jI (tokS T n q).2.1) h) fun x h10 => kO h10 x 12 (some ((.inr (RX12, x) : aR), h10))) = some ((.inr (RX12, 118) : aR), h') ∧ FaR h h' S tv fv t V Z T n (f, q) := by
  obtain ⟨h', e, s9, l9, o9⟩ := stopAt_at X.1 X.2.2.2.2.2.2.2 (jI f) (jI (tokS T n q).2.1)
  have q9 := okt2_ne X.2.2.2.2.2.2.1
  refine ⟨h', ?_, s9, ⟨S, wd, X.1.of (fun i hi => o9 i (rfC_118 hi)), fun _ _ => rfl⟩, ⟨B, W, G, HT.of (fun i h1 h2 => o9 i (by omega))⟩, l9, fun i _ h2 _ => o9 i h2⟩
  rw [X.kO, e]
  obtain ⟨fs, f0, -⟩ := s9
  simp only [cR]
  exact kO_of (ltE (by decide)) f0
/-- one token further -/
theorem RPw.next (X : RPw h S wd tv fv t V Z T n k) (hk : (tokS T n k).1 ≠ 3) : ∃ h' S' wd', s_X14_next 104 h = some (.inl none, h') ∧ RPw h' S' wd' tv fv t V Z T n (k + 1) ∧ h'.length = h.length ∧ (∀ i, i ≠ 104 → h'[i]? = h[i]?) ∧ ∀ j, (j < 11 ∨ 15 < j) → S' j = S j := by
  obtain ⟨x1, x2, x3, x4, x5, x6, x7, x8⟩ := X
  have r := tokS_rng T n k
  obtain ⟨h', S', wd', e, X', O', a, b⟩ := next_at x3 x2 (i := tkE (tokS T n k)) x4 r.2.1 x1 x5 (x6.2.2.2.2.2 hk)
  have o : ∀ i, i ≠ 104 → h'[i]? = h[i]? := fun i hi => by
    by_cases q : inR i = true
    · rw [X'.2.1 i q, x1.2.1 i q]
    · by_cases q2 : loR i = true
      · rw [X'.2.2 i q2, x1.2.2 i q2]
      · exact O'.2 i (decide_eq_false (fun z => z.elim hi (fun z => z.elim q q2)))
  refine ⟨h', S', wd', e, ⟨X', x2, x3, x4, by rw [a 10 (by omega)]; exact x5, b, x7, ?_⟩, O'.1, o, fun j hj => a j hj⟩
  obtain ⟨fs, f0, f1⟩ := x8
  exact ⟨fs, by rw [o 118 (by decide)]; exact f0, f1⟩
theorem sh12_go (X : RPw h S wd tv fv t V Z T n k) (HT : isT h t B W G) {m : Nat → Nat} {nm : Nat → List Nat} (NM : NmR B W m nm) {w : List Nat} (hw : okWo w) (ew : wd = wL 32 w) {kd : Nat} (hkd : kd < 5) {k2 : Nat → Int32 → aH → aO} : ∀ (c i f : Nat), i + c = m kd → c < f →
    s_X14_slotHere_12 k2 f 104 (jI kd) (jI (bsN kd + i)) h = match slK nm w (bsN kd + i) c with
      | some s => some (.inl (some (.int (jI s))), h)
      | none => k2 104 (jI (kd + 1)) h
  | _, _, 0, _, hf => by omega
  | c, i, f + 1, hi, hf => by
    obtain ⟨m1, m2⟩ := NM.1 kd hkd
    have ht := HT.1
    have g6 : gO h (.ref 104) 14 6 = some t := gO_of (ltE (by decide)) X.1.1 rfl
    have g0 : gO h (.ref t) 13 0 = some (t + 1) := gO_of (by omega) HT.2.1 rfl
    have g5 : gO h (.ref t) 13 5 = some (t + 6) := gO_of (by omega) HT.2.1 rfl
    have l0 : ldI .int h (.ref (t + 1)) (jI kd) = some (jI (m kd)) := by rw [HT.ld (k := 1) (by decide) (by decide) (by decide) (show kd < 5 from hkd), m1]
    match c, hi, hf with
    | 0, hi, hf =>
      show s_X14_slotHere_12_b k2 (s_X14_slotHere_12 k2 f) 104 (jI kd) (jI (bsN kd + i)) h = _
      unfold s_X14_slotHere_12_b
      rw [slotOf_bs (by omega)]
      simp only [cI]
      rw [g6, Option.bind_some, g0, Option.bind_some, l0, Option.bind_some, jI_add, if_pos ((jI_le (by omega) (by omega)).mpr (by omega)), jI_inc]
      rfl
    | c + 1, hi, hf =>
      have e0 : slK nm w (bsN kd + i) (c + 1) = if nm (bsN kd + i) = w then some (bsN kd + i) else slK nm w (bsN kd + i + 1) c := rfl
      obtain ⟨n1, n2⟩ := NM.2 (bsN kd + i) ⟨kd, hkd, by omega, by omega⟩
      have lj : ldJ h (.ref (t + 6)) (jI (bsN kd + i)) = some (wL 32 (nm (bsN kd + i))) := by rw [ldJ_of (by omega) HT.2.2.1 (by omega) (by decide), n1]
      show s_X14_slotHere_12_b k2 (s_X14_slotHere_12 k2 f) 104 (jI kd) (jI (bsN kd + i)) h = _
      unfold s_X14_slotHere_12_b
      rw [slotOf_bs (by omega)]
      simp only [cI]
      rw [g6, Option.bind_some, g0, Option.bind_some, l0, Option.bind_some, jI_add, if_neg (fun z => by have := (jI_le (by omega) (by omega)).mp z; omega), Option.bind_some, g5, Option.bind_some, lj, Option.bind_some, X.1.gW, Option.bind_some, ew, e0]
      by_cases q : nm (bsN kd + i) = w
      · rw [if_pos (cmp_eq.mpr (by rw [q])), if_pos q]
      · rw [if_neg (fun z => q ((wL_inj (Or.inr rfl) n2 hw).mp (cmp_eq.mp z))), if_neg q, jI_inc]
        exact sh12_go X HT NM hw ew hkd c (i + 1) f (by omega) (by omega)
theorem sh2_go (X : RPw h S wd tv fv t V Z T n k) (HT : isT h t B W G) {m : Nat → Nat} {nm : Nat → List Nat} (NM : NmR B W m nm) {w : List Nat} (hw : okWo w) (ew : wd = wL 32 w) : ∀ (r kd f : Nat), kd + r = 5 → r < f → s_X14_slotHere_2 f 104 (jI kd) h = some (.inl (some (.int (oI (slG nm m w kd r)))), h)
  | _, _, 0, _, hf => by omega
  | 0, kd, f + 1, hk, hf => by
    show s_X14_slotHere_2_b (s_X14_slotHere_2 f) 104 (jI kd) h = _
    unfold s_X14_slotHere_2_b
    rw [if_pos (show (5 : Int32) ≤ jI kd from (jI_le (j := 5) (by omega) (by omega)).mpr (by omega))]
    rfl
  | r + 1, kd, f + 1, hk, hf => by
    have hkd : kd < 5 := by omega
    have e := sh12_go X HT NM hw ew hkd (k2 := s_X14_slotHere_2 f) (m kd) 0 FU (by omega) (by have := (NM.1 kd hkd).2; show m kd < 1000000; omega)
    rw [Nat.add_zero] at e
    have e0 : slG nm m w kd (r + 1) = match slK nm w (bsN kd) (m kd) with
      | some s => some s
      | none => slG nm m w (kd + 1) r := rfl
    show s_X14_slotHere_2_b (s_X14_slotHere_2 f) 104 (jI kd) h = _
    unfold s_X14_slotHere_2_b
    rw [if_neg (show ¬ (5 : Int32) ≤ jI kd from fun z => by have := (jI_le (j := 5) (by omega) (by omega)).mp z; omega), slotOf_bs (by omega)]
    simp only [cI]
    rw [e, e0]
    cases slK nm w (bsN kd) (m kd) with
    | some s => rfl
    | none => exact sh2_go X HT NM hw ew r (kd + 1) f (by omega) (by omega)
theorem slotHere_at (X : RPw h S wd tv fv t V Z T n k) (HT : isT h t B W G) {m : Nat → Nat} {nm : Nat → List Nat} (NM : NmR B W m nm) (hk : (tokS T n k).1 = 1) : s_X14_slotHere 104 h = some (.inl (some (.int (oI (slF nm m (tkW T (tokS T n k)))))), h) := by
  obtain ⟨w1, -, w3⟩ := tok_word hk
  exact sh2_go X HT NM w1 ((X.2.2.2.2.2.1.2.2.2.1 hk).trans w3) 5 0 FU rfl (by decide)
end
