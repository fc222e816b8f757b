/-! the reference's watcher: sights, pushes -/
def okTr (V : Nat → Nat → Int32) (ta tv : Nat → Int32) : Prop := ∀ j, j < 62 → V 177 j = ta j ∧ V 176 j = tv j
theorem okTr.sm {V V' : Nat → Nat → Int32} {ta tv : Nat → Int32} (H : okTr V ta tv) (h1 : V' 177 = V 177) (h2 : V' 176 = V 176) : okTr V' ta tv := fun j hj => by rw [h1, h2]; exact H j hj
section
variable {S : Nat → Int32} {wd : Int64} {t : Nat} {fv nv : Value} {Z : Nat → Nat → Int64} {A : Nat → Nat → Int32} {m F : Nat → Nat} {B : Nat → Nat → Int32} {W : Nat → Int64} {G : Nat → Nat}
theorem RC.sightHere {h : aH} {V : Nat → Nat → Int32} (C : RC h S wd t fv nv V Z A m F B W G) (hv : okVs m (V 148)) {i : Nat} (hi : i < m 4) :
    ∃ h' p', s_X14_sightHere 104 (jI i) h = some (.inl (some (.int (sumV (V 148) (sgm A 10 11 i)))), h') ∧ RC h' S wd t fv nv (upd2 V 149 p') Z A m F B W G ∧ Ou h h' := by
  obtain ⟨X, HT, hot, sim, K, hC, -⟩ := id C
  have k4 := K.1.1.2.2.2.2
  have t1 := HT.1
  obtain ⟨a, bb, s1, s2, s3, s4⟩ := sim.2.2.2.2 i hi
  have g4 : gO h (.ref 104) 14 4 = some t := gO_of (ltE (by decide)) X.1 rfl
  have g3 : gO h (.ref t) 13 3 = some (t + 4) := gO_of (by omega) HT.2.1 rfl
  have g5 : gO h (.ref t) 13 4 = some (t + 5) := gO_of (by omega) HT.2.1 rfl
  have es : s_X14_slotOf 4 h = some (.inl (some (.int (jI 9))), h) := slotOfR_at h 4 (by decide)
  have l1 : ldI .int h (.ref (t + 4)) (jI (9 + i)) = some (jI a) := s1 ▸ HT.ld (k := 4) (j := 9 + i) (by decide) (by decide) (by decide) (show 9 + i < 11 by omega)
  have l2 : ldI .int h (.ref (t + 5)) (jI (9 + i)) = some (jI (a + bb)) := s2 ▸ HT.ld (k := 5) (j := 9 + i) (by decide) (by decide) (by decide) (show 9 + i < 11 by omega)
  have hL := K.2.1.2 i hi
  have hB := K.2.2.2.2 i hi
  obtain ⟨p', e⟩ := valSum_at (by have := okt_ne hot; omega) HT X.isX (X.2.1 148 rfl) (X.2.1 149 rfl) s3 s4 (okQ_of hB hL hv) (okA_of K.1.1 hL)
  have r := X.row (a := 149) (g := p') rfl
  refine ⟨_, p', ?_, C.to r.1 r.2, r.2⟩
  unfold s_X14_sightHere
  rw [g4, Option.bind_some, Option.bind_some, g3, Option.bind_some, es]
  simp only [cI, jI_add, l1, Option.bind_some, g4, g5, es, l2, C.kO, e]
  rfl
theorem fh6_go {ta tv : Nat → Int32} {bn fl e : Nat} {v : Nat → Int32} (he : e ≤ 30) (hfl : fl ≤ 100) (hv : okVs m v) : ∀ (n i f : Nat) (q : Bool) (h : aH) (V : Nat → Nat → Int32), i + n = m 4 → n < f → RC h S wd t fv nv V Z A m F B W G → okTr V ta tv → V 148 = v →
    ∃ h' V', s_X14_fitsHere_6 f 104 (jI e) (jI bn) (jI fl) (b01 q) (jI i) h = some (.inl (some (.int (b01 (q && allR (fit1 A m ta tv e (jI bn) fl v) i n)))), h') ∧ RC h' S wd t fv nv V' Z A m F B W G ∧ Ou h h' ∧ Sm [149] V V'
  | _, _, 0, _, _, _, _, hf, _, _, _ => by omega
  | 0, i, f + 1, q, h, V, hk, hf, C, T, h1 => by
    have k4 := C.2.2.2.2.1.1.1.2.2.2.2
    obtain ⟨q1, q2, q3⟩ := C.ldm (k := 4) (by decide)
    have q3' : ldI .int h (.ref (t + 1)) 4 = some (jI (m 4)) := q3
    refine ⟨h, V, ?_, C, Ou.refl, Sm.refl⟩
    show s_X14_fitsHere_6_b (s_X14_fitsHere_6 f) 104 (jI e) (jI bn) (jI fl) (b01 q) (jI i) h = some (.inl (some (.int (b01 (q && true)))), h)
    unfold s_X14_fitsHere_6_b
    rw [q1, Option.bind_some, q2, Option.bind_some, q3', Option.bind_some, if_pos ((jI_le (by omega) (by omega)).mpr (by omega)), Bool.and_true]
    exact rtZ_b _ _
  | n + 1, i, f + 1, q, h, V, hk, hf, C, T, h1 => by
    obtain ⟨X, HT, hot, sim, K, hC, -⟩ := id C
    obtain ⟨k0, k1, k2, k3, k4⟩ := K.1.1
    have hj : 2 * e + i < 62 := by omega
    have ei : (2 * jI e) + jI i = jI (2 * e + i) := by rw [show (2 : Int32) = jI 2 from rfl, jI_mul, jI_add]
    obtain ⟨q1, q2, q3⟩ := C.ldm (k := 4) (by decide)
    have q3' : ldI .int h (.ref (t + 1)) 4 = some (jI (m 4)) := q3
    obtain ⟨-, -, q4⟩ := C.ldm (k := 1) (by decide)
    have q4' : ldI .int h (.ref (t + 1)) 1 = some (jI (m 1)) := q4
    have g62 : gO h (.ref 104) 14 62 = some 177 := gO_of (ltE (by decide)) X.1 rfl
    have l177 : ldI .int h (.ref 177) (jI (2 * e + i)) = some (ta (2 * e + i)) := (T _ hj).1 ▸ X.ld (a := 177) rfl (show 2 * e + i < 62 from hj)
    have start : ∀ {y : aO}, (if ta (2 * e + i) = -1 then s_X14_fitsHere_6 f 104 (jI e) (jI bn) (jI fl) (b01 q) (jI (i + 1)) h else if ta (2 * e + i) ≤ jI bn then (if jI fl = jI (1 + m 1 + i) then s_X14_fitsHere_81 (s_X14_fitsHere_6 f) 104 (jI e) (jI bn) (jI fl) (b01 q) (jI i) (jI (2 * e + i)) 0 h else (cI (s_X14_sightHere 104 (jI i) h) fun x78 h78 => s_X14_fitsHere_81 (s_X14_fitsHere_6 f) 104 (jI e) (jI bn) (jI fl) (b01 q) (jI i) (jI (2 * e + i)) x78 h78)) else s_X14_fitsHere_6 f 104 (jI e) (jI bn) (jI fl) (b01 q) (jI (i + 1)) h) = y → s_X14_fitsHere_6 (f + 1) 104 (jI e) (jI bn) (jI fl) (b01 q) (jI i) h = y := by
      intro y hy
      show s_X14_fitsHere_6_b (s_X14_fitsHere_6 f) 104 (jI e) (jI bn) (jI fl) (b01 q) (jI i) h = _
      unfold s_X14_fitsHere_6_b
      rw [q1, Option.bind_some, q2, Option.bind_some, q3', Option.bind_some, if_neg (fun z => by have := (jI_le (by omega) (by omega)).mp z; omega)]
      have e1m : (1 : Int32) + jI (m 1) = jI (1 + m 1) := jI_add 1 (m 1)
      simp only [g62, ei, l177, Option.bind_some, q1, q2, q4', jI_inc, C.kO, e1m, jI_add]
      exact hy
    show ∃ h' V', s_X14_fitsHere_6 (f + 1) 104 (jI e) (jI bn) (jI fl) (b01 q) (jI i) h = some (.inl (some (.int (b01 (q && (fit1 A m ta tv e (jI bn) fl v i && allR (fit1 A m ta tv e (jI bn) fl v) (i + 1) n))))), h') ∧ _
    by_cases z : ta (2 * e + i) = -1
    · obtain ⟨h', V', ih, r⟩ := fh6_go he hfl hv n (i + 1) f q h V (by omega) (by omega) C T h1
      refine ⟨h', V', start ?_, r⟩
      have e1 : fit1 A m ta tv e (jI bn) fl v i = true := by unfold fit1; rw [if_pos z]
      rw [if_pos z, e1, Bool.true_and]
      exact ih
    · by_cases y : ta (2 * e + i) ≤ jI bn
      · obtain ⟨x, hx⟩ : ∃ x : Int32, x = if fl = m 1 + 1 + i then 0 else sumV v (sgm A 10 11 i) := ⟨_, rfl⟩
        have e1 : fit1 A m ta tv e (jI bn) fl v i = decide (x = tv (2 * e + i)) := by
          unfold fit1
          rw [if_neg z, if_pos y, hx]
        obtain ⟨h2, V2, e2, C2, O2, M2⟩ : ∃ h2 V2, (if jI fl = jI (1 + m 1 + i) then s_X14_fitsHere_81 (s_X14_fitsHere_6 f) 104 (jI e) (jI bn) (jI fl) (b01 q) (jI i) (jI (2 * e + i)) 0 h else (cI (s_X14_sightHere 104 (jI i) h) fun x78 h78 => s_X14_fitsHere_81 (s_X14_fitsHere_6 f) 104 (jI e) (jI bn) (jI fl) (b01 q) (jI i) (jI (2 * e + i)) x78 h78)) = s_X14_fitsHere_81 (s_X14_fitsHere_6 f) 104 (jI e) (jI bn) (jI fl) (b01 q) (jI i) (jI (2 * e + i)) x h2 ∧ RC h2 S wd t fv nv V2 Z A m F B W G ∧ Ou h h2 ∧ Sm [149] V V2 := by
          by_cases u : fl = m 1 + 1 + i
          · refine ⟨h, V, ?_, C, Ou.refl, Sm.refl⟩
            rw [if_pos ((jI_inj (by omega) (by omega)).mpr (by omega)), hx, if_pos u]
          · obtain ⟨h2, p2, e2, C2, O2⟩ := C.sightHere (by rw [h1]; exact hv) (i := i) (by omega)
            refine ⟨h2, _, ?_, C2, O2, Sm.refl.upd (by decide)⟩
            rw [if_neg (fun w => u (by have := (jI_inj (by omega) (by omega)).mp w; omega)), hx, if_neg u, e2, h1]
            rfl
        have g61 : gO h2 (.ref 104) 14 61 = some 176 := gO_of (ltE (by decide)) C2.1.1 rfl
        have T2 : okTr V2 ta tv := T.sm (M2 177 (by decide)) (M2 176 (by decide))
        have l176 : ldI .int h2 (.ref 176) (jI (2 * e + i)) = some (tv (2 * e + i)) := (T2 _ hj).2 ▸ C2.1.ld (a := 176) rfl (show 2 * e + i < 62 from hj)
        obtain ⟨h', V', ih, i1, i2, i3⟩ := fh6_go he hfl hv n (i + 1) f (q && decide (x = tv (2 * e + i))) h2 V2 (by omega) (by omega) C2 T2 (by rw [M2 148 (by decide)]; exact h1)
        refine ⟨h', V', start ?_, i1, O2.trans i2, M2.trans i3⟩
        rw [if_neg z, if_pos y, e2, e1, ← Bool.and_assoc, ← ih]
        unfold s_X14_fitsHere_81 s_X14_fitsHere_104 s_X14_fitsHere_105
        rw [jI_inc]
        cases q with
        | false =>
          rw [if_pos b01_f]
          rfl
        | true =>
          rw [if_neg (show ¬ b01 true = 0 by decide), g61, Option.bind_some, l176, Option.bind_some, Bool.true_and]
          by_cases u : x = tv (2 * e + i)
          · rw [if_pos u, decide_eq_true u]
            rfl
          · rw [if_neg u, decide_eq_false u]
            rfl
      · obtain ⟨h', V', ih, r⟩ := fh6_go he hfl hv n (i + 1) f q h V (by omega) (by omega) C T h1
        refine ⟨h', V', start ?_, r⟩
        have e1 : fit1 A m ta tv e (jI bn) fl v i = true := by
          unfold fit1
          rw [if_neg z, if_neg y]
        rw [if_neg z, if_neg y, e1, Bool.true_and]
        exact ih
theorem RC.fitsHere {ta tv : Nat → Int32} {bn fl e : Nat} (he : e ≤ 30) (hfl : fl ≤ 100) {h : aH} {V : Nat → Nat → Int32} (C : RC h S wd t fv nv V Z A m F B W G) (T : okTr V ta tv) (hv : okVs m (V 148)) {v' : Nat → Int32} (ha : agree m (V 148) v') :
    ∃ h' V', s_X14_fitsHere 104 (jI e) (jI bn) (jI fl) h = some (.inl (some (.int (b01 (fitS A m ta tv e (jI bn) fl v')))), h') ∧ RC h' S wd t fv nv V' Z A m F B W G ∧ Ou h h' ∧ Sm [149] V V' := by
  have k4 := C.2.2.2.2.1.1.1.2.2.2.2
  obtain ⟨h', V', e1, r⟩ := fh6_go (bn := bn) he hfl hv (m 4) 0 FU true h V (by omega) (by unfold FU; omega) C T rfl
  rw [Bool.true_and] at e1
  have e2 : allR (fit1 A m ta tv e (jI bn) fl (V 148)) 0 (m 4) = fitS A m ta tv e (jI bn) fl v' := fitS_congr C.2.2.2.2.1.2.1 ha (fun i _ => ⟨rfl, rfl⟩) (fun i _ _ => Iff.rfl)
  rw [e2] at e1
  exact ⟨h', V', e1, r⟩
theorem RC.handed {tp : Nat → Int32} {fl e q : Nat} (he : e ≤ 30) (hfl : fl ≤ 100) {h : aH} {V : Nat → Nat → Int32} (C : RC h S wd t fv nv V Z A m F B W G) (htp : V 175 e = tp e) (hq : tp e = jI q) (hq2 : q < F 13) :
    ∃ h' g, s_X14_handed 104 (jI e) (jI fl) h = some (.inl none, h') ∧ RC h' S wd t fv nv (upd2 V 148 g) Z A m F B W G ∧ Ou h h' ∧ (∀ s, 3 ≤ s → s < 3 + m 1 → ∀ v, g s = sprGo A 0 3 (m 1) (jI (pfS A m tp e fl)) v s) ∧ ∀ s, (s < 3 ∨ 3 + m 1 ≤ s) → g s = V 148 s := by
  obtain ⟨X, HT, hot, sim, K, hC, -⟩ := id C
  obtain ⟨k0, k1, k2, k3, k4⟩ := K.1.1
  have h9 := hC.2.2.2.2.2.1
  have t1 := HT.1
  have g60 : gO h (.ref 104) 14 60 = some 175 := gO_of (ltE (by decide)) X.1 rfl
  have l175 : ldI .int h (.ref 175) (jI e) = some (jI q) := by
    rw [← hq, ← htp]
    exact X.ld (a := 175) rfl (show e < 31 by omega)
  obtain ⟨h1, e1, C1, O1⟩ := C.pushed (jI q)
  by_cases z : 1 ≤ fl ∧ fl ≤ m 1
  · obtain ⟨q1, q2, q3⟩ := C1.ldm (k := 1) (by decide)
    have q3' : ldI .int h1 (.ref (t + 1)) 1 = some (jI (m 1)) := q3
    have HT1 := C1.2.1
    have d3 : decl m (3 + (fl - 1)) := Or.inr (Or.inl ⟨by omega, by omega⟩)
    have a1 : gO h1 (.ref t) 13 1 = some (t + 2) := gO_of (by omega) HT1.2.1 rfl
    have a2 : gO h1 (.ref t) 13 2 = some (t + 3) := gO_of (by omega) HT1.2.1 rfl
    have lo : ldI .int h1 (.ref (t + 2)) (jI (3 + (fl - 1))) = some (A 3 (3 + (fl - 1))) := by
      rw [← (sim.2.1 _ d3).1]
      exact HT1.ld (k := 2) (by decide) (by decide) (by decide) (show 3 + (fl - 1) < 11 by omega)
    have hi : ldI .int h1 (.ref (t + 3)) (jI (3 + (fl - 1))) = some (A 4 (3 + (fl - 1))) := by
      rw [← (sim.2.1 _ d3).2]
      exact HT1.ld (k := 3) (by decide) (by decide) (by decide) (show 3 + (fl - 1) < 11 by omega)
    have es : s_X14_slotOf 1 h1 = some (.inl (some (.int (jI 3))), h1) := slotOfR_at h1 1 (by decide)
    have g29 : gO h1 (.ref 104) 14 29 = some 148 := gO_of (ltE (by decide)) C1.1.1 rfl
    obtain ⟨h2, e2, X2, O2⟩ := C1.1.st (a := 148) (j := 3 + (fl - 1)) rfl rfl (show 3 + (fl - 1) < 11 by omega) (jmax (A 3 (3 + (fl - 1))) (jmin (A 4 (3 + (fl - 1))) 0))
    rw [upd2_2, upd2_eq] at X2
    refine ⟨h2, _, ?_, (C.to X2 (O1.trans O2)), O1.trans O2, fun s s1 s2 v => ?_, fun s hs => ?_⟩
    · unfold s_X14_handed
      rw [g60, Option.bind_some, l175, Option.bind_some, C.kO, e1]
      simp only [cN]
      rw [jI_dec (by omega), if_neg (jI_neg (by omega)), q1, Option.bind_some, q2, Option.bind_some, q3', Option.bind_some, if_pos ((jI_lt (by omega) (by omega)).mpr (by omega)), es]
      simp only [cI, g29, q1, a1, a2, Option.bind_some, jI_add, lo, hi, e2]
    · rw [pf_spr K hC hq hq2 z v (V 148) s1 s2]
      rfl
    · rw [upd_ne (by omega), spr_out A 0 3 (m 1) _ _ s (by omega)]
  · refine ⟨h1, _, ?_, C1, O1, fun s s1 s2 v => ?_, fun s hs => spr_out A 0 3 (m 1) _ _ s (by omega)⟩
    · unfold s_X14_handed
      rw [g60, Option.bind_some, l175, Option.bind_some, C.kO, e1]
      simp only [cN]
      by_cases u : fl = 0
      · rw [u, if_pos (show jI 0 - 1 < 0 by decide)]
      · obtain ⟨q1, q2, q3⟩ := C1.ldm (k := 1) (by decide)
        have q3' : ldI .int h1 (.ref (t + 1)) 1 = some (jI (m 1)) := q3
        rw [jI_dec (by omega), if_neg (jI_neg (by omega)), q1, Option.bind_some, q2, Option.bind_some, q3', Option.bind_some, if_neg (fun w => by have := (jI_lt (by omega) (by omega)).mp w; omega)]
    · have ep : pfS A m tp e fl = q := by
        unfold pfS
        rw [if_neg z, hq, jI_cl (by omega)]
      rw [ep]
      exact spr_in A 0 3 (m 1) _ _ _ s s1 s2
end
