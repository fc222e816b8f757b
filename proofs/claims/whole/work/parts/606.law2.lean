/-! the law: all calls -/
section
variable {L : Nat} {xs : Nat → Int32}
theorem law_one {j : Nat} {k23 : Nat → Nat → Nat → Int32 → aH → Nat → Nat → aP} {h : aH} {c z : Nat} (I : LI h c z j) (hk : KK k23 j) (S : SX L xs j) (s0 : sX L xs (jI j) = some (xs j)) (q : ¬ (Int32.ofNat L) - 6 < jI j) : RR (s_L_law_23_b L xs k23 0 104 183 (jI j) h c z) := by
  unfold s_L_law_23_b
  rw [if_neg q, s0, Option.bind_some]
  by_cases q0 : (xs j &&& 63) = 0
  · rw [if_pos q0]
    exact law_236 I hk S
  rw [if_neg q0]
  by_cases q1 : (xs j &&& 63) = 1
  · rw [if_pos q1]
    exact law_309 I hk S
  rw [if_neg q1]
  by_cases q2 : (xs j &&& 63) = 2
  · rw [if_pos q2]
    exact law_334 I hk S
  rw [if_neg q2]
  by_cases q3 : (xs j &&& 63) = 3
  · rw [if_pos q3]
    exact law_359 I hk S
  rw [if_neg q3]
  by_cases q4 : (xs j &&& 63) = 4
  · rw [if_pos q4]
    exact law_384 I hk S
  rw [if_neg q4]
  by_cases q5 : (xs j &&& 63) = 5
  · rw [if_pos q5]
    exact law_409 I hk S
  rw [if_neg q5]
  by_cases q6 : (xs j &&& 63) = 6
  · rw [if_pos q6]
    exact law_422 I hk S
  rw [if_neg q6]
  by_cases q7 : (xs j &&& 63) = 7
  · rw [if_pos q7]
    exact law_435 I hk S
  rw [if_neg q7]
  by_cases q8 : (xs j &&& 63) = 8
  · rw [if_pos q8]
    exact law_460 I hk S
  rw [if_neg q8]
  by_cases q9 : (xs j &&& 63) = 9
  · rw [if_pos q9]
    exact law_509 I hk S
  rw [if_neg q9]
  by_cases q10 : (xs j &&& 63) = 10
  · rw [if_pos q10]
    exact law_546 I hk S
  rw [if_neg q10]
  by_cases q11 : (xs j &&& 63) = 11
  · rw [if_pos q11]
    exact law_583 I hk S
  rw [if_neg q11]
  by_cases q12 : (xs j &&& 63) = 12
  · rw [if_pos q12]
    exact law_632 I hk S
  rw [if_neg q12]
  by_cases q13 : (xs j &&& 63) = 13
  · rw [if_pos q13]
    exact law_693 I hk S
  rw [if_neg q13]
  by_cases q14 : (xs j &&& 63) = 14
  · rw [if_pos q14]
    exact law_706 I hk S
  rw [if_neg q14]
  by_cases q15 : (xs j &&& 63) = 15
  · rw [if_pos q15]
    exact law_731 I hk S
  rw [if_neg q15]
  by_cases q16 : (xs j &&& 63) = 16
  · rw [if_pos q16]
    exact law_756 I hk S
  rw [if_neg q16]
  by_cases q17 : (xs j &&& 63) = 17
  · rw [if_pos q17]
    exact law_781 I hk S
  rw [if_neg q17]
  by_cases q18 : (xs j &&& 63) = 18
  · rw [if_pos q18]
    exact law_806 I hk S
  rw [if_neg q18]
  by_cases q19 : (xs j &&& 63) = 19
  · rw [if_pos q19]
    exact law_843 I hk S
  rw [if_neg q19]
  by_cases q20 : (xs j &&& 63) = 20
  · rw [if_pos q20]
    exact law_880 I hk S
  rw [if_neg q20]
  by_cases q21 : (xs j &&& 63) = 21
  · rw [if_pos q21]
    exact law_960 I hk S
  rw [if_neg q21]
  by_cases q22 : (xs j &&& 63) = 22
  · rw [if_pos q22]
    exact law_985 I hk S
  rw [if_neg q22]
  by_cases q23 : (xs j &&& 63) = 23
  · rw [if_pos q23]
    exact law_1026 I hk S
  rw [if_neg q23]
  by_cases q24 : (xs j &&& 63) = 24
  · rw [if_pos q24]
    exact law_1051 I hk S
  rw [if_neg q24]
  by_cases q25 : (xs j &&& 63) = 25
  · rw [if_pos q25]
    exact law_1100 I hk S
  rw [if_neg q25]
  by_cases q26 : (xs j &&& 63) = 26
  · rw [if_pos q26]
    exact law_1154 I hk S
  rw [if_neg q26]
  by_cases q27 : (xs j &&& 63) = 27
  · rw [if_pos q27]
    exact law_1215 I hk S
  rw [if_neg q27]
  by_cases q28 : (xs j &&& 63) = 28
  · rw [if_pos q28]
    exact law_1240 I hk S
  rw [if_neg q28]
  by_cases q29 : (xs j &&& 63) = 29
  · rw [if_pos q29]
    exact law_1289 I hk S
  rw [if_neg q29]
  by_cases q30 : (xs j &&& 63) = 30
  · rw [if_pos q30]
    exact law_1314 I hk S
  rw [if_neg q30]
  by_cases q31 : (xs j &&& 63) = 31
  · rw [if_pos q31]
    exact law_1339 I hk S
  rw [if_neg q31]
  by_cases q32 : (xs j &&& 63) = 32
  · rw [if_pos q32]
    exact law_1392 I hk S
  rw [if_neg q32]
  by_cases q33 : (xs j &&& 63) = 33
  · rw [if_pos q33]
    exact law_1405 I hk S
  rw [if_neg q33]
  by_cases q34 : (xs j &&& 63) = 34
  · rw [if_pos q34]
    exact law_1430 I hk S
  rw [if_neg q34]
  by_cases q35 : (xs j &&& 63) = 35
  · rw [if_pos q35]
    exact law_1443 I hk S
  rw [if_neg q35]
  by_cases q36 : (xs j &&& 63) = 36
  · rw [if_pos q36]
    exact law_1468 I hk S
  rw [if_neg q36]
  by_cases q37 : (xs j &&& 63) = 37
  · rw [if_pos q37]
    exact law_1481 I hk S
  rw [if_neg q37]
  by_cases q38 : (xs j &&& 63) = 38
  · rw [if_pos q38]
    exact law_1554 I hk S
  rw [if_neg q38]
  by_cases q39 : (xs j &&& 63) = 39
  · rw [if_pos q39]
    exact law_1579 I hk S
  rw [if_neg q39]
  by_cases q40 : (xs j &&& 63) = 40
  · rw [if_pos q40]
    exact law_1592 I hk S
  rw [if_neg q40]
  by_cases q41 : (xs j &&& 63) = 41
  · rw [if_pos q41]
    exact law_1617 I hk S
  rw [if_neg q41]
  by_cases q42 : (xs j &&& 63) = 42
  · rw [if_pos q42]
    exact law_1654 I hk S
  rw [if_neg q42]
  by_cases q43 : (xs j &&& 63) = 43
  · rw [if_pos q43]
    exact law_1679 I hk S
  rw [if_neg q43]
  by_cases q44 : (xs j &&& 63) = 44
  · rw [if_pos q44]
    exact law_1692 I hk S
  rw [if_neg q44]
  unfold s_L_law_1705
  obtain ⟨c0, z0, s, a, b⟩ := I
  exact hk h c z ⟨c0, z0, s, by omega, by omega⟩
theorem law_end (hL : L ≤ 3072) {j : Nat} (hj : j ≤ 3072) : (Int32.ofNat L) - 6 < jI j ↔ L < j + 6 := by
  by_cases q : 6 ≤ L
  · have e : (Int32.ofNat L) - 6 = jI (L - 6) := jI_sub q
    rw [e, jI_lt (by omega) (by omega)]
    omega
  · have e : ∀ l, l < 6 → (Int32.ofNat l - 6).toInt < 0 := by decide
    have e1 := e L (by omega)
    refine ⟨fun _ => by omega, fun _ => Int32.lt_iff_toInt_lt.mpr ?_⟩
    rw [jI_int (by omega)]
    omega
theorem sX_at {i : Nat} (hi : i < L) (hL : L ≤ 3072) : sX L xs (jI i) = some (xs i) := by
  unfold sX
  rw [jI_cl (by omega), if_neg]
  rintro (z | z)
  · exact jI_neg (by omega) z
  · omega
theorem law_go (hL : L ≤ 3072) : ∀ (n j f : Nat) (h : aH) (c z : Nat), L < j + 6 * n + 6 → n < f → j ≤ 3072 → LI h c z j → RR (s_L_law_23 L xs f 0 104 183 (jI j) h c z)
  | _, _, 0, _, _, _, _, hf, _, _ => absurd hf (Nat.not_lt_zero _)
  | n, j, f + 1, h, c, z, hn, hf, hj, I => by
    show RR (s_L_law_23_b L xs (s_L_law_23 L xs f) 0 104 183 (jI j) h c z)
    by_cases q : L < j + 6
    · unfold s_L_law_23_b
      rw [if_pos ((law_end hL hj).mpr q)]
      exact ⟨h, if_pos (I.bd (by omega))⟩
    · match n, hn, hf with
      | 0, hn, hf => exact absurd hn (by omega)
      | n + 1, hn, hf =>
        have ad : ∀ i, (jI j + jI i : Int32) = jI (j + i) := fun i => jI_add j i
        have r : ∀ i, j + i < L → sX L xs (jI j + jI i) = some (xs (j + i)) := fun i hi => by
          rw [ad]
          exact sX_at hi hL
        refine law_one I (fun h c z I2 => ?_) ⟨by omega, r 1 (by omega), r 2 (by omega), r 3 (by omega), r 4 (by omega), r 5 (by omega)⟩ (sX_at (by omega) hL) (fun z => q ((law_end hL hj).mp z))
        have e : (jI j + 6 : Int32) = jI (j + 6) := ad 6
        rw [e]
        exact law_go hL n (j + 6) f h c z (by omega) (by omega) (by omega) I2
end
