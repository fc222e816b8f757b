/-! claims, both sides -/
section
variable {h : aH} {S : Nat → Nat → Int32} {V : Nat → Nat → Int32} {Z : Nat → Nat → Int64} {D Ln : Nat → Nat} {b : Nat} {A : Nat → Nat → Int32} {N : Nat → Int64} {m F : Nat → Nat}
theorem ll2_go (C : CC h S V Z D Ln b A N m F) (M : okMv V A m F) (L : lenMv Ln F) {cl : Nat → Int32} (hcl : ∀ c, c < F 12 → V 102 c = cl c) (hok : okCl cl (F 12)) {c p : Nat} (hc : c < F 12) (hp : p < F 13) : ∀ (n w f : Nat), w + n = F 14 → n < f →
    s_X5_leadsToLess_2 f 99 (jI c) (jI p) (jI w) h = some (.inl (some (.int (b01 (allR (fun w => lsB cl c (ldV A m F c p w)) w n)))), h)
  | _, _, 0, _, hf => by omega
  | 0, w, f + 1, hk, hf => by
    have h27 := C.2.2.2.1.2.2.2.2.2.2.1
    have g0 : gO h (.ref 99) 5 0 = some 3 := gO_of (ltE (by decide)) (C.1.1 99 rfl) rfl
    show s_X5_leadsToLess_2_b (s_X5_leadsToLess_2 f) 99 (jI c) (jI p) (jI w) h = _
    unfold s_X5_leadsToLess_2_b
    rw [g0, Option.bind_some, C.f14, Option.bind_some, if_pos ((jI_le (by omega) (by omega)).mpr (by omega))]
    rfl
  | n + 1, w, f + 1, hk, hf => by
    obtain ⟨X, HM, K, hC, hwd⟩ := id C
    have h27 := hC.2.2.2.2.2.2.1
    have h400 := hC.2.2.2.2.1
    have g0 : gO h (.ref 99) 5 0 = some 3 := gO_of (ltE (by decide)) (X.1 99 rfl) rfl
    have g1 : gO h (.ref 99) 5 1 = some 56 := gO_of (ltE (by decide)) (X.1 99 rfl) rfl
    have g9 : gO h (.ref 99) 5 9 = some 102 := gO_of (ltE (by decide)) (X.1 99 rfl) rfl
    have ih := ll2_go C M L hcl hok hc hp n (w + 1) f (by omega) (by omega)
    have lc : ldI .int h (.ref 102) (jI c) = some (cl c) := (hcl c hc) ▸ X.ld (a := 102) rfl (show c < 400 by omega)
    show s_X5_leadsToLess_2_b (s_X5_leadsToLess_2 f) 99 (jI c) (jI p) (jI w) h = some (.inl (some (.int (b01 (lsB cl c (ldV A m F c p w) && allR (fun w => lsB cl c (ldV A m F c p w)) (w + 1) n)))), h)
    unfold s_X5_leadsToLess_2_b
    rw [g0, Option.bind_some, C.f14, Option.bind_some, if_neg (fun q => by have := (jI_le (by omega) (by omega)).mp q; omega), g1, Option.bind_some, kO_of (ltE (by decide)) (X.1 56 rfl), C.leadOf M L hc hp (show w < F 14 by omega)]
    simp only [cI]
    rcases ldV_is K hC c p w with y | ⟨d, y, hd⟩
    · rw [y, if_pos (by decide)]
      rfl
    · have ld : ldI .int h (.ref 102) (jI d) = some (cl d) := (hcl d hd) ▸ X.ld (a := 102) rfl (show d < 400 by omega)
      have es : lsB cl c (jI d) = (decide (cl d ≠ -1) && decide (cl d < cl c)) := by
        unfold lsB
        rw [if_neg (jI_m2 (by omega)), jI_cl (by omega)]
      rw [y, es, if_neg (jI_neg (by omega)), g9]
      simp only [Option.bind_some, ld, lc]
      by_cases z : cl d = -1
      · rw [if_pos ((neg1 (hok d hd)).mpr z), z]
        rfl
      · rw [if_neg (fun t => z ((neg1 (hok d hd)).mp t)), decide_eq_true z, Bool.true_and]
        by_cases u : cl d < cl c
        · rw [if_pos u, decide_eq_true u, Bool.true_and, jI_inc]
          exact ih
        · rw [if_neg u, decide_eq_false u]
          rfl
theorem sd33_go (C : CC h S V Z D Ln b A N m F) (M : okMv V A m F) (L : lenMv Ln F) {cl : Nat → Int32} (hcl : ∀ c, c < F 12 → V 102 c = cl c) (hok : okCl cl (F 12)) {c : Nat} (hc : c < F 12) : ∀ (n p f : Nat), p + n = F 13 → n < f →
    s_X5_stands_33 f 99 (jI c) (jI p) h = some (.inl (some (.int (b01 (anyR (fun p => allR (fun w => lsB cl c (ldV A m F c p w)) 0 (F 14)) p n)))), h)
  | _, _, 0, _, hf => by omega
  | 0, p, f + 1, hk, hf => by
    have h9 := C.2.2.2.1.2.2.2.2.2.1
    have g0 : gO h (.ref 99) 5 0 = some 3 := gO_of (ltE (by decide)) (C.1.1 99 rfl) rfl
    show s_X5_stands_33_b (s_X5_stands_33 f) 99 (jI c) (jI p) h = _
    unfold s_X5_stands_33_b
    rw [g0, Option.bind_some, C.f13, Option.bind_some, if_pos ((jI_le (by omega) (by omega)).mpr (by omega))]
    rfl
  | n + 1, p, f + 1, hk, hf => by
    have h9 := C.2.2.2.1.2.2.2.2.2.1
    have h27 := C.2.2.2.1.2.2.2.2.2.2.1
    have g0 : gO h (.ref 99) 5 0 = some 3 := gO_of (ltE (by decide)) (C.1.1 99 rfl) rfl
    have ih := sd33_go C M L hcl hok hc n (p + 1) f (by omega) (by omega)
    have e1 : s_X5_leadsToLess 99 (jI c) (jI p) h = _ := ll2_go C M L hcl hok hc (show p < F 13 by omega) (F 14) 0 FU (by omega) (by unfold FU; omega)
    show s_X5_stands_33_b (s_X5_stands_33 f) 99 (jI c) (jI p) h = some (.inl (some (.int (b01 (allR (fun w => lsB cl c (ldV A m F c p w)) 0 (F 14) || anyR (fun p => allR (fun w => lsB cl c (ldV A m F c p w)) 0 (F 14)) (p + 1) n)))), h)
    unfold s_X5_stands_33_b
    rw [g0, Option.bind_some, C.f13, Option.bind_some, if_neg (fun q => by have := (jI_le (by omega) (by omega)).mp q; omega), kO_of (ltE (by decide)) (C.1.1 99 rfl), e1]
    simp only [cI, jI_inc]
    cases z : allR (fun w => lsB cl c (ldV A m F c p w)) 0 (F 14) with
    | false =>
      rw [if_pos b01_f, Bool.false_or]
      exact ih
    | true =>
      rw [if_neg (show ¬ b01 true = 0 by decide)]
      rfl
theorem CC.stands (C : CC h S V Z D Ln b A N m F) (M : okMv V A m F) (L : lenMv Ln F) {good goal : Nat → Bool} (hgd : gdC V good) (hgl : glC V goal) {cl : Nat → Int32} (hcl : ∀ c, c < F 12 → V 102 c = cl c) (hok : okCl cl (F 12)) {c : Nat} (hc : c < F 12) :
    s_X5_stands 99 (jI c) h = some (.inl (some (.int (b01 (stB (ldV A m F) (F 13) (F 14) good goal cl c)))), h) := by
  obtain ⟨X, HM, K, hC, hwd⟩ := id C
  have h9 := hC.2.2.2.2.2.1
  have h400 := hC.2.2.2.2.1
  have g2 : gO h (.ref 99) 5 2 = some 60 := gO_of (ltE (by decide)) (X.1 99 rfl) rfl
  have g9 : gO h (.ref 99) 5 9 = some 102 := gO_of (ltE (by decide)) (X.1 99 rfl) rfl
  have lc : ldI .int h (.ref 102) (jI c) = some (cl c) := (hcl c hc) ▸ X.ld (a := 102) rfl (show c < 400 by omega)
  unfold s_X5_stands stB
  rw [g2, Option.bind_some, kO_of (ltE (by decide)) (X.1 60 rfl), isGood_at X hgd (show c < 400 by omega)]
  simp only [cI]
  cases z : good c with
  | false =>
    rw [if_pos b01_f, Bool.false_and]
    rfl
  | true =>
    rw [if_neg (show ¬ b01 true = 0 by decide), g9, Option.bind_some, lc, Option.bind_some, Bool.true_and]
    by_cases q : cl c = 0
    · rw [if_pos q, if_pos q, g2, Option.bind_some, kO_of (ltE (by decide)) (X.1 60 rfl), isGoal_at X hgl (show c < 400 by omega)]
      exact rtZ_b _ _
    · rw [if_neg q, if_neg q]
      exact sd33_go C M L hcl hok hc (F 13) 0 FU (by omega) (by unfold FU; omega)
theorem fb2_go (C : CC h S V Z D Ln b A N m F) (M : okMv V A m F) (L : lenMv Ln F) {good goal : Nat → Bool} (hgd : gdC V good) (hgl : glC V goal) {cl : Nat → Int32} (hcl : ∀ c, c < F 12 → V 102 c = cl c) (hok : okCl cl (F 12)) : ∀ (n c f : Nat), c + n = F 12 → n < f →
    s_X5_firstBreak_2 f 99 (jI c) h = some (.inl (some (.int (fbG (stB (ldV A m F) (F 13) (F 14) good goal cl) cl c n))), h)
  | _, _, 0, _, hf => by omega
  | 0, c, f + 1, hk, hf => by
    have h400 := C.2.2.2.1.2.2.2.2.1
    have g0 : gO h (.ref 99) 5 0 = some 3 := gO_of (ltE (by decide)) (C.1.1 99 rfl) rfl
    show s_X5_firstBreak_2_b (s_X5_firstBreak_2 f) 99 (jI c) h = _
    unfold s_X5_firstBreak_2_b
    rw [g0, Option.bind_some, C.f12, Option.bind_some, if_pos ((jI_le (by omega) (by omega)).mpr (by omega))]
    rfl
  | n + 1, c, f + 1, hk, hf => by
    have h400 := C.2.2.2.1.2.2.2.2.1
    have g0 : gO h (.ref 99) 5 0 = some 3 := gO_of (ltE (by decide)) (C.1.1 99 rfl) rfl
    have g9 : gO h (.ref 99) 5 9 = some 102 := gO_of (ltE (by decide)) (C.1.1 99 rfl) rfl
    have lc : ldI .int h (.ref 102) (jI c) = some (cl c) := (hcl c (by omega)) ▸ C.1.ld (a := 102) rfl (show c < 400 by omega)
    have ih := fb2_go C M L hgd hgl hcl hok n (c + 1) f (by omega) (by omega)
    have es := C.stands M L hgd hgl hcl hok (show c < F 12 by omega)
    have ei : s_X5_isClaimed 99 (jI c) h = some (.inl (some (.int (b01 (decide (cl c ≠ -1))))), h) := by
      unfold s_X5_isClaimed
      rw [g9, Option.bind_some, lc, Option.bind_some]
      by_cases z : cl c = -1
      · rw [if_pos ((neg1 (hok c (by omega))).mpr z), z]
        rfl
      · rw [if_neg (fun t => z ((neg1 (hok c (by omega))).mp t)), decide_eq_true z]
        rfl
    show s_X5_firstBreak_2_b (s_X5_firstBreak_2 f) 99 (jI c) h = some (.inl (some (.int (if cl c = -1 then _ else if stB (ldV A m F) (F 13) (F 14) good goal cl c then _ else jI c))), h)
    unfold s_X5_firstBreak_2_b
    rw [g0, Option.bind_some, C.f12, Option.bind_some, if_neg (fun q => by have := (jI_le (by omega) (by omega)).mp q; omega), kO_of (ltE (by decide)) (C.1.1 99 rfl), ei]
    simp only [cI]
    by_cases z : cl c = -1
    · rw [if_pos z, decide_eq_false (fun t => t z), if_pos b01_f, jI_inc]
      exact ih
    · rw [if_neg z, decide_eq_true z, if_neg (show ¬ b01 true = 0 by decide), kO_of (ltE (by decide)) (C.1.1 99 rfl), es]
      simp only [cI]
      cases u : stB (ldV A m F) (F 13) (F 14) good goal cl c with
      | false =>
        rw [if_pos b01_f]
        rfl
      | true =>
        rw [if_neg (show ¬ b01 true = 0 by decide), jI_inc]
        exact ih
end
section
variable {h : aH} {S : Nat → Int32} {wd : Int64} {t : Nat} {fv nv : Value} {V : Nat → Nat → Int32} {Z : Nat → Nat → Int64} {A : Nat → Nat → Int32} {m F : Nat → Nat} {B : Nat → Nat → Int32} {W : Nat → Int64} {G : Nat → Nat}
theorem RC.g20 (C : RC h S wd t fv nv V Z A m F B W G) : gI h (.ref 104) 14 20 = some (jI (F 12)) := C.2.2.2.2.2.2.1 ▸ gI_of (ltE (by decide)) C.1.1 rfl
theorem RC.g21 (C : RC h S wd t fv nv V Z A m F B W G) : gI h (.ref 104) 14 21 = some (jI (F 13)) := C.2.2.2.2.2.2.2.1 ▸ gI_of (ltE (by decide)) C.1.1 rfl
theorem RC.g22 (C : RC h S wd t fv nv V Z A m F B W G) : gI h (.ref 104) 14 22 = some (jI (F 14)) := C.2.2.2.2.2.2.2.2.1 ▸ gI_of (ltE (by decide)) C.1.1 rfl
theorem RC.g23 (C : RC h S wd t fv nv V Z A m F B W G) : gI h (.ref 104) 14 23 = some (jI (F 15)) := C.2.2.2.2.2.2.2.2.2 ▸ gI_of (ltE (by decide)) C.1.1 rfl
theorem h45_go (C : RC h S wd t fv nv V Z A m F B W G) (L : okLd V A m F) {cl : Nat → Int32} (hcl : ∀ c, c < F 12 → V 150 c = cl c) {c p : Nat} (hc : c < F 12) (hp : p < F 13) {an : Bool} {k31 : Nat → Int32 → Int32 → Int32 → aH → aO} : ∀ (n w f : Nat) (q : Bool), w + n = F 14 → n < f →
    s_X14_holds_45 k31 f 104 (jI c) (b01 an) (jI p) (b01 q) (jI w) h = k31 104 (jI c) (b01 (an || (q && allR (fun w => lsB cl c (ldV A m F c p w)) w n))) (jI (p + 1)) h
  | _, _, 0, _, _, hf => by omega
  | 0, w, f + 1, q, hk, hf => by
    have h27 := C.2.2.2.2.2.1.2.2.2.2.2.2.1
    show s_X14_holds_45_b k31 (s_X14_holds_45 k31 f) 104 (jI c) (b01 an) (jI p) (b01 q) (jI w) h = _
    unfold s_X14_holds_45_b s_X14_holds_125 s_X14_holds_130
    rw [C.g22, Option.bind_some, if_pos ((jI_le (by omega) (by omega)).mpr (by omega)), jI_inc]
    show _ = k31 104 (jI c) (b01 (an || (q && true))) (jI (p + 1)) h
    cases an <;> cases q <;> rfl
  | n + 1, w, f + 1, q, hk, hf => by
    obtain ⟨X, HT, hot, sim, KW, hC, -⟩ := id C
    have h27 := hC.2.2.2.2.2.2.1
    have h400 := hC.2.2.2.2.1
    have ih := fun q => h45_go C L hcl hc hp (an := an) (k31 := k31) n (w + 1) f q (by omega) (by omega)
    have g31 : gO h (.ref 104) 14 31 = some 150 := gO_of (ltE (by decide)) X.1 rfl
    have lc : ldI .int h (.ref 150) (jI c) = some (cl c) := (hcl c hc) ▸ X.ld (a := 150) rfl (show c < 400 by omega)
    show s_X14_holds_45_b k31 (s_X14_holds_45 k31 f) 104 (jI c) (b01 an) (jI p) (b01 q) (jI w) h = k31 104 (jI c) (b01 (an || (q && (lsB cl c (ldV A m F c p w) && allR (fun w => lsB cl c (ldV A m F c p w)) (w + 1) n)))) (jI (p + 1)) h
    unfold s_X14_holds_45_b s_X14_holds_107 s_X14_holds_108
    rw [C.g22, Option.bind_some, if_neg (fun z => by have := (jI_le (by omega) (by omega)).mp z; omega), C.kO, C.to_at L hc hp (show w < F 14 by omega)]
    simp only [cI, jI_inc]
    have i0 := ih false
    have i1 := ih true
    rw [b01_f] at i0
    rw [b01_t] at i1
    rw [i0, Bool.false_and, Bool.or_false]
    cases q with
    | false => rw [if_pos b01_f, Bool.false_and, Bool.or_false]
    | true =>
      rw [if_neg (show ¬ b01 true = 0 by decide), Bool.true_and]
      rcases ldV_is KW hC c p w with y | ⟨d, y, hd⟩
      · rw [y, if_pos rfl, show lsB cl c (-2) = false from rfl, Bool.false_and, Bool.or_false]
      · have ld : ldI .int h (.ref 150) (jI d) = some (cl d) := (hcl d hd) ▸ X.ld (a := 150) rfl (show d < 400 by omega)
        have es : lsB cl c (jI d) = (decide (cl d ≠ -1) && decide (cl d < cl c)) := by
          unfold lsB
          rw [if_neg (jI_m2 (by omega)), jI_cl (by omega)]
        rw [y, es, if_neg (jI_m2 (by omega)), g31]
        simp only [Option.bind_some, ld, lc]
        by_cases z : cl d = -1
        · rw [if_pos z, decide_eq_false (fun u => u z), Bool.false_and, Bool.false_and, Bool.or_false]
        · rw [if_neg z, decide_eq_true z, Bool.true_and]
          by_cases u : cl c ≤ cl d
          · rw [if_pos u, decide_eq_false (i32_nlt.mpr u), Bool.false_and, Bool.or_false]
          · rw [if_neg u, decide_eq_true (i32_nle.mp u), Bool.true_and, i1, Bool.true_and]
theorem h31_go (C : RC h S wd t fv nv V Z A m F B W G) (L : okLd V A m F) {cl : Nat → Int32} (hcl : ∀ c, c < F 12 → V 150 c = cl c) {c : Nat} (hc : c < F 12) : ∀ (n p f : Nat) (an : Bool), p + n = F 13 → n < f →
    s_X14_holds_31 f 104 (jI c) (b01 an) (jI p) h = some (.inl (some (.int (b01 (an || anyR (fun p => allR (fun w => lsB cl c (ldV A m F c p w)) 0 (F 14)) p n)))), h)
  | _, _, 0, _, _, hf => by omega
  | 0, p, f + 1, an, hk, hf => by
    have h9 := C.2.2.2.2.2.1.2.2.2.2.2.1
    show s_X14_holds_31_b (s_X14_holds_31 f) 104 (jI c) (b01 an) (jI p) h = some (.inl (some (.int (b01 (an || false)))), h)
    unfold s_X14_holds_31_b
    rw [C.g21, Option.bind_some, if_pos ((jI_le (by omega) (by omega)).mpr (by omega)), Bool.or_false]
    exact rtZ_b _ _
  | n + 1, p, f + 1, an, hk, hf => by
    have h9 := C.2.2.2.2.2.1.2.2.2.2.2.1
    have h27 := C.2.2.2.2.2.1.2.2.2.2.2.2.1
    have e1 := h45_go C L hcl hc (show p < F 13 by omega) (an := an) (k31 := s_X14_holds_31 f) (F 14) 0 FU true (by omega) (by unfold FU; omega)
    show s_X14_holds_31_b (s_X14_holds_31 f) 104 (jI c) (b01 an) (jI p) h = some (.inl (some (.int (b01 (an || (allR (fun w => lsB cl c (ldV A m F c p w)) 0 (F 14) || anyR (fun p => allR (fun w => lsB cl c (ldV A m F c p w)) 0 (F 14)) (p + 1) n))))), h)
    unfold s_X14_holds_31_b
    rw [C.g21, Option.bind_some, if_neg (fun z => by have := (jI_le (by omega) (by omega)).mp z; omega)]
    refine e1.trans ?_
    rw [Bool.true_and, ← Bool.or_assoc]
    exact h31_go C L hcl hc n (p + 1) f _ (by omega) (by omega)
theorem RC.holds (C : RC h S wd t fv nv V Z A m F B W G) (L : okLd V A m F) {good goal : Nat → Bool} (hgd : gdR V (F 12) good) (hgl : glR V (F 12) goal) {cl : Nat → Int32} (hcl : ∀ c, c < F 12 → V 150 c = cl c) {c : Nat} (hc : c < F 12) :
    s_X14_holds 104 (jI c) h = some (.inl (some (.int (b01 (stB (ldV A m F) (F 13) (F 14) good goal cl c)))), h) := by
  obtain ⟨X, HT, hot, sim, KW, hC, -⟩ := id C
  have h400 := hC.2.2.2.2.1
  have h9 := hC.2.2.2.2.2.1
  have g27 : gO h (.ref 104) 14 27 = some 146 := gO_of (ltE (by decide)) X.1 rfl
  have g28 : gO h (.ref 104) 14 28 = some 147 := gO_of (ltE (by decide)) X.1 rfl
  have g31 : gO h (.ref 104) 14 31 = some 150 := gO_of (ltE (by decide)) X.1 rfl
  have l1 : ldI .boolean h (.ref 146) (jI c) = some (b01 (good c)) := (hgd c hc) ▸ X.ld (a := 146) rfl (show c < 400 by omega)
  have l2 : ldI .boolean h (.ref 147) (jI c) = some (b01 (goal c)) := (hgl c hc) ▸ X.ld (a := 147) rfl (show c < 400 by omega)
  have lc : ldI .int h (.ref 150) (jI c) = some (cl c) := (hcl c hc) ▸ X.ld (a := 150) rfl (show c < 400 by omega)
  unfold s_X14_holds stB
  rw [g27, Option.bind_some, l1, Option.bind_some]
  cases z : good c with
  | false =>
    rw [if_pos b01_f, Bool.false_and]
    rfl
  | true =>
    rw [if_neg (show ¬ b01 true = 0 by decide), g31, Option.bind_some, lc, Option.bind_some, Bool.true_and]
    by_cases q : cl c = 0
    · rw [if_pos q, if_pos q, g28, Option.bind_some, l2, Option.bind_some]
      exact rtZ_b _ _
    · rw [if_neg q, if_neg q]
      have := h31_go C L hcl hc (F 13) 0 FU false (by omega) (by unfold FU; omega)
      rw [Bool.false_or] at this
      exact this
theorem fbR_go (C : RC h S wd t fv nv V Z A m F B W G) (L : okLd V A m F) {good goal : Nat → Bool} (hgd : gdR V (F 12) good) (hgl : glR V (F 12) goal) {cl : Nat → Int32} (hcl : ∀ c, c < F 12 → V 150 c = cl c) : ∀ (n c f : Nat), c + n = F 12 → n < f →
    s_X14_firstBreak_2 f 104 (jI c) h = some (.inl (some (.int (fbG (stB (ldV A m F) (F 13) (F 14) good goal cl) cl c n))), h)
  | _, _, 0, _, hf => by omega
  | 0, c, f + 1, hk, hf => by
    have h400 := C.2.2.2.2.2.1.2.2.2.2.1
    show s_X14_firstBreak_2_b (s_X14_firstBreak_2 f) 104 (jI c) h = _
    unfold s_X14_firstBreak_2_b
    rw [C.g20, Option.bind_some, if_pos ((jI_le (by omega) (by omega)).mpr (by omega))]
    rfl
  | n + 1, c, f + 1, hk, hf => by
    have h400 := C.2.2.2.2.2.1.2.2.2.2.1
    have g31 : gO h (.ref 104) 14 31 = some 150 := gO_of (ltE (by decide)) C.1.1 rfl
    have lc : ldI .int h (.ref 150) (jI c) = some (cl c) := (hcl c (by omega)) ▸ C.1.ld (a := 150) rfl (show c < 400 by omega)
    have ih := fbR_go C L hgd hgl hcl n (c + 1) f (by omega) (by omega)
    have es := C.holds L hgd hgl hcl (show c < F 12 by omega)
    show s_X14_firstBreak_2_b (s_X14_firstBreak_2 f) 104 (jI c) h = some (.inl (some (.int (if cl c = -1 then _ else if stB (ldV A m F) (F 13) (F 14) good goal cl c then _ else jI c))), h)
    unfold s_X14_firstBreak_2_b
    rw [C.g20, Option.bind_some, if_neg (fun q => by have := (jI_le (by omega) (by omega)).mp q; omega), g31, Option.bind_some, lc, Option.bind_some]
    by_cases z : cl c = -1
    · rw [if_pos z, if_pos z, jI_inc]
      exact ih
    · rw [if_neg z, if_neg z, C.kO, es]
      simp only [cI]
      cases u : stB (ldV A m F) (F 13) (F 14) good goal cl c with
      | false =>
        rw [if_pos b01_f]
        rfl
      | true =>
        rw [if_neg (show ¬ b01 true = 0 by decide), jI_inc]
        exact ih
end
