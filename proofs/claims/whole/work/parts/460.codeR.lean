/-! the reference's code and walk, what is safe and allowed -/
theorem bitI_ext {x y : Int32} (h : ∀ q, q < 32 → bitI x q = bitI y q) : x = y := by
  apply Int32.toBitVec_inj.mp
  apply BitVec.eq_of_getLsbD_eq
  intro i hi
  exact h i hi
theorem bitI_or1 {k : Int32} {p q : Nat} (hp : p < 32) (hq : q < 32) : bitI (k ||| (1 <<< (jI p &&& 31))) q = (bitI k q || decide (q = p)) := by
  have e : (1 : Int32) <<< (jI p &&& 31) = b1 p := by
    have h1 := b1_code p (by omega)
    have h2 := and31_code p (by omega)
    rw [Nat.mod_eq_of_lt hp] at h1 h2
    rw [h2] at h1
    exact h1
  unfold bitI
  rw [e, Int32.toBitVec_or, BitVec.getLsbD_or, b1_bit p hp q hq]
theorem bitI_00 {q : Nat} (hq : q < 32) : bitI 0 q = false := bitI_zero.mp rfl q hq
section
variable {h : aH} {S : Nat → Int32} {wd : Int64} {t : Nat} {fv nv : Value} {V : Nat → Nat → Int32} {Z : Nat → Nat → Int64} {A : Nat → Nat → Int32} {m F : Nat → Nat} {B : Nat → Nat → Int32} {W : Nat → Int64} {G : Nat → Nat}
theorem RC.ldm (C : RC h S wd t fv nv V Z A m F B W G) {k : Nat} (hk : k < 5) : gO h (.ref 104) 14 4 = some t ∧ gO h (.ref t) 13 0 = some (t + 1) ∧ ldI .int h (.ref (t + 1)) (jI k) = some (jI (m k)) := by
  obtain ⟨X, HT, hot, sim, -⟩ := id C
  refine ⟨gO_of (ltE (by decide)) X.1 rfl, gO_of (by have := HT.1; omega) HT.2.1 rfl, ?_⟩
  rw [← sim.1 k hk]
  exact HT.ld (by decide) (by decide) (by decide) hk
theorem RC.isSafe (C : RC h S wd t fv nv V Z A m F B W G) {good : Nat → Bool} (hs : ∀ d, d < 416 → bit (V 156) 0 d = sfW A m F good 0 d) {c : Nat} (hc : c < F 12) : s_X14_isSafe 104 (jI c) h = some (.inl (some (.int (b01 (sfW A m F good 0 c)))), h) := by
  have h400 := C.2.2.2.2.2.1.2.2.2.2.1
  have g38 : gO h (.ref 104) 14 38 = some 156 := gO_of (ltE (by decide)) C.1.1 rfl
  have e := isIn_at C.1 (a := 156) (b := 0) (c := c) rfl rfl (by omega) (show 0 + c / 32 < 39 by omega)
  have e' : s_X14_isIn 156 0 (jI c) h = _ := e
  unfold s_X14_isSafe
  rw [g38, Option.bind_some, e', hs c (by omega)]
  exact rtZ_b _ _
theorem al40_go (C : RC h S wd t fv nv V Z A m F B W G) {T : Nat → Bool} (hMb : okMb V (F 12) (F 13) (F 14) (ldV A m F)) (hT : ∀ d, d < F 12 → T d = bit (V 153) 0 d) {c : Nat} (hc : c < F 12) : ∀ (n p f : Nat) (x : Int32), p + n = F 13 → n < f →
    ∃ y, s_X14_allowedOf_40 f 104 (jI c) x (jI p) h = some (.inl (some (.int y)), h) ∧ ∀ q, q < 32 → (bitI y q = true ↔ bitI x q = true ∨ (p ≤ q ∧ q < F 13 ∧ intoB (ldV A m F c q) (F 14) T = true))
  | _, _, 0, _, _, hf => by omega
  | 0, p, f + 1, x, hk, hf => by
    have h9 := C.2.2.2.2.2.1.2.2.2.2.2.1
    refine ⟨x, ?_, fun q hq => ⟨Or.inl, fun z => z.elim id (fun z => by omega)⟩⟩
    show s_X14_allowedOf_40_b (s_X14_allowedOf_40 f) 104 (jI c) x (jI p) h = _
    unfold s_X14_allowedOf_40_b
    rw [C.g21, Option.bind_some, if_pos ((jI_le (by omega) (by omega)).mpr (by omega))]
  | n + 1, p, f + 1, x, hk, hf => by
    obtain ⟨X, HT, hot, sim, KW, hC, -⟩ := id C
    have h9 := hC.2.2.2.2.2.1
    have h400 := hC.2.2.2.2.1
    have g35 : gO h (.ref 104) 14 35 = some 153 := gO_of (ltE (by decide)) X.1 rfl
    have e1 := leadsInto_at X (a := 153) (c := c) (p := p) rfl rfl rfl (by omega) (by omega)
    rw [hMb.into h400 (ldV_is KW hC) hc (show p < F 13 by omega) hT] at e1
    have start : ∀ {y : aO}, (if b01 (intoB (ldV A m F c p) (F 14) T) = 0 then s_X14_allowedOf_40 f 104 (jI c) (x ||| 0) (jI (p + 1)) h else s_X14_allowedOf_40 f 104 (jI c) (x ||| (1 <<< (jI p &&& 31))) (jI (p + 1)) h) = y → s_X14_allowedOf_40 (f + 1) 104 (jI c) x (jI p) h = y := by
      intro y hy
      show s_X14_allowedOf_40_b (s_X14_allowedOf_40 f) 104 (jI c) x (jI p) h = _
      unfold s_X14_allowedOf_40_b s_X14_allowedOf_69
      rw [C.g21, Option.bind_some, if_neg (fun z => by have := (jI_le (by omega) (by omega)).mp z; omega), g35, Option.bind_some, C.kO, e1]
      simp only [cI, jI_inc]
      exact hy
    cases z : intoB (ldV A m F c p) (F 14) T with
    | false =>
      obtain ⟨y, e, i⟩ := al40_go C hMb hT hc n (p + 1) f (x ||| 0) (by omega) (by omega)
      refine ⟨y, start (by rw [z, if_pos b01_f]; exact e), fun q hq => (i q hq).trans ?_⟩
      have e0 : bitI (x ||| 0) q = bitI x q := by
        unfold bitI
        rw [Int32.toBitVec_or, BitVec.getLsbD_or]
        have := bitI_00 hq
        unfold bitI at this
        rw [this, Bool.or_false]
      rw [e0]
      constructor
      · rintro (u | ⟨u1, u2, u3⟩)
        · exact Or.inl u
        · exact Or.inr ⟨by omega, u2, u3⟩
      · rintro (u | ⟨u1, u2, u3⟩)
        · exact Or.inl u
        · refine Or.inr ⟨?_, u2, u3⟩
          have : q ≠ p := fun e => by rw [e, z] at u3; cases u3
          omega
    | true =>
      obtain ⟨y, e, i⟩ := al40_go C hMb hT hc n (p + 1) f (x ||| (1 <<< (jI p &&& 31))) (by omega) (by omega)
      refine ⟨y, start (by rw [z, if_neg (show ¬ b01 true = 0 by decide)]; exact e), fun q hq => (i q hq).trans ?_⟩
      rw [bitI_or1 (by omega) hq, Bool.or_eq_true, decide_eq_true_eq]
      constructor
      · rintro ((u | u) | ⟨u1, u2, u3⟩)
        · exact Or.inl u
        · exact Or.inr ⟨by omega, by omega, by rw [u]; exact z⟩
        · exact Or.inr ⟨by omega, u2, u3⟩
      · rintro (u | ⟨u1, u2, u3⟩)
        · exact Or.inl (Or.inl u)
        · by_cases e : q = p
          · exact Or.inl (Or.inr e)
          · exact Or.inr ⟨by omega, u2, u3⟩
end
section
variable {S : Nat → Int32} {wd : Int64} {t : Nat} {fv nv : Value} {Z : Nat → Nat → Int64} {A : Nat → Nat → Int32} {m F : Nat → Nat} {B : Nat → Nat → Int32} {W : Nat → Int64} {G : Nat → Nat}
theorem al12_go {c : Nat} : ∀ (n k f : Nat) (h : aH) (V : Nat → Nat → Int32), k + n = 13 → n < f → RC h S wd t fv nv V Z A m F B W G → (∀ j, j < k → V 153 j = V 156 j) →
    ∃ h' V', s_X14_allowedOf_12 f 104 (jI c) (jI k) h = s_X14_allowedOf_40 FU 104 (jI c) 0 0 h' ∧ RC h' S wd t fv nv V' Z A m F B W G ∧ Ou h h' ∧ Sm [153] V V' ∧ ∀ j, j < 13 → V' 153 j = V 156 j
  | _, _, 0, _, _, _, hf, _, _ => by omega
  | 0, k, f + 1, h, V, hk, hf, C, hz => by
    refine ⟨h, V, ?_, C, Ou.refl, Sm.refl, fun j hj => hz j (by omega)⟩
    show s_X14_allowedOf_12_b (s_X14_allowedOf_12 f) 104 (jI c) (jI k) h = _
    unfold s_X14_allowedOf_12_b
    rw [show (13 : Int32) = jI 13 from rfl, if_pos ((jI_le (by omega) (by omega)).mpr (by omega))]
  | n + 1, k, f + 1, h, V, hk, hf, C, hz => by
    have X := C.1
    have g35 : gO h (.ref 104) 14 35 = some 153 := gO_of (ltE (by decide)) X.1 rfl
    have g38 : gO h (.ref 104) 14 38 = some 156 := gO_of (ltE (by decide)) X.1 rfl
    have l : ldI .int h (.ref 156) (jI k) = some (V 156 k) := X.ld (a := 156) rfl (show k < 39 by omega)
    obtain ⟨h1, e1, X1, O1⟩ := X.st (a := 153) (j := k) rfl rfl (show k < 13 by omega) (V 156 k)
    obtain ⟨h', V', ih, i1, i2, i3, i4⟩ := al12_go (c := c) n (k + 1) f h1 _ (by omega) (by omega) (C.to X1 O1) (fun j hj => by
      rw [upd2_eq, upd2_ne (by decide)]
      by_cases z : j = k
      · rw [z, upd_eq]
      · rw [upd_ne z]; exact hz j (by omega))
    refine ⟨h', V', ?_, i1, O1.trans i2, (Sm.refl.upd (by decide)).trans i3, fun j hj => by rw [i4 j hj, upd2_ne (by decide)]⟩
    show s_X14_allowedOf_12_b (s_X14_allowedOf_12 f) 104 (jI c) (jI k) h = _
    unfold s_X14_allowedOf_12_b
    rw [show (13 : Int32) = jI 13 from rfl, if_neg (fun q => by have := (jI_le (by omega) (by omega)).mp q; omega), g35, Option.bind_some, g38, Option.bind_some, l, Option.bind_some, e1, Option.bind_some, jI_inc]
    exact ih
/-- bits of the pushes that keep -/
def okAl (A : Nat → Nat → Int32) (m F : Nat → Nat) (good : Nat → Bool) (c : Nat) (y : Int32) : Prop := ∀ q, q < 32 → (bitI y q = true ↔ q < F 13 ∧ sfW A m F good 0 c = true ∧ intoB (ldV A m F c q) (F 14) (sfW A m F good 0) = true)
theorem okAl.uniq {good : Nat → Bool} {c : Nat} {x y : Int32} (h1 : okAl A m F good c x) (h2 : okAl A m F good c y) : x = y := bitI_ext (fun q hq => Bool_ext ((h1 q hq).trans (h2 q hq).symm))
theorem RC.allowedOf {h : aH} {V : Nat → Nat → Int32} (C : RC h S wd t fv nv V Z A m F B W G) {good : Nat → Bool} (hMb : okMb V (F 12) (F 13) (F 14) (ldV A m F)) (hs : ∀ d, d < 416 → bit (V 156) 0 d = sfW A m F good 0 d) {c : Nat} (hc : c < F 12) :
    ∃ h' V' y, s_X14_allowedOf 104 (jI c) h = some (.inl (some (.int y)), h') ∧ RC h' S wd t fv nv V' Z A m F B W G ∧ Ou h h' ∧ Sm [153] V V' ∧ okAl A m F good c y := by
  have h400 := C.2.2.2.2.2.1.2.2.2.2.1
  have h9 := C.2.2.2.2.2.1.2.2.2.2.2.1
  have e0 := C.isSafe hs hc
  cases z : sfW A m F good 0 c with
  | false =>
    refine ⟨h, V, 0, ?_, C, Ou.refl, Sm.refl, fun q hq => ?_⟩
    · unfold s_X14_allowedOf
      rw [C.kO, e0, z]
      simp only [cI]
      rw [if_pos b01_f]
    · rw [bitI_00 hq, z]
      constructor
      · intro u; cases u
      · intro u; cases u.2.1
  | true =>
    obtain ⟨h1, V1, e1, C1, O1, M1, a1⟩ := al12_go (c := c) 13 0 FU h V rfl (by decide) C (fun j hj => by omega)
    obtain ⟨y, e2, i⟩ := al40_go C1 (T := sfW A m F good 0) (hMb.sm (M1 161 (by decide)) (M1 152 (by decide))) (fun d hd => by
      rw [← hs d (by omega)]
      unfold bit
      rw [Nat.zero_add, a1 _ (by omega)]) hc (F 13) 0 FU 0 (by omega) (by unfold FU; omega)
    refine ⟨h1, V1, y, ?_, C1, O1, M1, fun q hq => (i q hq).trans ?_⟩
    · have e1' : s_X14_allowedOf_12 FU 104 (jI c) 0 h = s_X14_allowedOf_40 FU 104 (jI c) 0 0 h1 := e1
      have e2' : s_X14_allowedOf_40 FU 104 (jI c) 0 0 h1 = _ := e2
      unfold s_X14_allowedOf
      rw [C.kO, e0, z]
      simp only [cI]
      rw [if_neg (show ¬ b01 true = 0 by decide), e1', e2']
    · rw [bitI_00 hq, z]
      constructor
      · rintro (u | u)
        · cases u
        · exact ⟨u.2.1, rfl, u.2.2⟩
      · intro u
        exact Or.inr ⟨Nat.zero_le _, u.1, u.2.2⟩
/-- the reference's code stands -/
def okCr (S : Nat → Int32) (V : Nat → Nat → Int32) (cd : Nat → Int32) (bi sh : Int32) : Prop := (∀ i, i < 3 → V 181 i = cd i) ∧ S 67 = bi ∧ S 68 = sh
def rhS (sh : Int32) : Int32 := if sh = 0 then 0 else (1 : Int32) <<< ((sh - 1) &&& 31)
theorem cr32_go {h : aH} {V : Nat → Nat → Int32} (C : RC h S wd t fv nv V Z A m F B W G) (h1 : m 1 = 1) {cd : Nat → Int32} {bi sh : Int32} (O : okCr S V cd bi sh) (hsh : sh = 0 ∨ 0 < sh) {c : Nat} (hv : ∀ s, s < m 0 → V 148 s = sprGo A 0 0 (m 0) (jI c) zV s) : ∀ (n i f : Nat) (a : Int32), i + n = m 0 → n < f → cdG cd (sprGo A 0 0 (m 0) (jI c) zV) i n a = cdG cd (sprGo A 0 0 (m 0) (jI c) zV) 0 (m 0) (bi + rhS sh) → s_X14_codedOf_32 f 104 a (jI i) h = some (.inl (some (.int (codS A m cd bi sh c))), h)
  | _, _, 0, _, _, hf, _ => by omega
  | 0, i, f + 1, a, hk, hf, he => by
    obtain ⟨X, HT, hot, sim, K, hC, -⟩ := id C
    have k0 := K.1.1.1
    have d3 : decl m 3 := Or.inr (Or.inl ⟨by omega, by omega⟩)
    obtain ⟨q1, q2, q3⟩ := C.ldm (k := 0) (by decide)
    have t1 := HT.1
    have a1 : gO h (.ref t) 13 1 = some (t + 2) := gO_of (by omega) HT.2.1 rfl
    have a2 : gO h (.ref t) 13 2 = some (t + 3) := gO_of (by omega) HT.2.1 rfl
    have lo : ldI .int h (.ref (t + 2)) 3 = some (A 3 3) := by
      rw [← (sim.2.1 3 d3).1]
      exact HT.ld (k := 2) (j := 3) (by decide) (by decide) (by decide) (by decide)
    have hi : ldI .int h (.ref (t + 3)) 3 = some (A 4 3) := by
      rw [← (sim.2.1 3 d3).2]
      exact HT.ld (k := 3) (j := 3) (by decide) (by decide) (by decide) (by decide)
    have g68 : gI h (.ref 104) 14 68 = some sh := O.2.2 ▸ gI_of (ltE (by decide)) X.1 rfl
    have es : s_X14_slotOf 1 h = some (.inl (some (.int 3)), h) := slotOfR_at h 1 (by decide)
    have he' : a = cdG cd (sprGo A 0 0 (m 0) (jI c) zV) 0 (m 0) (bi + rhS sh) := he
    have q3' : ldI .int h (.ref (t + 1)) 0 = some (jI (m 0)) := q3
    have fin : a >>> (sh &&& 31) = if sh ≤ 0 then cdX A m cd bi c else (cdX A m cd bi c + (1 <<< ((sh - 1) &&& 31))) >>> (sh &&& 31) := by
      rw [he']
      unfold rhS
      rcases hsh with z | z
      · rw [if_pos z, if_pos (show sh ≤ 0 by rw [z]; exact Int32.le_refl _), z, Int32.add_zero]
        have : ∀ x : Int32, x >>> ((0 : Int32) &&& 31) = x := fun x => by
          rw [show ((0 : Int32) &&& 31) = 0 by decide]
          exact Int32.shiftRight_zero
        rw [this]
        rfl
      · have z0 : ¬ sh ≤ 0 := i32_nle.mpr z
        rw [if_neg (show ¬ sh = 0 from fun e => z0 (by rw [e]; exact Int32.le_refl _)), if_neg z0, cdG_add]
        rfl
    show s_X14_codedOf_32_b (s_X14_codedOf_32 f) 104 a (jI i) h = _
    unfold s_X14_codedOf_32_b codS
    rw [q1, Option.bind_some, q2, Option.bind_some, q3', Option.bind_some, if_pos ((jI_le (by omega) (by omega)).mpr (by omega)), es]
    simp only [cI, q1, Option.bind_some, a1, a2, lo, hi, g68, fin]
  | n + 1, i, f + 1, a, hk, hf, he => by
    obtain ⟨X, HT, hot, sim, K, hC, -⟩ := id C
    have k0 := K.1.1.1
    obtain ⟨q1, q2, q3⟩ := C.ldm (k := 0) (by decide)
    have q3' : ldI .int h (.ref (t + 1)) 0 = some (jI (m 0)) := q3
    have g66 : gO h (.ref 104) 14 66 = some 181 := gO_of (ltE (by decide)) X.1 rfl
    have g29 : gO h (.ref 104) 14 29 = some 148 := gO_of (ltE (by decide)) X.1 rfl
    have l1 : ldI .int h (.ref 181) (jI i) = some (cd i) := (O.1 i (by omega)) ▸ X.ld (a := 181) rfl (show i < 3 by omega)
    have l2 : ldI .int h (.ref 148) (jI i) = some (sprGo A 0 0 (m 0) (jI c) zV i) := (hv i (by omega)) ▸ X.ld (a := 148) rfl (show i < 11 by omega)
    have ih := cr32_go C h1 O hsh hv n (i + 1) f (a + cd i * sprGo A 0 0 (m 0) (jI c) zV i) (by omega) (by omega) he
    show s_X14_codedOf_32_b (s_X14_codedOf_32 f) 104 a (jI i) h = _
    unfold s_X14_codedOf_32_b
    rw [q1, Option.bind_some, q2, Option.bind_some, q3', Option.bind_some, if_neg (fun q => by have := (jI_le (by omega) (by omega)).mp q; omega), g66, Option.bind_some, l1, Option.bind_some, g29, Option.bind_some, l2, Option.bind_some, jI_inc]
    exact ih
theorem RC.codedOf {h : aH} {V : Nat → Nat → Int32} (C : RC h S wd t fv nv V Z A m F B W G) (h1 : m 1 = 1) {cd : Nat → Int32} {bi sh : Int32} (O : okCr S V cd bi sh) (hsh : sh = 0 ∨ 0 < sh) (c : Nat) :
    ∃ h' V', s_X14_codedOf 104 (jI c) h = some (.inl (some (.int (codS A m cd bi sh c))), h') ∧ RC h' S wd t fv nv V' Z A m F B W G ∧ Ou h h' ∧ Sm [148] V V' := by
  have k0 := C.2.2.2.2.1.1.1.1
  obtain ⟨h2, e2, C2, O2⟩ := C.lays (jI c)
  have g67 : gI h2 (.ref 104) 14 67 = some bi := O.2.1 ▸ gI_of (ltE (by decide)) C2.1.1 rfl
  have g68 : gI h2 (.ref 104) 14 68 = some sh := O.2.2 ▸ gI_of (ltE (by decide)) C2.1.1 rfl
  have e3 := cr32_go C2 h1 (show okCr S _ cd bi sh from ⟨fun i hi => by rw [upd2_ne (by decide)]; exact O.1 i hi, O.2⟩) hsh (c := c) (fun s hs => by rw [upd2_eq]; exact spr_in A 0 0 (m 0) _ _ _ s (Nat.zero_le _) (by omega)) (m 0) 0 FU (bi + rhS sh) (by omega) (by unfold FU; omega) rfl
  refine ⟨h2, _, ?_, C2, O2, Sm.refl.upd (by decide)⟩
  unfold s_X14_codedOf s_X14_codedOf_28
  rw [C.kO, e2]
  simp only [cN, g67, g68, Option.bind_some]
  unfold rhS at e3
  by_cases z : sh = 0
  · rw [if_pos z] at e3 ⊢
    exact e3
  · rw [if_neg z] at e3 ⊢
    exact e3
theorem okCr.sm {V V' : Nat → Nat → Int32} {cd : Nat → Int32} {bi sh : Int32} (O : okCr S V cd bi sh) (h : V' 181 = V 181) : okCr S V' cd bi sh := ⟨fun i hi => by rw [h]; exact O.1 i hi, O.2⟩
end
