/-! which cells are kept: sets, rounds, layers -/
def tst (y : Int32) (T : Nat → Bool) : Bool := if 0 ≤ y then T y.toNatClampNeg else false
theorem tst_out (T : Nat → Bool) : tst (-2) T = false := rfl
theorem tst_in {d : Nat} (hd : d < 2147483648) (T : Nat → Bool) : tst (jI d) T = T d := by
  unfold tst
  rw [if_pos (i32_nlt.mp (jI_neg hd)), jI_cl hd]
def intoB (ld : Nat → Int32) (n : Nat) (T : Nat → Bool) : Bool := (List.range n).all (fun x => tst (ld x) T)
def canB (ld : Nat → Nat → Nat → Int32) (P n : Nat) (T : Nat → Bool) (c : Nat) : Bool := (List.range P).any (fun p => intoB (ld c p) n T)
def kpS (ld : Nat → Nat → Nat → Int32) (P n : Nat) (good : Nat → Bool) : Nat → Nat → Bool
  | 0 => good
  | r + 1 => fun c => kpS ld P n good r c && canB ld P n (kpS ld P n good r) c
def layS (ld : Nat → Nat → Nat → Int32) (P n : Nat) (good : Nat → Bool) : Nat → Nat → Int32
  | 0 => fun c => if good c then 0 else -2
  | r + 1 => fun c => if kpS ld P n good r c && !kpS ld P n good (r + 1) c then jI (r + 1) else layS ld P n good r c
def Stb (ld : Nat → Nat → Nat → Int32) (P n : Nat) (good : Nat → Bool) (r : Nat) : Prop := kpS ld P n good (r + 1) = kpS ld P n good r
section
variable {ld : Nat → Nat → Nat → Int32} {P n : Nat} {good : Nat → Bool}
theorem Stb.kp {r : Nat} (h : Stb ld P n good r) : ∀ k, kpS ld P n good (r + k) = kpS ld P n good r
  | 0 => rfl
  | k + 1 => by
    have ih := Stb.kp h k
    show (fun c => kpS ld P n good (r + k) c && canB ld P n (kpS ld P n good (r + k)) c) = _
    rw [ih]
    exact h
theorem Stb.lay {r : Nat} (h : Stb ld P n good r) : ∀ k, layS ld P n good (r + k) = layS ld P n good r
  | 0 => rfl
  | k + 1 => by
    have ih := Stb.lay h k
    funext c
    show (if kpS ld P n good (r + k) c && !kpS ld P n good (r + (k + 1)) c then jI (r + k + 1) else layS ld P n good (r + k) c) = _
    rw [h.kp k, h.kp (k + 1), ih]
    cases kpS ld P n good r c <;> rfl
theorem Stb.uniq {r s : Nat} (h : Stb ld P n good r) (g : Stb ld P n good s) : kpS ld P n good r = kpS ld P n good s ∧ layS ld P n good r = layS ld P n good s := by
  rcases Nat.le_total r s with q | q
  · obtain ⟨k, rfl⟩ := Nat.exists_eq_add_of_le q
    exact ⟨(h.kp k).symm, (h.lay k).symm⟩
  · obtain ⟨k, rfl⟩ := Nat.exists_eq_add_of_le q
    exact ⟨g.kp k, g.lay k⟩
theorem kpS_le {r c : Nat} (h : kpS ld P n good (r + 1) c = true) : kpS ld P n good r c = true := by
  have : (kpS ld P n good r c && canB ld P n (kpS ld P n good r) c) = true := h
  rw [Bool.and_eq_true] at this
  exact this.1
theorem kpS_good : ∀ (r c : Nat), kpS ld P n good r c = true → good c = true
  | 0, _, h => h
  | r + 1, c, h => kpS_good r c (kpS_le h)
end
/-- how many of the first C -/
def cntB (T : Nat → Bool) : Nat → Nat
  | 0 => 0
  | C + 1 => cntB T C + (if T C then 1 else 0)
theorem cntB_le (T : Nat → Bool) : ∀ C, cntB T C ≤ C
  | 0 => Nat.le_refl _
  | C + 1 => by
    have := cntB_le T C
    show cntB T C + (if T C then 1 else 0) ≤ C + 1
    split <;> omega
theorem cntB_mono {T T' : Nat → Bool} : ∀ C, (∀ c, c < C → T c = true → T' c = true) → cntB T C ≤ cntB T' C
  | 0, _ => Nat.le_refl _
  | C + 1, h => by
    have := cntB_mono C (fun c hc => h c (by omega))
    have h2 := h C (by omega)
    show cntB T C + (if T C then 1 else 0) ≤ cntB T' C + (if T' C then 1 else 0)
    by_cases q : T C = true
    · rw [if_pos q, if_pos (h2 q)]
      omega
    · rw [if_neg q]
      omega
theorem cntB_lt {T T' : Nat → Bool} : ∀ C, (∀ c, c < C → T c = true → T' c = true) → (∃ c, c < C ∧ T c = false ∧ T' c = true) → cntB T C < cntB T' C
  | 0, _, ⟨c, hc, _⟩ => by omega
  | C + 1, h, ⟨c, hc, h1, h2⟩ => by
    have m := cntB_mono C (fun c hc => h c (by omega))
    show cntB T C + (if T C then 1 else 0) < cntB T' C + (if T' C then 1 else 0)
    by_cases q : c = C
    · subst q
      rw [h1, h2]
      simp
      omega
    · have l := cntB_lt C (fun c hc => h c (by omega)) ⟨c, by omega, h1, h2⟩
      have h3 := h C (by omega)
      by_cases q2 : T C = true
      · rw [if_pos q2, if_pos (h3 q2)]
        omega
      · rw [if_neg q2]
        omega
theorem cntB_congr {T T' : Nat → Bool} (C : Nat) (h : ∀ c, c < C → T c = T' c) : cntB T C = cntB T' C :=
  Nat.le_antisymm (cntB_mono C (fun c hc e => by rw [← h c hc]; exact e)) (cntB_mono C (fun c hc e => by rw [h c hc]; exact e))
section
variable {ld : Nat → Nat → Nat → Int32} {P n C : Nat} {good : Nat → Bool}
/-- a round that takes none away is the last -/
theorem stb_or (hg : ∀ c, C ≤ c → good c = false) (r : Nat) : Stb ld P n good r ∨ cntB (kpS ld P n good (r + 1)) C < cntB (kpS ld P n good r) C := by
  by_cases q : ∃ c, c < C ∧ kpS ld P n good (r + 1) c = false ∧ kpS ld P n good r c = true
  · exact Or.inr (cntB_lt C (fun c _ => kpS_le) q)
  · refine Or.inl ?_
    funext c
    by_cases qc : c < C
    · cases h2 : kpS ld P n good r c with
      | false =>
        cases h1 : kpS ld P n good (r + 1) c with
        | false => rfl
        | true => exact absurd (kpS_le h1) (by rw [h2]; decide)
      | true =>
        cases h1 : kpS ld P n good (r + 1) c with
        | false => exact absurd ⟨c, qc, h1, h2⟩ q
        | true => rfl
    · have hz := hg c (by omega)
      have z : ∀ r, kpS ld P n good r c = false := fun r => by
        cases h : kpS ld P n good r c with
        | false => rfl
        | true => rw [kpS_good r c h] at hz; cases hz
      rw [z, z]
theorem stb_ex (hg : ∀ c, C ≤ c → good c = false) : ∀ r, (∃ k, k ≤ r ∧ Stb ld P n good k) ∨ cntB (kpS ld P n good (r + 1)) C + r + 1 ≤ C
  | 0 => by
    rcases stb_or (ld := ld) (P := P) (n := n) hg 0 with h | h
    · exact Or.inl ⟨0, Nat.le_refl _, h⟩
    · have := cntB_le (kpS ld P n good 0) C
      exact Or.inr (by omega)
  | r + 1 => by
    rcases stb_ex hg r with ⟨k, h1, h2⟩ | h
    · exact Or.inl ⟨k, by omega, h2⟩
    · rcases stb_or (ld := ld) (P := P) (n := n) hg (r + 1) with h2 | h2
      · exact Or.inl ⟨r + 1, Nat.le_refl _, h2⟩
      · exact Or.inr (by omega)
theorem stb_C (hg : ∀ c, C ≤ c → good c = false) : Stb ld P n good C := by
  rcases stb_ex (ld := ld) (P := P) (n := n) hg C with ⟨k, h1, h2⟩ | h
  · obtain ⟨d, e⟩ := Nat.exists_eq_add_of_le h1
    unfold Stb
    rw [e, h2.kp d, Nat.add_assoc, h2.kp (d + 1)]
  · omega
/-- what is kept for ever, and the layers -/
def safeS (ld : Nat → Nat → Nat → Int32) (P n C : Nat) (good : Nat → Bool) : Nat → Bool := kpS ld P n good C
def laysS (ld : Nat → Nat → Nat → Int32) (P n C : Nat) (good : Nat → Bool) : Nat → Int32 := layS ld P n good C
theorem Stb.safe (hg : ∀ c, C ≤ c → good c = false) {r : Nat} (h : Stb ld P n good r) : kpS ld P n good r = safeS ld P n C good ∧ layS ld P n good r = laysS ld P n C good := h.uniq (stb_C hg)
end
/-! words of bits, as the reference has them -/
theorem and1 : ∀ y : Int32, (y &&& 1) = 1 ↔ ¬ (y &&& 1) = 0 := by
  intro y
  constructor
  · intro h
    rw [h]
    decide
  · intro h
    apply Int32.toBitVec_inj.mp
    apply BitVec.eq_of_getLsbD_eq
    intro i hi
    rw [Int32.toBitVec_and, BitVec.getLsbD_and]
    have k1 : ∀ i, i < 32 → (1 : Int32).toBitVec.getLsbD i = decide (i = 0) := by decide +kernel
    rw [k1 i hi]
    by_cases q : i = 0
    · subst q
      have : y.toBitVec.getLsbD 0 = true := by
        cases h2 : y.toBitVec.getLsbD 0 with
        | true => rfl
        | false =>
          refine absurd ?_ h
          apply Int32.toBitVec_inj.mp
          apply BitVec.eq_of_getLsbD_eq
          intro j hj
          rw [Int32.toBitVec_and, BitVec.getLsbD_and, k1 j hj]
          by_cases q : j = 0
          · subst q; rw [h2]; rfl
          · rw [decide_eq_false q, Bool.and_false]; simp
      rw [this]
      rfl
    · rw [decide_eq_false q, Bool.and_false]
theorem sh1 : ∀ k, k < 32 → (1 : Int32) <<< (jI k &&& 31) = b1 k := by decide +kernel
theorem xor_neg (x : Int32) : x ^^^ (-1) = ~~~ x := by
  apply Int32.toBitVec_inj.mp
  apply BitVec.eq_of_getLsbD_eq
  intro i hi
  have k1 : ∀ i, i < 32 → (-1 : Int32).toBitVec.getLsbD i = true := by decide +kernel
  rw [Int32.toBitVec_xor, BitVec.getLsbD_xor, k1 i hi, not_bit x hi, Bool.xor_true]
theorem dm32 {c : Nat} (hc : c < 2147483648) : jI c / 32 = jI (c / 32) ∧ jI c - jI (c / 32) * 32 = jI (c % 32) := by
  have e := jI_div hc (w := 32) (by decide) (by decide)
  have e2 := jI_mod hc (w := 32) (by decide) (by decide)
  rw [e] at e2
  exact ⟨e, e2⟩
section
variable {h : aH} {S : Nat → Int32} {wd : Int64} {t f n : Value} {V : Nat → Nat → Int32} {Z : Nat → Nat → Int64}
theorem isIn_at (X : RW h S wd t f n V Z) {a b c : Nat} (ha : inR a = true) (hty : ryR a = .int) (hc : c < 512) (hj : b + c / 32 < lnR a) : s_X14_isIn a (jI b) (jI c) h = some (.inl (some (.int (b01 (bit (V a) b c)))), h) := by
  unfold s_X14_isIn
  have e : ldI .int h (.ref a) (jI (b + c / 32)) = some (V a (b + c / 32)) := by
    have := X.ld ha hj
    rw [hty] at this
    exact this
  have z : (32 : Int32) ≠ 0 := by decide
  have d := dm32 (c := c) (by omega)
  simp only [nz_of z, d.1, jI_add, e, Option.bind_some, d.2]
  have bt := bit_test (V a (b + c / 32)) (c % 32) (Nat.mod_lt _ (by decide))
  unfold bit
  cases q : (V a (b + c / 32)).toBitVec.getLsbD (c % 32) with
  | false =>
    rw [if_neg (fun z => (and1 _).mp z (bt.mpr q))]
    rfl
  | true =>
    rw [if_pos ((and1 _).mpr (fun z => by rw [bt.mp z] at q; cases q))]
    rfl
theorem puts_at (X : RW h S wd t f n V Z) {a b c : Nat} (ha : inR a = true) (hty : ryR a = .int) (hc : c < 512) (hj : b + c / 32 < lnR a) :
    ∃ h', s_X14_puts a (jI b) (jI c) h = some (.inl none, h') ∧ RW h' S wd t f n (upd2 V a (orb (V a) b c)) Z ∧ Ou h h' := by
  have e : ldI .int h (.ref a) (jI (b + c / 32)) = some (V a (b + c / 32)) := by
    have := X.ld ha hj
    rw [hty] at this
    exact this
  have z : (32 : Int32) ≠ 0 := by decide
  have d := dm32 (c := c) (by omega)
  obtain ⟨h', e1, X1, O1⟩ := X.st ha hty hj (V a (b + c / 32) ||| b1 (c % 32))
  refine ⟨h', ?_, X1, O1⟩
  unfold s_X14_puts
  simp only [nz_of z, d.1, jI_add, e, Option.bind_some, d.2, sh1 _ (Nat.mod_lt _ (by decide)), e1]
end
