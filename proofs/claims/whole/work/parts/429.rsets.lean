/-! in how many ticks: rounds -/
def fpF (ld : Nat → Nat → Nat → Int32) (n : Nat) (T : Nat → Bool) (c : Nat) : Nat → Nat → Int32
  | _, 0 => -2
  | p, k + 1 => if intoB (ld c p) n T then jI p else fpF ld n T c (p + 1) k
def rcS (ld : Nat → Nat → Nat → Int32) (P n : Nat) (good goal : Nat → Bool) : Nat → Nat → Bool
  | 0 => fun c => good c && goal c
  | r + 1 => fun c => rcS ld P n good goal r c || (good c && canB ld P n (rcS ld P n good goal r) c)
def tkS (ld : Nat → Nat → Nat → Int32) (P n : Nat) (good goal : Nat → Bool) : Nat → Nat → Int32
  | 0 => fun c => if good c && goal c then 0 else -2
  | r + 1 => fun c => if !rcS ld P n good goal r c && rcS ld P n good goal (r + 1) c then jI (r + 1) else tkS ld P n good goal r c
def lwS (ld : Nat → Nat → Nat → Int32) (P n : Nat) (good goal : Nat → Bool) : Nat → Nat → Int32
  | 0 => fun _ => -2
  | r + 1 => fun c => if !rcS ld P n good goal r c && rcS ld P n good goal (r + 1) c then fpF ld n (rcS ld P n good goal r) c 0 P else lwS ld P n good goal r c
def RSt (ld : Nat → Nat → Nat → Int32) (P n : Nat) (good goal : Nat → Bool) (r : Nat) : Prop := rcS ld P n good goal (r + 1) = rcS ld P n good goal r
theorem jI_m2 {d : Nat} (hd : d < 2147483648) : jI d ≠ -2 := fun h => by
  have := congrArg Int32.toInt h
  rw [jI_int hd] at this
  have h2 : (-2 : Int32).toInt = -2 := rfl
  omega
theorem fpF_can {ld : Nat → Nat → Nat → Int32} {n : Nat} {T : Nat → Bool} {c : Nat} : ∀ (k p : Nat), p + k < 2147483648 → (fpF ld n T c p k ≠ -2 ↔ (List.range' p k).any (fun p => intoB (ld c p) n T) = true)
  | 0, p, _ => ⟨fun h => absurd rfl h, fun h => by cases h⟩
  | k + 1, p, hp => by
    rw [List.range'_succ, List.any_cons]
    show (if intoB (ld c p) n T then jI p else fpF ld n T c (p + 1) k) ≠ -2 ↔ _
    cases q : intoB (ld c p) n T with
    | true =>
      rw [if_pos rfl]
      exact ⟨fun _ => rfl, fun _ => jI_m2 (by omega)⟩
    | false =>
      rw [if_neg (by decide), Bool.false_or]
      exact fpF_can k (p + 1) (by omega)
theorem fpF_canB {ld : Nat → Nat → Nat → Int32} {P n : Nat} {T : Nat → Bool} {c : Nat} (hP : P < 2147483648) : fpF ld n T c 0 P ≠ -2 ↔ canB ld P n T c = true := by
  unfold canB
  rw [List.range_eq_range']
  exact fpF_can P 0 (by omega)
section
variable {ld : Nat → Nat → Nat → Int32} {P n : Nat} {good goal : Nat → Bool}
theorem rcS_le {r c : Nat} (h : rcS ld P n good goal r c = true) : rcS ld P n good goal (r + 1) c = true := by
  show (rcS ld P n good goal r c || _) = true
  rw [h]
  rfl
theorem rcS_good : ∀ (r c : Nat), rcS ld P n good goal r c = true → good c = true
  | 0, c, h => by
    have : (good c && goal c) = true := h
    rw [Bool.and_eq_true] at this
    exact this.1
  | r + 1, c, h => by
    have : (rcS ld P n good goal r c || (good c && canB ld P n (rcS ld P n good goal r) c)) = true := h
    rw [Bool.or_eq_true, Bool.and_eq_true] at this
    rcases this with z | z
    · exact rcS_good r c z
    · exact z.1
theorem tkS_iff : ∀ (r c : Nat), r < 2147483648 → (tkS ld P n good goal r c = -2 ↔ rcS ld P n good goal r c = false)
  | 0, c, _ => by
    show (if good c && goal c then (0 : Int32) else -2) = -2 ↔ (good c && goal c) = false
    cases good c && goal c <;> decide
  | r + 1, c, hr => by
    have ih := tkS_iff r c (by omega)
    show (if !rcS ld P n good goal r c && rcS ld P n good goal (r + 1) c then jI (r + 1) else tkS ld P n good goal r c) = -2 ↔ _
    cases q : rcS ld P n good goal r c with
    | true =>
      rw [rcS_le q]
      rw [q] at ih
      exact ⟨fun z => absurd (ih.mp z) (by decide), fun z => by cases z⟩
    | false =>
      cases q1 : rcS ld P n good goal (r + 1) c with
      | true => exact ⟨fun z => absurd z (jI_m2 hr), fun z => by cases z⟩
      | false => exact ⟨fun _ => rfl, fun _ => ih.mpr q⟩
theorem lwS_no : ∀ (r c : Nat), rcS ld P n good goal r c = false → lwS ld P n good goal r c = -2
  | 0, _, _ => rfl
  | r + 1, c, h => by
    show (if !rcS ld P n good goal r c && rcS ld P n good goal (r + 1) c then _ else lwS ld P n good goal r c) = -2
    rw [h, Bool.and_false]
    refine lwS_no r c ?_
    cases q : rcS ld P n good goal r c with
    | false => rfl
    | true => rw [rcS_le q] at h; cases h
theorem RSt.rc {r : Nat} (h : RSt ld P n good goal r) : ∀ k, rcS ld P n good goal (r + k) = rcS ld P n good goal r
  | 0 => rfl
  | k + 1 => by
    have ih := RSt.rc h k
    show (fun c => rcS ld P n good goal (r + k) c || (good c && canB ld P n (rcS ld P n good goal (r + k)) c)) = _
    rw [ih]
    exact h
theorem RSt.tk {r : Nat} (h : RSt ld P n good goal r) : ∀ k, tkS ld P n good goal (r + k) = tkS ld P n good goal r ∧ lwS ld P n good goal (r + k) = lwS ld P n good goal r
  | 0 => ⟨rfl, rfl⟩
  | k + 1 => by
    have ih := RSt.tk h k
    constructor
    · funext c
      show (if !rcS ld P n good goal (r + k) c && rcS ld P n good goal (r + (k + 1)) c then jI (r + k + 1) else tkS ld P n good goal (r + k) c) = _
      rw [h.rc k, h.rc (k + 1), ih.1]
      cases rcS ld P n good goal r c <;> rfl
    · funext c
      show (if !rcS ld P n good goal (r + k) c && rcS ld P n good goal (r + (k + 1)) c then fpF ld n (rcS ld P n good goal (r + k)) c 0 P else lwS ld P n good goal (r + k) c) = _
      rw [h.rc k, h.rc (k + 1), ih.2]
      cases rcS ld P n good goal r c <;> rfl
theorem RSt.uniq {r s : Nat} (h : RSt ld P n good goal r) (g : RSt ld P n good goal s) : tkS ld P n good goal r = tkS ld P n good goal s ∧ lwS ld P n good goal r = lwS ld P n good goal s := by
  rcases Nat.le_total r s with q | q
  · obtain ⟨k, rfl⟩ := Nat.exists_eq_add_of_le q
    exact ⟨(h.tk k).1.symm, (h.tk k).2.symm⟩
  · obtain ⟨k, rfl⟩ := Nat.exists_eq_add_of_le q
    exact g.tk k
variable {C : Nat}
theorem rcS_out (hg : ∀ c, C ≤ c → good c = false) (r : Nat) {c : Nat} (hc : ¬ c < C) : rcS ld P n good goal r c = false := by
  cases h : rcS ld P n good goal r c with
  | false => rfl
  | true => exact absurd (rcS_good r c h) (by rw [hg c (by omega)]; decide)
theorem rst_or (hg : ∀ c, C ≤ c → good c = false) (r : Nat) : RSt ld P n good goal r ∨ cntB (fun c => !rcS ld P n good goal (r + 1) c) C < cntB (fun c => !rcS ld P n good goal r c) C := by
  by_cases q : ∃ c, c < C ∧ rcS ld P n good goal (r + 1) c = true ∧ rcS ld P n good goal r c = false
  · obtain ⟨c, h1, h2, h3⟩ := q
    refine Or.inr (cntB_lt C (fun c _ hc => ?_) ⟨c, h1, by rw [h2]; rfl, by rw [h3]; rfl⟩)
    cases z : rcS ld P n good goal r c with
    | false => rfl
    | true => rw [rcS_le z] at hc; cases hc
  · refine Or.inl ?_
    funext c
    by_cases qc : c < C
    · cases h2 : rcS ld P n good goal r c with
      | true => exact rcS_le h2
      | false =>
        cases h1 : rcS ld P n good goal (r + 1) c with
        | true => exact absurd ⟨c, qc, h1, h2⟩ q
        | false => rfl
    · rw [rcS_out hg _ qc, rcS_out hg _ qc]
theorem rst_ex (hg : ∀ c, C ≤ c → good c = false) : ∀ r, (∃ k, k ≤ r ∧ RSt ld P n good goal k) ∨ cntB (fun c => !rcS ld P n good goal (r + 1) c) C + r + 1 ≤ C
  | 0 => by
    rcases rst_or (ld := ld) (P := P) (n := n) (goal := goal) hg 0 with h | h
    · exact Or.inl ⟨0, Nat.le_refl _, h⟩
    · have := cntB_le (fun c => !rcS ld P n good goal 0 c) C
      exact Or.inr (by omega)
  | r + 1 => by
    rcases rst_ex hg r with ⟨k, h1, h2⟩ | h
    · exact Or.inl ⟨k, by omega, h2⟩
    · rcases rst_or (ld := ld) (P := P) (n := n) (goal := goal) hg (r + 1) with h2 | h2
      · exact Or.inl ⟨r + 1, Nat.le_refl _, h2⟩
      · exact Or.inr (by omega)
theorem rst_C (hg : ∀ c, C ≤ c → good c = false) : RSt ld P n good goal C := by
  rcases rst_ex (ld := ld) (P := P) (n := n) (goal := goal) hg C with ⟨k, h1, h2⟩ | h
  · obtain ⟨d, e⟩ := Nat.exists_eq_add_of_le h1
    unfold RSt
    rw [e, h2.rc d, Nat.add_assoc, h2.rc (d + 1)]
  · omega
def ticksS (ld : Nat → Nat → Nat → Int32) (P n C : Nat) (good goal : Nat → Bool) : Nat → Int32 := tkS ld P n good goal C
def lawsS (ld : Nat → Nat → Nat → Int32) (P n C : Nat) (good goal : Nat → Bool) : Nat → Int32 := lwS ld P n good goal C
theorem RSt.fin (hg : ∀ c, C ≤ c → good c = false) {r : Nat} (h : RSt ld P n good goal r) : tkS ld P n good goal r = ticksS ld P n C good goal ∧ lwS ld P n good goal r = lawsS ld P n C good goal := h.uniq (rst_C hg)
end
