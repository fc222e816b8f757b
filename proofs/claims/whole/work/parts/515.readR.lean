/-! the reference's reader stands at a token -/
theorem rsG_iff {w : List Nat} : ∀ (n i s : Nat), (∀ a b, i ≤ a → a < i + n → i ≤ b → b < i + n → resA a = resA b → a = b) → i ≤ s → s < i + n → (rsG w i n = some s ↔ resA s = w)
  | 0, i, s, _, h1, h2 => by omega
  | n + 1, i, s, hd, h1, h2 => by
    have e0 : rsG w i (n + 1) = if resA i = w then some i else rsG w (i + 1) n := rfl
    rw [e0]
    by_cases q : resA i = w
    · rw [if_pos q]
      constructor
      · intro h; cases h; exact q
      · intro h
        rw [hd i s (by omega) (by omega) h1 h2 (q.trans h.symm)]
    · rw [if_neg q]
      by_cases u : s = i
      · subst u
        constructor
        · intro h
          have := rsG_lt n (s + 1) s h
          omega
        · intro h; exact absurd h q
      · exact rsG_iff n (i + 1) s (fun a b a1 a2 b1 b2 => hd a b (by omega) (by omega) (by omega) (by omega)) (by omega) (by omega)
theorem resA_inj : ∀ a, a < 8 → ∀ b, b < 8 → resA a = resA b → a = b := by decide
theorem rsO_iff {w : List Nat} {s : Nat} (hs : s < 8) : rsO w = some s ↔ resA s = w := rsG_iff 8 0 s (fun a b _ h2 _ h4 e => resA_inj a (by omega) b (by omega) e) (by omega) (by omega)
/-- the one Stop, its kind and place -/
def stW (h : aH) (x y : Int32) : Prop := ∃ fs, h[118]? = some (.inr (12, fs)) ∧ fs.length = 8 ∧ fs[6]? = some (.int x) ∧ fs[7]? = some (.int y)
def shS (h : aH) : Prop := ∃ fs, h[118]? = some (.inr (12, fs)) ∧ fs.length = 8
/-- only the reference's object, its Stop and the Thing at t are touched -/
def FrR (t : Nat) (h h' : aH) : Prop := h'.length = h.length ∧ ∀ k, k ≠ 104 → k ≠ 118 → (k < t ∨ t + 12 < k) → h'[k]? = h[k]?
theorem FrR.refl {t : Nat} {h : aH} : FrR t h h := ⟨rfl, fun _ _ _ _ => rfl⟩
theorem FrR.trans {t : Nat} {h1 h2 h3 : aH} (p : FrR t h1 h2) (q : FrR t h2 h3) : FrR t h1 h3 := ⟨q.1.trans p.1, fun k a b c => (q.2 k a b c).trans (p.2 k a b c)⟩
/-- where a Thing that is read may lie -/
def okt2 (t : Nat) : Prop := t = 105 ∨ t = 120 ∨ (183 < t ∧ t + 13 ≤ aE)
theorem okt2_ne {t : Nat} (h : okt2 t) : (t + 12 < 118 ∨ 118 < t) ∧ 104 < t ∧ ∀ k, k ≤ 12 → inR (t + k) = false ∧ loR (t + k) = false := by
  refine ⟨by rcases h with rfl | rfl | h <;> omega, by rcases h with rfl | rfl | h <;> omega, fun k hk => ⟨decide_eq_false ?_, decide_eq_false ?_⟩⟩
  · rcases h with rfl | rfl | h <;> omega
  · rcases h with rfl | rfl | h <;> omega
/-- the object alone is changed -/
def Ob (h h' : aH) : Prop := h'.length = h.length ∧ ∀ k, k ≠ 104 → h'[k]? = h[k]?
def RPw (h : aH) (S : Nat → Int32) (wd : Int64) (tv fv : Value) (t : Nat) (V : Nat → Nat → Int32) (Z : Nat → Nat → Int64) (T : Nat → Nat) (n k : Nat) : Prop :=
  RW h S wd tv fv (.ref t) V Z ∧ TPr V T ∧ okTp T ∧ n ≤ 400 ∧ S 10 = jI n ∧ tokR S wd T (tokS T n k) ∧ okt2 t ∧ shS h
/-- names as the reference has them -/
def NmR (B : Nat → Nat → Int32) (W : Nat → Int64) (m : Nat → Nat) (nm : Nat → List Nat) : Prop := (∀ k, k < 5 → B 1 k = jI (m k) ∧ bsN k + m k ≤ 11) ∧ ∀ s, dcl5 m s → W s = wL 32 (nm s) ∧ okWo (nm s)
section
variable {h : aH} {S : Nat → Int32} {wd : Int64} {tv fv : Value} {t : Nat} {V : Nat → Nat → Int32} {Z : Nat → Nat → Int64} {T : Nat → Nat} {n k : Nat}
theorem RPw.kO {β : Type} {y : Option β} (X : RPw h S wd tv fv t V Z T n k) : kO h 104 14 y = y := X.1.kO
theorem RPw.s12 (X : RPw h S wd tv fv t V Z T n k) : gI h (.ref 104) 14 12 = some (srt (tokS T n k).1) := by
  rw [X.1.gS (k := 12) rfl, X.2.2.2.2.2.1.2.1]
theorem srt_2 {c : Nat} : srt c = 2 ↔ c = 1 := by
  unfold srt
  by_cases a : c = 0
  · rw [if_pos a]; exact ⟨fun h => absurd h (by decide), fun h => by omega⟩
  · rw [if_neg a]
    by_cases b : c = 1
    · rw [if_pos b]; exact ⟨fun _ => b, fun _ => rfl⟩
    · rw [if_neg b]
      by_cases d : c = 2
      · rw [if_pos d]; exact ⟨fun h => absurd h (by decide), fun h => by omega⟩
      · rw [if_neg d]
        by_cases e : c = 3
        · rw [if_pos e]; exact ⟨fun h => absurd h (by decide), fun h => by omega⟩
        · rw [if_neg e]; exact ⟨fun h => absurd h (by decide), fun h => by omega⟩
theorem srt_3 {c : Nat} : srt c = 3 ↔ c = 2 := by
  unfold srt
  by_cases a : c = 0
  · rw [if_pos a]; exact ⟨fun h => absurd h (by decide), fun h => by omega⟩
  · rw [if_neg a]
    by_cases b : c = 1
    · rw [if_pos b]; exact ⟨fun h => absurd h (by decide), fun h => by omega⟩
    · rw [if_neg b]
      by_cases d : c = 2
      · rw [if_pos d]; exact ⟨fun _ => d, fun _ => rfl⟩
      · rw [if_neg d]
        by_cases e : c = 3
        · rw [if_pos e]; exact ⟨fun h => absurd h (by decide), fun h => by omega⟩
        · rw [if_neg e]; exact ⟨fun h => absurd h (by decide), fun h => by omega⟩
theorem srt_1 {c : Nat} : srt c = 1 ↔ c = 0 := by
  unfold srt
  by_cases a : c = 0
  · rw [if_pos a]; exact ⟨fun _ => a, fun _ => rfl⟩
  · rw [if_neg a]
    by_cases b : c = 1
    · rw [if_pos b]; exact ⟨fun h => absurd h (by decide), fun h => by omega⟩
    · rw [if_neg b]
      by_cases d : c = 2
      · rw [if_pos d]; exact ⟨fun h => absurd h (by decide), fun h => by omega⟩
      · rw [if_neg d]
        by_cases e : c = 3
        · rw [if_pos e]; exact ⟨fun h => absurd h (by decide), fun h => by omega⟩
        · rw [if_neg e]; exact ⟨fun h => absurd h (by decide), fun h => by omega⟩
theorem srt_4 {c : Nat} : srt c = 4 ↔ 3 < c := by
  unfold srt
  by_cases a : c = 0
  · rw [if_pos a]; exact ⟨fun h => absurd h (by decide), fun h => by omega⟩
  · rw [if_neg a]
    by_cases b : c = 1
    · rw [if_pos b]; exact ⟨fun h => absurd h (by decide), fun h => by omega⟩
    · rw [if_neg b]
      by_cases d : c = 2
      · rw [if_pos d]; exact ⟨fun h => absurd h (by decide), fun h => by omega⟩
      · rw [if_neg d]
        by_cases e : c = 3
        · rw [if_pos e]; exact ⟨fun h => absurd h (by decide), fun h => by omega⟩
        · rw [if_neg e]; exact ⟨fun _ => by omega, fun _ => rfl⟩
theorem isWd_R (X : RPw h S wd tv fv t V Z T n k) {i : Nat} (hi : i < 8) : s_X14_isWord 104 (aE + 10 + i) h = some (.inl (some (.int (b01 (isWd T n i k)))), h) := by
  unfold s_X14_isWord isWd
  rw [X.s12, Option.bind_some]
  by_cases q : (tokS T n k).1 = 1
  · obtain ⟨w1, -, w3⟩ := tok_word q
    have ew : wd = wL 32 (tkW T (tokS T n k)) := (X.2.2.2.2.2.1.2.2.2.1 q).trans w3
    rw [if_pos (srt_2.mpr q), X.1.gW, Option.bind_some, wordOf_at hi]
    simp only [cJ]
    by_cases q2 : rsO (tkW T (tokS T n k)) = some i
    · rw [if_pos (cmp_eq.mpr (by rw [ew, (rsO_iff hi).mp q2])), show decide ((tokS T n k).1 = 1 ∧ rsO (tkW T (tokS T n k)) = some i) = true from decide_eq_true ⟨q, q2⟩]
      rfl
    · rw [if_neg (fun z => q2 ((rsO_iff hi).mpr ((wL_inj (Or.inr rfl) (res_ok i hi) w1).mp (by rw [← ew]; exact (cmp_eq.mp z).symm)))), show decide ((tokS T n k).1 = 1 ∧ rsO (tkW T (tokS T n k)) = some i) = false from decide_eq_false (fun z => q2 z.2)]
      rfl
  · rw [if_neg (fun z => q (srt_2.mp z)), show decide ((tokS T n k).1 = 1 ∧ rsO (tkW T (tokS T n k)) = some i) = false from decide_eq_false (fun z => q z.1)]
    rfl
theorem is_R (X : RPw h S wd tv fv t V Z T n k) {c : Nat} (hc : 3 < c) (hc2 : c < 256) : s_X14_is 104 (jI c) h = some (.inl (some (.int (b01 (decide ((tokS T n k).1 = c))))), h) := by
  unfold s_X14_is
  have kd := tok_kd X.2.2.1 n k
  rw [X.s12, Option.bind_some]
  by_cases q : 3 < (tokS T n k).1
  · rw [if_pos (srt_4.mpr q), X.1.gS (k := 14) rfl, Option.bind_some, X.2.2.2.2.2.1.2.2.1 q]
    by_cases q2 : (tokS T n k).1 = c
    · rw [if_pos (by rw [q2]), show decide ((tokS T n k).1 = c) = true from decide_eq_true q2]
      rfl
    · rw [if_neg (fun z => q2 ((jI_inj (by omega) (by omega)).mp z)), show decide ((tokS T n k).1 = c) = false from decide_eq_false q2]
      rfl
  · rw [if_neg (fun z => q (srt_4.mp z)), show decide ((tokS T n k).1 = c) = false from decide_eq_false (by omega)]
    rfl
end
