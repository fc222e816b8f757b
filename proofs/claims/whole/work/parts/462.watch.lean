/-! the watcher: what is meant -/
def fit1 (A : Nat → Nat → Int32) (m : Nat → Nat) (ta tv : Nat → Int32) (t : Nat) (by' : Int32) (fl : Nat) (v : Nat → Int32) (i : Nat) : Bool :=
  if ta (2 * t + i) = -1 then true else if ta (2 * t + i) ≤ by' then decide ((if fl = m 1 + 1 + i then 0 else sumV v (sgm A 10 11 i)) = tv (2 * t + i)) else true
def fitS (A : Nat → Nat → Int32) (m : Nat → Nat) (ta tv : Nat → Int32) (t : Nat) (by' : Int32) (fl : Nat) (v : Nat → Int32) : Bool := allR (fit1 A m ta tv t by' fl v) 0 (m 4)
theorem allR_congr {f g : Nat → Bool} : ∀ (n w : Nat), (∀ k, w ≤ k → k < w + n → f k = g k) → allR f w n = allR g w n
  | 0, _, _ => rfl
  | n + 1, w, h => by
    show (f w && allR f (w + 1) n) = (g w && allR g (w + 1) n)
    rw [h w (Nat.le_refl _) (by omega), allR_congr n (w + 1) (fun k h1 h2 => h k (by omega) (by omega))]
theorem anyR_congr {f g : Nat → Bool} : ∀ (n w : Nat), (∀ k, w ≤ k → k < w + n → f k = g k) → anyR f w n = anyR g w n
  | 0, _, _ => rfl
  | n + 1, w, h => by
    show (f w || anyR f (w + 1) n) = (g w || anyR g (w + 1) n)
    rw [h w (Nat.le_refl _) (by omega), anyR_congr n (w + 1) (fun k h1 h2 => h k (by omega) (by omega))]
theorem anyR_iff {f : Nat → Bool} : ∀ (n w : Nat), anyR f w n = true ↔ ∃ k, w ≤ k ∧ k < w + n ∧ f k = true
  | 0, w => ⟨fun h => Bool.noConfusion (show false = true from h), fun ⟨k, h1, h2, _⟩ => by omega⟩
  | n + 1, w => by
    show (f w || anyR f (w + 1) n) = true ↔ _
    rw [Bool.or_eq_true, anyR_iff n (w + 1)]
    constructor
    · rintro (h | ⟨k, h1, h2, h3⟩)
      · exact ⟨w, Nat.le_refl _, by omega, h⟩
      · exact ⟨k, by omega, by omega, h3⟩
    · rintro ⟨k, h1, h2, h3⟩
      by_cases q : k = w
      · rw [q] at h3; exact Or.inl h3
      · exact Or.inr ⟨k, by omega, by omega, h3⟩
theorem fitS_congr {A : Nat → Nat → Int32} {m F : Nat → Nat} {ta tv ta' tv' : Nat → Int32} {t fl : Nat} {by' by2 : Int32} {v v' : Nat → Int32} (Q : okN A m F) (hv : agree m v v') (h1 : ∀ i, i < m 4 → ta (2 * t + i) = ta' (2 * t + i) ∧ tv (2 * t + i) = tv' (2 * t + i)) (hb : ∀ i, i < m 4 → ta (2 * t + i) ≠ -1 → (ta (2 * t + i) ≤ by' ↔ ta (2 * t + i) ≤ by2)) : fitS A m ta tv t by' fl v = fitS A m ta' tv' t by2 fl v' := by
  refine allR_congr (m 4) 0 (fun i _ hi => ?_)
  have hi : i < m 4 := by omega
  unfold fit1
  rw [← (h1 i hi).1, ← (h1 i hi).2, sumV_congr hv (Q.2 i hi)]
  by_cases z : ta (2 * t + i) = -1
  · rw [if_pos z, if_pos z]
  · rw [if_neg z, if_neg z]
    by_cases y : ta (2 * t + i) ≤ by'
    · rw [if_pos y, if_pos ((hb i hi z).mp y)]
    · rw [if_neg y, if_neg (fun u => y ((hb i hi z).mpr u))]
/-- the push that is done at a tick, one of its parts failing -/
def idxR (A : Nat → Nat → Int32) (dg : Nat → Nat) (b : Nat) : Nat → Nat
  | 0 => 0
  | n + 1 => idxR A dg b n * wdN A 0 (b + n) + dg (b + n)
theorem idxR_lt {A : Nat → Nat → Int32} {dg : Nat → Nat} {b : Nat} : ∀ (n : Nat), (∀ s, b ≤ s → s < b + n → dg s < wdN A 0 s) → idxR A dg b n < prtN A 0 b n
  | 0, _ => Nat.one_pos
  | n + 1, h => by
    have ih := idxR_lt n (fun s h1 h2 => h s h1 (by omega))
    have hd := h (b + n) (by omega) (by omega)
    rw [prtN_right]
    show idxR A dg b n * wdN A 0 (b + n) + dg (b + n) < _
    have := Nat.mul_le_mul_right (wdN A 0 (b + n)) (show idxR A dg b n + 1 ≤ prtN A 0 b n by omega)
    rw [Nat.add_mul] at this
    omega
theorem idxR_spr {A : Nat → Nat → Int32} {dg : Nat → Nat} {b : Nat} : ∀ (n : Nat), prtN A 0 b n < 2147483648 → (∀ s, b ≤ s → s < b + n → dg s < wdN A 0 s) → ∀ v s, b ≤ s → s < b + n → sprGo A 0 b n (jI (idxR A dg b n)) v s = A 3 s + jI (dg s)
  | 0, _, _, _, _, _, _ => by omega
  | n + 1, hp, h, v, s, q1, q2 => by
    have hl := idxR_lt (n + 1) h
    have hd := h (b + n) (by omega) (by omega)
    have wp := wdN_pos A 0 (b + n)
    have hp' := hp
    rw [prtN_right] at hp'
    have hle : prtN A 0 b n ≤ prtN A 0 b n * wdN A 0 (b + n) := Nat.le_mul_of_pos_right _ wp
    rw [spr_step A b n _ v (by omega)]
    have e1 : idxR A dg b (n + 1) / wdN A 0 (b + n) = idxR A dg b n := by
      show (idxR A dg b n * wdN A 0 (b + n) + dg (b + n)) / wdN A 0 (b + n) = _
      rw [Nat.mul_comm, Nat.mul_add_div wp, Nat.div_eq_of_lt hd, Nat.add_zero]
    have e2 : idxR A dg b (n + 1) % wdN A 0 (b + n) = dg (b + n) := by
      show (idxR A dg b n * wdN A 0 (b + n) + dg (b + n)) % wdN A 0 (b + n) = _
      rw [Nat.mul_comm, Nat.mul_add_mod, Nat.mod_eq_of_lt hd]
    rw [e1, e2]
    by_cases q : s = b + n
    · rw [spr_out A 0 b n _ _ s (by omega), q, upd_eq]
    · exact idxR_spr n (by omega) (fun s h1 h2 => h s h1 (by omega)) _ s q1 (by omega)
theorem idxGo_app {A : Nat → Nat → Int32} {v : Nat → Int32} : ∀ (n s : Nat) (c : Int32), idxGo A v s (n + 1) c = ((idxGo A v s n c * wdt A 0 (s + n)) + v (s + n)) - A 3 (s + n)
  | 0, s, c => rfl
  | n + 1, s, c => by
    show idxGo A v (s + 1) (n + 1) (((c * wdt A 0 s) + v s) - A 3 s) = _
    rw [idxGo_app n (s + 1)]
    show _ = ((idxGo A v (s + 1) n (((c * wdt A 0 s) + v s) - A 3 s) * wdt A 0 (s + (n + 1))) + v (s + (n + 1))) - A 3 (s + (n + 1))
    rw [show s + 1 + n = s + (n + 1) by omega]
theorem idxGo_R {A : Nat → Nat → Int32} {v : Nat → Int32} {dg : Nat → Nat} : ∀ (n : Nat), (∀ s, 3 ≤ s → s < 3 + n → v s = A 3 s + jI (dg s)) → idxGo A v 3 n 0 = jI (idxR A dg 3 n)
  | 0, _ => rfl
  | n + 1, h => by
    rw [idxGo_app, idxGo_R n (fun s h1 h2 => h s h1 (by omega)), wdt_N, jI_mul, h (3 + n) (by omega) (by omega), i32_cancel, jI_add]
    rfl
theorem idxR_congr {A : Nat → Nat → Int32} {dg dg' : Nat → Nat} {b : Nat} : ∀ (n : Nat), (∀ s, b ≤ s → s < b + n → dg s = dg' s) → idxR A dg b n = idxR A dg' b n
  | 0, _ => rfl
  | n + 1, h => by
    show idxR A dg b n * wdN A 0 (b + n) + dg (b + n) = idxR A dg' b n * wdN A 0 (b + n) + dg' (b + n)
    rw [idxR_congr n (fun s h1 h2 => h s h1 (by omega)), h (b + n) (by omega) (by omega)]
def pfS (A : Nat → Nat → Int32) (m : Nat → Nat) (tp : Nat → Int32) (t fl : Nat) : Nat :=
  if 1 ≤ fl ∧ fl ≤ m 1 then idxR A (digN A (failV A m (tp t) (fl - 1) zV)) 3 (m 1) else (tp t).toNatClampNeg
section
variable {A : Nat → Nat → Int32} {m F : Nat → Nat}
theorem sub0_add (x : Int32) (d : Nat) : (x - 0) + jI d = x + jI d := by rw [i32_sub0]
theorem failV_rng (K : okW A m F) {p : Nat} (hp : p < 2147483648) {i : Nat} (hi : i < m 1) (v : Nat → Int32) {s : Nat} (h1 : 3 ≤ s) (h2 : s < 3 + m 1) : A 3 s ≤ failV A m (jI p) i v s ∧ failV A m (jI p) i v s ≤ A 4 s := by
  have hr := K.2.2.1 s (Or.inr (Or.inl ⟨h1, h2⟩))
  unfold failV
  by_cases q : s = 3 + i
  · rw [q] at hr
    rw [q, upd_eq, Int32.le_iff_toInt_le, Int32.le_iff_toInt_le]
    obtain ⟨r1, r2, r3⟩ := hr
    unfold jmax jmin
    by_cases z2 : (0 : Int32) < A 4 (3 + i)
    · rw [if_pos z2]
      rw [Int32.lt_iff_toInt_lt] at z2
      by_cases z : A 3 (3 + i) < 0
      · rw [if_pos z]
        rw [Int32.lt_iff_toInt_lt] at z
        omega
      · rw [if_neg z]
        omega
    · rw [if_neg z2]
      by_cases z : A 3 (3 + i) < A 4 (3 + i)
      · rw [if_pos z]
        omega
      · rw [if_neg z]
        omega
  · rw [upd_ne q]
    obtain ⟨d, d1, d2⟩ := spr_val (A := A) (b := 3) (w := 0) (m 1) p v s hp h1 h2
    rw [d2, sub0_add, Int32.le_iff_toInt_le, Int32.le_iff_toInt_le]
    have w := wdN_R hr
    obtain ⟨r1, r2, r3⟩ := hr
    rw [(toInt_small (x := A 3 s) (y := jI d) (by omega) (by rw [jI_int (by omega)]; omega)).2, jI_int (by omega)]
    omega
theorem failV_dig (K : okW A m F) {p : Nat} (hp : p < 2147483648) {i : Nat} (hi : i < m 1) (v : Nat → Int32) {s : Nat} (h1 : 3 ≤ s) (h2 : s < 3 + m 1) : failV A m (jI p) i v s = A 3 s + jI (digN A (failV A m (jI p) i v) s) ∧ digN A (failV A m (jI p) i v) s < wdN A 0 s :=
  dig_of (K.2.2.1 s (Or.inr (Or.inl ⟨h1, h2⟩))) (failV_rng K hp hi v h1 h2)
theorem failV_in {p : Int32} {i : Nat} (v v' : Nat → Int32) {s : Nat} (h1 : 3 ≤ s) (h2 : s < 3 + m 1) : failV A m p i v s = failV A m p i v' s := by
  unfold failV
  by_cases q : s = 3 + i
  · rw [q, upd_eq, upd_eq]
  · rw [upd_ne q, upd_ne q]
    exact spr_in A 0 3 (m 1) _ _ _ s h1 h2
theorem pf_lt (K : okW A m F) (C : okC A m F) {tp : Nat → Int32} {t fl q : Nat} (ht : tp t = jI q) (hq : q < F 13) : pfS A m tp t fl < F 13 := by
  have h9 := C.2.2.2.2.2.1
  unfold pfS
  by_cases z : 1 ≤ fl ∧ fl ≤ m 1
  · rw [if_pos z, C.2.1, ht]
    exact idxR_lt (m 1) (fun s h1 h2 => (failV_dig K (by omega) (by omega) zV h1 h2).2)
  · rw [if_neg z, ht, jI_cl (by omega)]
    exact hq
theorem pf_spr (K : okW A m F) (C : okC A m F) {tp : Nat → Int32} {t fl q : Nat} (ht : tp t = jI q) (hq : q < F 13) (z : 1 ≤ fl ∧ fl ≤ m 1) (v v' : Nat → Int32) {s : Nat} (h1 : 3 ≤ s) (h2 : s < 3 + m 1) : sprGo A 0 3 (m 1) (jI (pfS A m tp t fl)) v s = failV A m (jI q) (fl - 1) v' s := by
  have h9 := C.2.2.2.2.2.1
  unfold pfS
  rw [if_pos z, ht, idxR_spr (m 1) (by have := C.2.1; omega) (fun s h1 h2 => (failV_dig K (by omega) (by omega) zV h1 h2).2) v s h1 h2, ← (failV_dig K (by omega) (by omega) zV h1 h2).1]
  exact failV_in _ _ h1 h2
theorem pf_idx (K : okW A m F) (C : okC A m F) {tp : Nat → Int32} {t fl q : Nat} (ht : tp t = jI q) (hq : q < F 13) (z : 1 ≤ fl ∧ fl ≤ m 1) (v : Nat → Int32) : idxGo A (failV A m (jI q) (fl - 1) v) 3 (m 1) 0 = jI (pfS A m tp t fl) := by
  have h9 := C.2.2.2.2.2.1
  unfold pfS
  rw [if_pos z, ht, idxGo_R (dg := digN A (failV A m (jI q) (fl - 1) v)) (m 1) (fun s h1 h2 => (failV_dig K (by omega) (by omega) v h1 h2).1)]
  congr 1
  refine idxR_congr (m 1) (fun s h1 h2 => ?_)
  unfold digN
  rw [failV_in v zV h1 h2]
end
/-- the values at the first cell: pushes 0, worlds at their least -/
def v0S (A : Nat → Nat → Int32) (m F : Nat → Nat) (c k : Nat) : Nat → Int32 := spW A m (jI (F 15)) 0 (jI k) (sprGo A 0 0 (m 0) (jI c) zV)
def v1S (A : Nat → Nat → Int32) (m F : Nat → Nat) (c p x : Nat) : Nat → Int32 := spM A m (jI (F 15)) (jI c) (jI p) (jI x) zV
/-- where it can be: num k, tick t -/
def wS (A : Nat → Nat → Int32) (m F : Nat → Nat) (good : Nat → Bool) (tp ta tv : Nat → Int32) (by' : Int32) (fl k : Nat) : Nat → Nat → Bool
  | 0 => fun c => decide (c < F 12) && (good c && fitS A m ta tv 0 by' fl (v0S A m F c k))
  | t + 1 => fun c => anyR (fun c' => wS A m F good tp ta tv by' fl k t c' && anyR (fun w => decide (ldV A m F c' (pfS A m tp (t + 1) fl) (w * F 15 + k) = jI c) && fitS A m ta tv (t + 1) by' fl (v1S A m F c (pfS A m tp (t + 1) fl) (w * F 15 + k))) 0 (F 14 / F 15)) 0 (F 12)
theorem wS_congr {A : Nat → Nat → Int32} {m F : Nat → Nat} (K : okW A m F) {good : Nat → Bool} {tp ta tv tp' ta' tv' : Nat → Int32} {by' by2 : Int32} {fl k : Nat} : ∀ (t : Nat), (∀ e, 1 ≤ e → e ≤ t → tp e = tp' e) → (∀ e i, e ≤ t → i < m 4 → ta (2 * e + i) = ta' (2 * e + i) ∧ tv (2 * e + i) = tv' (2 * e + i)) → (∀ e i, e ≤ t → i < m 4 → ta (2 * e + i) ≠ -1 → (ta (2 * e + i) ≤ by' ↔ ta (2 * e + i) ≤ by2)) → wS A m F good tp ta tv by' fl k t = wS A m F good tp' ta' tv' by2 fl k t
  | 0, _, h2, h3 => by
    funext c
    show (decide (c < F 12) && (good c && fitS A m ta tv 0 by' fl (v0S A m F c k))) = (decide (c < F 12) && (good c && fitS A m ta' tv' 0 by2 fl (v0S A m F c k)))
    rw [fitS_congr K.2.1 (fun _ _ => rfl) (h2 0 · (Nat.le_refl _)) (h3 0 · (Nat.le_refl _))]
  | t + 1, h1, h2, h3 => by
    funext c
    have ih := wS_congr K (good := good) (fl := fl) (k := k) t (fun e a b => h1 e a (by omega)) (fun e i a b => h2 e i (by omega) b) (fun e i a b => h3 e i (by omega) b)
    have ep : pfS A m tp (t + 1) fl = pfS A m tp' (t + 1) fl := by
      unfold pfS
      rw [h1 (t + 1) (by omega) (Nat.le_refl _)]
    show anyR (fun c' => wS A m F good tp ta tv by' fl k t c' && anyR (fun w => decide (ldV A m F c' (pfS A m tp (t + 1) fl) (w * F 15 + k) = jI c) && fitS A m ta tv (t + 1) by' fl (v1S A m F c (pfS A m tp (t + 1) fl) (w * F 15 + k))) 0 (F 14 / F 15)) 0 (F 12) = anyR (fun c' => wS A m F good tp' ta' tv' by2 fl k t c' && anyR (fun w => decide (ldV A m F c' (pfS A m tp' (t + 1) fl) (w * F 15 + k) = jI c) && fitS A m ta' tv' (t + 1) by2 fl (v1S A m F c (pfS A m tp' (t + 1) fl) (w * F 15 + k))) 0 (F 14 / F 15)) 0 (F 12)
    rw [ih, ep]
    refine anyR_congr _ _ (fun c' _ _ => ?_)
    congr 1
    refine anyR_congr _ _ (fun w _ _ => ?_)
    congr 1
    exact fitS_congr K.2.1 (fun _ _ => rfl) (h2 (t + 1) · (Nat.le_refl _)) (h3 (t + 1) · (Nat.le_refl _))
