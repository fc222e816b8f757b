/-! the class's payments: what lies behind, what is chosen -/
theorem jmax_le {a x M : Int32} (ha : M ≤ a) (hx : x ≤ M) : jmax a x = a := by
  unfold jmax
  rw [if_neg]
  rw [Int32.lt_iff_toInt_lt]
  rw [Int32.le_iff_toInt_le] at ha hx
  omega
theorem mxG_big {f : Nat → Int32} {M : Int32} (hf : ∀ x, f x ≤ M) : ∀ (k w : Nat) (a : Int32), M ≤ a → mxG f w k a = a
  | 0, _, _, _ => rfl
  | k + 1, w, a, ha => by
    show mxG f (w + 1) k (jmax a (f w)) = a
    rw [jmax_le ha (hf w)]
    exact mxG_big hf k (w + 1) a ha
theorem jmin_le (x : Int32) : jmin 1000000 x ≤ 1000000 := by
  unfold jmin
  split
  · rename_i q
    rw [Int32.lt_iff_toInt_lt] at q
    rw [Int32.le_iff_toInt_le]
    omega
  · exact Int32.le_refl _
theorem mnG_le {f : Nat → Int32} (hf : ∀ p, f p ≤ 1000000) : ∀ (k p : Nat) (b l : Int32), b ≤ 1000000 → (mnG f p k b l).1 ≤ 1000000
  | 0, _, _, _, hb => hb
  | k + 1, p, b, l, hb => by
    show (if f p < b then mnG f (p + 1) k (f p) (jI p) else mnG f (p + 1) k b l).1 ≤ 1000000
    split
    · exact mnG_le hf k (p + 1) _ _ (hf p)
    · exact mnG_le hf k (p + 1) _ _ hb
theorem bst_le {ld : Nat → Nat → Nat → Int32} {P n : Nat} {good : Nat → Bool} {cs : Nat → Nat → Int32} : ∀ (h c : Nat), (bst ld P n good cs h c).1 ≤ 1000000
  | 0, c => by
    show (if good c then (0 : Int32) else 1000000) ≤ 1000000
    cases good c <;> decide
  | h + 1, c => by
    show (if good c then mnG _ 1 (P - 1) (pdS ld n cs (fun d => (bst ld P n good cs h d).1) c 0) 0 else ((1000000 : Int32), (-2 : Int32))).1 ≤ 1000000
    cases good c with
    | true => exact mnG_le (fun p => jmin_le _) _ _ _ _ (jmin_le _)
    | false => exact Int32.le_refl _
theorem ahd_le {y : Int32} {f : Nat → Int32} (hf : ∀ d, f d ≤ 1000000) : ahd y f ≤ 1000000 := by
  unfold ahd
  split
  · exact Int32.le_refl _
  · exact hf _
section
variable {S : Nat → Nat → Int32} {Z : Nat → Nat → Int64} {D Ln : Nat → Nat} {b : Nat} {A : Nat → Nat → Int32} {N : Nat → Int64} {m F : Nat → Nat} {h : aH} {V : Nat → Nat → Int32}
theorem CC.leadOf (C : CC h S V Z D Ln b A N m F) (M : okMv V A m F) (L : lenMv Ln F) {c p w : Nat} (hc : c < F 12) (hp : p < F 13) (hw : w < F 14) : s_X3_leadOf 56 (jI c) (jI p) (jI w) h = some (.inl (some (.int (ldV A m F c p w))), h) := by
  obtain ⟨X, HM, K, hC, hwd⟩ := id C
  have ob : h[56]? = some (.inr (3, [.ref 3, .ref 57, .int (S 56 2), .int (jI (F 12 / 32 + 1)), .ref (D 58), .ref (D 59)])) := by
    rw [← hwd]
    exact X.1 56 rfl
  have hi : (c * F 13 + p) * F 14 + w < Ln 58 := by
    have h1 : (c + 1) * F 13 ≤ F 12 * F 13 := Nat.mul_le_mul_right _ (by omega)
    rw [Nat.add_mul] at h1
    have h2 : (c * F 13 + p + 1) * F 14 ≤ F 12 * F 13 * F 14 := Nat.mul_le_mul_right _ (by omega)
    rw [Nat.add_mul] at h2
    have := L.1
    omega
  have := leadOf_at HM ob (X.dlt (i := 58) rfl) (X.2.2.2.1 58 rfl) (by have := X.lnD (i := 58) rfl; omega) hi
  rw [M.1 c p w hc hp hw] at this
  exact this
theorem behind_at (C : CC h S V Z D Ln b A N m F) (M : okMv V A m F) (L : lenMv Ln F) (L2 : 21 * F 12 ≤ Ln 79) {c p w hz : Nat} {bs : Nat → Int32} (hc : c < F 12) (hp : p < F 13) (hw : w < F 14) (hz1 : 1 ≤ hz) (hz2 : hz ≤ 20) (hb : ∀ d, d < F 12 → V 79 ((hz - 1) * F 12 + d) = bs d) :
    s_X4_behind 78 (jI c) (jI p) (jI w) (jI hz) h = some (.inl (some (.int (ahd (ldV A m F c p w) bs))), h) := by
  obtain ⟨X, HM, K, hC, hwd⟩ := id C
  have h400 := hC.2.2.2.2.1
  have g1 : gO h (.ref 78) 4 1 = some 56 := gO_of (ltE (by decide)) (X.1 78 rfl) rfl
  have g4 : gO h (.ref 78) 4 4 = some (D 79) := gO_of (ltE (by decide)) (X.1 78 rfl) rfl
  have g0 : gO h (.ref 78) 4 0 = some 3 := gO_of (ltE (by decide)) (X.1 78 rfl) rfl
  have f12 : gI h (.ref 3) 2 12 = some (jI (F 12)) := gI_of (ltE (by decide)) HM.2.1 rfl
  have el := C.leadOf M L hc hp hw
  unfold s_X4_behind
  rw [g1, Option.bind_some, kO_of (ltE (by decide)) (X.1 56 rfl), el]
  simp only [cI]
  rcases ldV_is K hC c p w with z | ⟨d, z, hd⟩
  · rw [z, if_neg (by decide)]
    rfl
  · have hi : (hz - 1) * F 12 + d < Ln 79 := by
      have h1 : (hz - 1 + 1) * F 12 ≤ 21 * F 12 := Nat.mul_le_mul_right _ (by omega)
      rw [Nat.add_mul] at h1
      omega
    have l : ldI .int h (.ref (D 79)) (jI ((hz - 1) * F 12 + d)) = some (bs d) := (hb d hd) ▸ X.ldD (i := 79) rfl hi
    rw [z, if_pos (i32_nlt.mp (jI_neg (by omega))), g4, Option.bind_some, g0, Option.bind_some, f12, Option.bind_some, jI_dec (by omega), jI_mul, jI_add, l, Option.bind_some, ahd_in (by omega)]
theorem most_go (C : CC h S V Z D Ln b A N m F) (M : okMv V A m F) (L : lenMv Ln F) (L2 : 21 * F 12 ≤ Ln 79) {c p hz : Nat} {bs : Nat → Int32} (hc : c < F 12) (hp : p < F 13) (hz1 : 1 ≤ hz) (hz2 : hz ≤ 20) (hb : ∀ d, d < F 12 → V 79 ((hz - 1) * F 12 + d) = bs d) (hbs : ∀ d, bs d ≤ 1000000) :
    ∀ (n w f : Nat) (a : Int32), w + n = F 14 → n < f → s_X4_mostBehind_6 f 78 (jI c) (jI p) (jI hz) a (jI w) h = some (.inl (some (.int (mxG (fun w => ahd (ldV A m F c p w) bs) w n a))), h)
  | _, _, 0, _, _, hf => by omega
  | 0, w, f + 1, a, hk, hf => by
    obtain ⟨X, HM, K, hC, hwd⟩ := id C
    have h27 := hC.2.2.2.2.2.2.1
    have g0 : gO h (.ref 78) 4 0 = some 3 := gO_of (ltE (by decide)) (X.1 78 rfl) rfl
    have f14 : gI h (.ref 3) 2 14 = some (jI (F 14)) := gI_of (ltE (by decide)) HM.2.1 rfl
    show s_X4_mostBehind_6_b (s_X4_mostBehind_6 f) 78 (jI c) (jI p) (jI hz) a (jI w) h = _
    unfold s_X4_mostBehind_6_b
    rw [g0, Option.bind_some, f14, Option.bind_some, if_pos ((jI_le (by omega) (by omega)).mpr (by omega))]
    rfl
  | n + 1, w, f + 1, a, hk, hf => by
    obtain ⟨X, HM, K, hC, hwd⟩ := id C
    have h27 := hC.2.2.2.2.2.2.1
    have g0 : gO h (.ref 78) 4 0 = some 3 := gO_of (ltE (by decide)) (X.1 78 rfl) rfl
    have f14 : gI h (.ref 3) 2 14 = some (jI (F 14)) := gI_of (ltE (by decide)) HM.2.1 rfl
    have eb := behind_at C M L L2 hc hp (show w < F 14 by omega) hz1 hz2 hb
    have ih := most_go C M L L2 hc hp hz1 hz2 hb hbs n (w + 1) f (jmax a (ahd (ldV A m F c p w) bs)) (by omega) (by omega)
    show s_X4_mostBehind_6_b (s_X4_mostBehind_6 f) 78 (jI c) (jI p) (jI hz) a (jI w) h = _
    unfold s_X4_mostBehind_6_b
    rw [g0, Option.bind_some, f14, Option.bind_some, if_neg (fun q => by have := (jI_le (by omega) (by omega)).mp q; omega)]
    by_cases q : 1000000 ≤ a
    · rw [if_pos q, mxG_big (fun x => ahd_le hbs) (n + 1) w a q]
    · rw [if_neg q, kO_of (ltE (by decide)) (X.1 78 rfl), eb]
      simp only [cI, jI_inc]
      exact ih
/-- the class's costs -/
def csC (V : Nat → Nat → Int32) (F : Nat → Nat) (cs : Nat → Nat → Int32) : Prop := ∀ c p, c < F 12 → p < F 13 → V 64 (c * F 13 + p) = cs c p
theorem choose_go (C : CC h S V Z D Ln b A N m F) (M : okMv V A m F) (L : lenMv Ln F) (L2 : 21 * F 12 ≤ Ln 79) (L3 : 21 * F 12 ≤ Ln 80) (L4 : F 12 * F 13 ≤ Ln 64) {cs : Nat → Nat → Int32} (hcs : csC V F cs) {c hz : Nat} {bs : Nat → Int32} (hc : c < F 12) (hz1 : 1 ≤ hz) (hz2 : hz ≤ 20) (hb : ∀ d, d < F 12 → V 79 ((hz - 1) * F 12 + d) = bs d) (hbs : ∀ d, bs d ≤ 1000000) :
    ∀ (n p f : Nat) (x l : Int32), p + n = F 13 → n < f →
      ∃ h' V', s_X4_choose_9 f 78 (jI c) (jI hz) x l (jI p) h = some (.inl none, h') ∧ CC h' S V' Z D Ln b A N m F ∧ Oc D h h' ∧ V' = upd2 (upd2 V 79 (upd (V 79) (hz * F 12 + c) (mnG (pdS (ldV A m F) (F 14) cs bs c) p n x l).1)) 80 (upd (V 80) (hz * F 12 + c) (mnG (pdS (ldV A m F) (F 14) cs bs c) p n x l).2)
  | _, _, 0, _, _, _, hf => by omega
  | 0, p, f + 1, x, l, hk, hf => by
    obtain ⟨X, HM, K, hC, hwd⟩ := id C
    have h9 := hC.2.2.2.2.2.1
    have g0 : gO h (.ref 78) 4 0 = some 3 := gO_of (ltE (by decide)) (X.1 78 rfl) rfl
    have g4 : gO h (.ref 78) 4 4 = some (D 79) := gO_of (ltE (by decide)) (X.1 78 rfl) rfl
    have f13 : gI h (.ref 3) 2 13 = some (jI (F 13)) := gI_of (ltE (by decide)) HM.2.1 rfl
    have f12 : gI h (.ref 3) 2 12 = some (jI (F 12)) := gI_of (ltE (by decide)) HM.2.1 rfl
    have hi : hz * F 12 + c < 21 * F 12 := by
      have h1 : (hz + 1) * F 12 ≤ 21 * F 12 := Nat.mul_le_mul_right _ (by omega)
      rw [Nat.add_mul] at h1
      omega
    obtain ⟨h1, e1, X1, O1⟩ := X.stD (i := 79) (j := hz * F 12 + c) rfl (by omega) x
    have C1 := C.to X1 O1 rfl
    have G0 : gO h1 (.ref 78) 4 0 = some 3 := gO_of (ltE (by decide)) (X1.1 78 rfl) rfl
    have G5 : gO h1 (.ref 78) 4 5 = some (D 80) := gO_of (ltE (by decide)) (X1.1 78 rfl) rfl
    have G12 : gI h1 (.ref 3) 2 12 = some (jI (F 12)) := gI_of (ltE (by decide)) C1.2.1.2.1 rfl
    obtain ⟨h2, e2, X2, O2⟩ := X1.stD (i := 80) (j := hz * F 12 + c) rfl (by omega) l
    refine ⟨h2, _, ?_, C1.to X2 O2 rfl, O1.trans O2, by rw [upd2_ne (show (80 : Nat) ≠ 79 by decide)]; rfl⟩
    show s_X4_choose_9_b (s_X4_choose_9 f) 78 (jI c) (jI hz) x l (jI p) h = _
    unfold s_X4_choose_9_b
    rw [g0, Option.bind_some, f13, Option.bind_some, if_pos ((jI_le (by omega) (by omega)).mpr (by omega))]
    simp only [g4, g0, f12, Option.bind_some, jI_mul, jI_add, e1, G5, G0, G12, e2]
  | n + 1, p, f + 1, x, l, hk, hf => by
    obtain ⟨X, HM, K, hC, hwd⟩ := id C
    have h9 := hC.2.2.2.2.2.1
    have h27 := hC.2.2.2.2.2.2.1
    have hp : p < F 13 := by omega
    have g0 : gO h (.ref 78) 4 0 = some 3 := gO_of (ltE (by decide)) (X.1 78 rfl) rfl
    have g2 : gO h (.ref 78) 4 2 = some 60 := gO_of (ltE (by decide)) (X.1 78 rfl) rfl
    have g6 : gO h (.ref 60) 10 6 = some (D 64) := gO_of (ltE (by decide)) (X.1 60 rfl) rfl
    have f13 : gI h (.ref 3) 2 13 = some (jI (F 13)) := gI_of (ltE (by decide)) HM.2.1 rfl
    have hi : c * F 13 + p < Ln 64 := by
      have h1 : (c + 1) * F 13 ≤ F 12 * F 13 := Nat.mul_le_mul_right _ (by omega)
      rw [Nat.add_mul] at h1
      omega
    have lc : ldI .int h (.ref (D 64)) (jI (c * F 13 + p)) = some (cs c p) := (hcs c p hc hp) ▸ X.ldD (i := 64) rfl hi
    have em : s_X4_mostBehind 78 (jI c) (jI p) (jI hz) h = some (.inl (some (.int (mxG (fun w => ahd (ldV A m F c p w) bs) 0 (F 14) 0))), h) := most_go C M L L2 hc hp hz1 hz2 hb hbs (F 14) 0 FU 0 (by omega) (by unfold FU; omega)
    have pd : jmin 1000000 (cs c p + mxG (fun w => ahd (ldV A m F c p w) bs) 0 (F 14) 0) = pdS (ldV A m F) (F 14) cs bs c p := rfl
    have one : s_X4_choose_9 (f + 1) 78 (jI c) (jI hz) x l (jI p) h = if x ≤ pdS (ldV A m F) (F 14) cs bs c p then s_X4_choose_9 f 78 (jI c) (jI hz) x l (jI (p + 1)) h else s_X4_choose_9 f 78 (jI c) (jI hz) (pdS (ldV A m F) (F 14) cs bs c p) (jI p) (jI (p + 1)) h := by
      show s_X4_choose_9_b (s_X4_choose_9 f) 78 (jI c) (jI hz) x l (jI p) h = _
      unfold s_X4_choose_9_b
      rw [g0, Option.bind_some, f13, Option.bind_some, if_neg (fun q => by have := (jI_le (by omega) (by omega)).mp q; omega)]
      simp only [g2, g6, g0, f13, Option.bind_some, jI_mul, jI_add, lc, kO_of (ltE (by decide)) (X.1 78 rfl), em, cI, pd, jI_inc]
    have me : mnG (pdS (ldV A m F) (F 14) cs bs c) p (n + 1) x l = if pdS (ldV A m F) (F 14) cs bs c p < x then mnG (pdS (ldV A m F) (F 14) cs bs c) (p + 1) n (pdS (ldV A m F) (F 14) cs bs c p) (jI p) else mnG (pdS (ldV A m F) (F 14) cs bs c) (p + 1) n x l := rfl
    rw [one, me]
    by_cases q : x ≤ pdS (ldV A m F) (F 14) cs bs c p
    · rw [if_pos q, if_neg (i32_nlt.mpr q)]
      exact choose_go C M L L2 L3 L4 hcs hc hz1 hz2 hb hbs n (p + 1) f x l (by omega) (by omega)
    · rw [if_neg q, if_pos (i32_nle.mp q)]
      exact choose_go C M L L2 L3 L4 hcs hc hz1 hz2 hb hbs n (p + 1) f _ _ (by omega) (by omega)
end
