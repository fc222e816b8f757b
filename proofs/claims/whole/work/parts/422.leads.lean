/-! the reference's table of leads -/
def Sm (L : List Nat) (V V' : Nat → Nat → Int32) : Prop := ∀ k, k ∉ L → V' k = V k
theorem Sm.refl {L : List Nat} {V : Nat → Nat → Int32} : Sm L V V := fun _ _ => rfl
theorem Sm.trans {L : List Nat} {V1 V2 V3 : Nat → Nat → Int32} (a : Sm L V1 V2) (b : Sm L V2 V3) : Sm L V1 V3 := fun k hk => (b k hk).trans (a k hk)
theorem Sm.upd {L : List Nat} {V V' : Nat → Nat → Int32} {a : Nat} {g : Nat → Int32} (h : Sm L V V') (ha : a ∈ L) : Sm L V (upd2 V' a g) := fun k hk => by
  rw [upd2_ne (fun e => hk (by rw [e]; exact ha))]
  exact h k hk
theorem Sm.mono {L L' : List Nat} {V V' : Nat → Nat → Int32} (h : Sm L V V') (hL : ∀ k, k ∈ L → k ∈ L') : Sm L' V V' := fun k hk => h k (fun z => hk (hL k z))
def isLd (x : Int32) (C : Nat) : Prop := x = -2 ∨ ∃ d, x = jI d ∧ d < C
theorem short_id : ∀ d, d < 400 → (jI d).toInt16.toInt32 = jI d ∧ vp_nar .short (jI d) = jI d := by decide +kernel
theorem short_out : (-2 : Int32).toInt16.toInt32 = -2 ∧ vp_nar .short (-2) = -2 := by decide +kernel
theorem isLd.short {x : Int32} {C : Nat} (h : isLd x C) (hC : C ≤ 400) : x.toInt16.toInt32 = x ∧ vp_nar .short x = x := by
  rcases h with rfl | ⟨d, rfl, hd⟩
  · exact short_out
  · exact short_id d (by omega)
theorem idx9 (c p w : Nat) : (((jI c * 9) + jI p) * 27) + jI w = jI ((c * 9 + p) * 27 + w) := by
  rw [show (9 : Int32) = jI 9 from rfl, show (27 : Int32) = jI 27 from rfl, jI_mul, jI_add, jI_mul, jI_add]
theorem spM_sm {A : Nat → Nat → Int32} {m F : Nat → Nat} (K : okm m) (hR : ∀ s, decl m s → okR A s) {P c p w : Nat} (hP : 0 < P) (hP2 : P < 2147483648) (hc : c < 2147483648) (hp : p < 2147483648) (hw : w < 2147483648) (v : Nat → Int32) : okVs m (spM A m (jI P) (jI c) (jI p) (jI w) v) := by
  intro s hs
  have hr := hR s hs
  obtain ⟨h0, h1, h2, h3, -⟩ := K
  have hd : w / P ≤ w := Nat.div_le_self _ _
  have hm : w % P ≤ w := Nat.mod_le _ _
  unfold spM spW
  rw [jmax1_N hP hP2, jI_mod hw hP hP2, jI_div hw hP hP2]
  by_cases q3 : 7 ≤ s ∧ s < 7 + m 3
  · exact spr_sm _ _ _ s (by omega) q3.1 q3.2 hr
  · rw [spr_out A 0 7 _ _ _ s (by omega)]
    by_cases q2 : 5 ≤ s ∧ s < 5 + m 2
    · exact spr_sm _ _ _ s (by omega) q2.1 q2.2 hr
    · rw [spr_out A 0 5 _ _ _ s (by omega)]
      by_cases q1 : 3 ≤ s ∧ s < 3 + m 1
      · exact spr_sm _ _ _ s (by omega) q1.1 q1.2 hr
      · rw [spr_out A 0 3 _ _ _ s (by omega)]
        have q0 : s < m 0 := by
          rcases hs with h | h | h | h
          · exact h
          · exact absurd h q1
          · exact absurd h q2
          · exact absurd h q3
        exact spr_sm _ _ _ s hc (Nat.zero_le _) (by omega) hr
theorem leadV_is {A : Nat → Nat → Int32} {m F : Nat → Nat} (K : okW A m F) (C : okC A m F) (v : Nat → Int32) : isLd (leadV A m F v) (F 12) := by
  rcases leadV_rng (F := F) (fun k hk => K.2.2.1 k (Or.inl hk)) v with z | ⟨c, z1, z2⟩
  · exact Or.inl z
  · exact Or.inr ⟨c, z1, by rw [C.1]; exact z2⟩
theorem ldV_is {A : Nat → Nat → Int32} {m F : Nat → Nat} (K : okW A m F) (C : okC A m F) (c p w : Nat) : isLd (ldV A m F c p w) (F 12) := leadV_is K C _
section
variable {S : Nat → Int32} {wd : Int64} {t : Nat} {fv nv : Value} {Z : Nat → Nat → Int64} {A : Nat → Nat → Int32} {m F : Nat → Nat} {B : Nat → Nat → Int32} {W : Nat → Int64} {G : Nat → Nat}
/-- a cell, a push and a world laid -/
theorem rc_laid {h : aH} {V : Nat → Nat → Int32} (C : RC h S wd t fv nv V Z A m F B W G) {c p w : Nat} (hw : w < 2147483648) :
    ∃ h1 h2 h3, s_X14_lays 104 (jI c) h = some (.inl none, h1) ∧ s_X14_pushed 104 (jI p) h1 = some (.inl none, h2) ∧ s_X14_worlded 104 (jI w) h2 = some (.inl none, h3) ∧ kO h1 104 14 (some ()) = some () ∧ kO h2 104 14 (some ()) = some () ∧
      RC h3 S wd t fv nv (upd2 V 148 (spM A m (jI (F 15)) (jI c) (jI p) (jI w) (V 148))) Z A m F B W G ∧ Ou h h3 := by
  obtain ⟨h1, e1, C1, O1⟩ := C.lays (jI c)
  obtain ⟨h2, e2, C2, O2⟩ := C1.pushed (jI p)
  obtain ⟨h3, e3, C3, O3⟩ := C2.worlded hw
  simp only [upd2_2, upd2_eq] at C3
  exact ⟨h1, h2, h3, e1, e2, e3, C1.kO, C2.kO, C3, (O1.trans O2).trans O3⟩
theorem kO_un {β : Type} {h : aH} {o ci : Nat} {k : Option β} (e : kO h o ci (some ()) = some ()) : kO h o ci k = k := by
  unfold kO at *
  split at e
  · rfl
  · cases e
theorem leads22_go {k2 : Nat → Int32 → aH → aO} {k12 : Nat → Int32 → Int32 → aH → aO} {c p : Nat} (hc : c < F 12) (hp : p < F 13) :
    ∀ (n w f : Nat) (h : aH) (V : Nat → Nat → Int32), w + n = F 14 → n < f → RC h S wd t fv nv V Z A m F B W G →
      ∃ h' V', s_X14_leads_22 k2 k12 f 104 (jI c) (jI p) (jI w) h = k12 104 (jI c) (jI (p + 1)) h' ∧ RC h' S wd t fv nv V' Z A m F B W G ∧ Ou h h' ∧ Sm [148, 149, 151] V V' ∧
        (∀ x, w ≤ x → x < F 14 → V' 151 ((c * 9 + p) * 27 + x) = ldV A m F c p x) ∧ ∀ i, (∀ x, w ≤ x → x < F 14 → i ≠ (c * 9 + p) * 27 + x) → V' 151 i = V 151 i
  | _, _, 0, _, _, _, hf, _ => by omega
  | 0, w, f + 1, h, V, hi, hf, C => by
    refine ⟨h, V, ?_, C, Ou.refl, Sm.refl, fun x h1 h2 => by omega, fun _ _ => rfl⟩
    obtain ⟨X, -, -, -, -, hC, s20, s21, s22, s23⟩ := id C
    have h27 := hC.2.2.2.2.2.2.1
    show s_X14_leads_22_b k2 k12 (s_X14_leads_22 k2 k12 f) 104 (jI c) (jI p) (jI w) h = _
    unfold s_X14_leads_22_b
    have g : gI h (.ref 104) 14 22 = some (jI (F 14)) := s22 ▸ gI_of (ltE (by decide)) X.1 rfl
    rw [g, Option.bind_some, if_pos ((jI_le (by omega) (by omega)).mpr (by omega)), jI_inc]
  | n + 1, w, f + 1, h, V, hi, hf, C => by
    obtain ⟨X, -, -, -, K, hC, s20, s21, s22, s23⟩ := id C
    have h27 := hC.2.2.2.2.2.2.1
    have h400 := hC.2.2.2.2.1
    have h9 := hC.2.2.2.2.2.1
    have g : gI h (.ref 104) 14 22 = some (jI (F 14)) := s22 ▸ gI_of (ltE (by decide)) X.1 rfl
    obtain ⟨h1, h2, h3, e1, e2, e3, k1, k2', C3, O3⟩ := rc_laid C (c := c) (p := p) (w := w) (by omega)
    have hpos := hC.pos
    obtain ⟨h4, p4, e4, C4, O4⟩ := C3.nextHere (by rw [upd2_eq]; exact spM_sm (F := F) K.1.1 K.2.2.1 hpos.2.2.1 (by omega) (by omega) (by omega) (by omega) _)
    rw [upd2_eq] at e4
    have ex : leadV A m F (spM A m (jI (F 15)) (jI c) (jI p) (jI w) (V 148)) = ldV A m F c p w := leadV_congr (spM_agree K.1.1 _ _ _ _ _ _) K.2.1
    rw [ex] at e4
    have hs := (ldV_is K hC c p w).short h400
    have g33 : gO h3 (.ref 104) 14 33 = some 151 := gO_of (ltE (by decide)) C3.1.1 rfl
    have hidx : (c * 9 + p) * 27 + w < 97200 := by omega
    obtain ⟨h5, e5, X5, O5⟩ := C4.1.stN (a := 151) (j := (c * 9 + p) * 27 + w) rfl hidx (ldV A m F c p w)
    have e5' : stN .short h4 (.ref 151) (jI ((c * 9 + p) * 27 + w)) (ldV A m F c p w) = some h5 := e5
    rw [show vp_nar (ryR 151) (ldV A m F c p w) = ldV A m F c p w from hs.2] at X5
    have O := (O3.trans O4).trans O5
    obtain ⟨h', V', ih, i1, i2, i3, i4, i5⟩ := leads22_go (k2 := k2) (k12 := k12) hc hp n (w + 1) f h5 _ (by omega) (by omega) (C4.to X5 O5)
    refine ⟨h', V', ?_, i1, O.trans i2, ?_, ?_, ?_⟩
    · show s_X14_leads_22_b k2 k12 (s_X14_leads_22 k2 k12 f) 104 (jI c) (jI p) (jI w) h = _
      unfold s_X14_leads_22_b
      rw [g, Option.bind_some, if_neg (fun q => by have := (jI_le (by omega) (by omega)).mp q; omega)]
      simp only [C.kO, e1, cN, kO_un k1, e2, kO_un k2', e3, g33, Option.bind_some, C3.kO, e4, cI, idx9, hs.1, e5', jI_inc]
      exact ih
    · refine Sm.trans ?_ i3
      exact ((Sm.refl.upd (by decide)).upd (by decide)).upd (by decide)
    · intro x h1 h2
      by_cases q : x = w
      · subst q
        rw [i5 _ (fun y h3 h4 => by omega), upd2_eq, upd_eq]
      · exact i4 x (by omega) h2
    · intro i hi
      rw [i5 i (fun x h1 h2 => hi x (by omega) h2), upd2_eq, upd_ne (hi w (Nat.le_refl _) (by omega)), upd2_ne (by decide), upd2_ne (by decide)]
theorem leads12_go {k2 : Nat → Int32 → aH → aO} {c : Nat} (hc : c < F 12) :
    ∀ (n p f : Nat) (h : aH) (V : Nat → Nat → Int32), p + n = F 13 → n < f → RC h S wd t fv nv V Z A m F B W G →
      ∃ h' V', s_X14_leads_12 k2 f 104 (jI c) (jI p) h = k2 104 (jI (c + 1)) h' ∧ RC h' S wd t fv nv V' Z A m F B W G ∧ Ou h h' ∧ Sm [148, 149, 151] V V' ∧
        (∀ p' x, p ≤ p' → p' < F 13 → x < F 14 → V' 151 ((c * 9 + p') * 27 + x) = ldV A m F c p' x) ∧ ∀ i, (∀ p' x, p ≤ p' → p' < F 13 → x < F 14 → i ≠ (c * 9 + p') * 27 + x) → V' 151 i = V 151 i
  | _, _, 0, _, _, _, hf, _ => by omega
  | 0, p, f + 1, h, V, hi, hf, C => by
    refine ⟨h, V, ?_, C, Ou.refl, Sm.refl, fun p' x h1 h2 => by omega, fun _ _ => rfl⟩
    obtain ⟨X, -, -, -, -, hC, s20, s21, s22, s23⟩ := id C
    have h9 := hC.2.2.2.2.2.1
    show s_X14_leads_12_b k2 (s_X14_leads_12 k2 f) 104 (jI c) (jI p) h = _
    unfold s_X14_leads_12_b
    have g : gI h (.ref 104) 14 21 = some (jI (F 13)) := s21 ▸ gI_of (ltE (by decide)) X.1 rfl
    rw [g, Option.bind_some, if_pos ((jI_le (by omega) (by omega)).mpr (by omega)), jI_inc]
  | n + 1, p, f + 1, h, V, hi, hf, C => by
    obtain ⟨X, -, -, -, K, hC, s20, s21, s22, s23⟩ := id C
    have h27 := hC.2.2.2.2.2.2.1
    have h9 := hC.2.2.2.2.2.1
    have g : gI h (.ref 104) 14 21 = some (jI (F 13)) := s21 ▸ gI_of (ltE (by decide)) X.1 rfl
    obtain ⟨h1, V1, e1, C1, O1, m1, a1, b1⟩ := leads22_go (k2 := k2) (k12 := s_X14_leads_12 k2 f) hc (show p < F 13 by omega) (F 14) 0 FU h V (by omega) (by unfold FU; omega) C
    obtain ⟨h', V', ih, i1, i2, i3, i4, i5⟩ := leads12_go (k2 := k2) hc n (p + 1) f h1 V1 (by omega) (by omega) C1
    refine ⟨h', V', ?_, i1, O1.trans i2, m1.trans i3, ?_, ?_⟩
    · show s_X14_leads_12_b k2 (s_X14_leads_12 k2 f) 104 (jI c) (jI p) h = _
      unfold s_X14_leads_12_b
      rw [g, Option.bind_some, if_neg (fun q => by have := (jI_le (by omega) (by omega)).mp q; omega)]
      exact e1.trans ih
    · intro p' x h1 h2 h3
      by_cases q : p' = p
      · subst q
        rw [i5 _ (fun y z h4 h5 h6 => by omega)]
        exact a1 x (Nat.zero_le _) h3
      · exact i4 p' x (by omega) h2 h3
    · intro i hi
      rw [i5 i (fun y z h1 h2 h3 => hi y z (by omega) h2 h3)]
      exact b1 i (fun x _ h2 => hi p x (Nat.le_refl _) (by omega) h2)
theorem leads2_go :
    ∀ (n c f : Nat) (h : aH) (V : Nat → Nat → Int32), c + n = F 12 → n < f → RC h S wd t fv nv V Z A m F B W G →
      ∃ h' V', s_X14_leads_2 f 104 (jI c) h = some (.inl none, h') ∧ RC h' S wd t fv nv V' Z A m F B W G ∧ Ou h h' ∧ Sm [148, 149, 151] V V' ∧
        (∀ c' p x, c ≤ c' → c' < F 12 → p < F 13 → x < F 14 → V' 151 ((c' * 9 + p) * 27 + x) = ldV A m F c' p x) ∧ ∀ i, (∀ c' p x, c ≤ c' → c' < F 12 → p < F 13 → x < F 14 → i ≠ (c' * 9 + p) * 27 + x) → V' 151 i = V 151 i
  | _, _, 0, _, _, _, hf, _ => by omega
  | 0, c, f + 1, h, V, hi, hf, C => by
    refine ⟨h, V, ?_, C, Ou.refl, Sm.refl, fun c' p x h1 h2 => by omega, fun _ _ => rfl⟩
    obtain ⟨X, -, -, -, -, hC, s20, s21, s22, s23⟩ := id C
    have h400 := hC.2.2.2.2.1
    show s_X14_leads_2_b (s_X14_leads_2 f) 104 (jI c) h = _
    unfold s_X14_leads_2_b
    have g : gI h (.ref 104) 14 20 = some (jI (F 12)) := s20 ▸ gI_of (ltE (by decide)) X.1 rfl
    rw [g, Option.bind_some, if_pos ((jI_le (by omega) (by omega)).mpr (by omega))]
  | n + 1, c, f + 1, h, V, hi, hf, C => by
    obtain ⟨X, -, -, -, K, hC, s20, s21, s22, s23⟩ := id C
    have h27 := hC.2.2.2.2.2.2.1
    have h400 := hC.2.2.2.2.1
    have h9 := hC.2.2.2.2.2.1
    have g : gI h (.ref 104) 14 20 = some (jI (F 12)) := s20 ▸ gI_of (ltE (by decide)) X.1 rfl
    obtain ⟨h1, V1, e1, C1, O1, m1, a1, b1⟩ := leads12_go (k2 := s_X14_leads_2 f) (show c < F 12 by omega) (F 13) 0 FU h V (by omega) (by unfold FU; omega) C
    obtain ⟨h', V', ih, i1, i2, i3, i4, i5⟩ := leads2_go n (c + 1) f h1 V1 (by omega) (by omega) C1
    refine ⟨h', V', ?_, i1, O1.trans i2, m1.trans i3, ?_, ?_⟩
    · show s_X14_leads_2_b (s_X14_leads_2 f) 104 (jI c) h = _
      unfold s_X14_leads_2_b
      rw [g, Option.bind_some, if_neg (fun q => by have := (jI_le (by omega) (by omega)).mp q; omega)]
      exact e1.trans ih
    · intro c' p x h1 h2 h3 h4
      by_cases q : c' = c
      · subst q
        rw [i5 _ (fun y z u h5 h6 h7 h8 => by omega)]
        exact a1 p x (Nat.zero_le _) h3 h4
      · exact i4 c' p x (by omega) h2 h3 h4
    · intro i hi
      rw [i5 i (fun y z u h1 h2 h3 h4 => hi y z u (by omega) h2 h3 h4)]
      exact b1 i (fun p x _ h2 h3 => hi c p x (Nat.le_refl _) (by omega) h2 h3)
theorem RC.leads {h : aH} {V : Nat → Nat → Int32} (C : RC h S wd t fv nv V Z A m F B W G) :
    ∃ h' V', s_X14_leads 104 h = some (.inl none, h') ∧ RC h' S wd t fv nv V' Z A m F B W G ∧ Ou h h' ∧ Sm [148, 149, 151] V V' ∧
      ∀ c p w, c < F 12 → p < F 13 → w < F 14 → V' 151 ((c * 9 + p) * 27 + w) = ldV A m F c p w := by
  have hC := C.2.2.2.2.2.1
  have h400 := hC.2.2.2.2.1
  obtain ⟨h', V', e, c1, o1, m1, a1, -⟩ := leads2_go (F 12) 0 FU h V (by omega) (by unfold FU; omega) C
  exact ⟨h', V', e, c1, o1, m1, fun c p w h1 h2 h3 => a1 c p w (Nat.zero_le _) h1 h2 h3⟩
end
/-- the reference's table stands -/
def okLd (V : Nat → Nat → Int32) (A : Nat → Nat → Int32) (m F : Nat → Nat) : Prop := ∀ c p w, c < F 12 → p < F 13 → w < F 14 → V 151 ((c * 9 + p) * 27 + w) = ldV A m F c p w
theorem RC.to_at {h : aH} {S : Nat → Int32} {wd : Int64} {t : Nat} {fv nv : Value} {V : Nat → Nat → Int32} {Z : Nat → Nat → Int64} {A : Nat → Nat → Int32} {m F : Nat → Nat} {B : Nat → Nat → Int32} {W : Nat → Int64} {G : Nat → Nat}
    (C : RC h S wd t fv nv V Z A m F B W G) (L : okLd V A m F) {c p w : Nat} (hc : c < F 12) (hp : p < F 13) (hw : w < F 14) : s_X14_to 104 (jI c) (jI p) (jI w) h = some (.inl (some (.int (ldV A m F c p w))), h) := by
  have hC := C.2.2.2.2.2.1
  have h27 := hC.2.2.2.2.2.2.1
  have h400 := hC.2.2.2.2.1
  have h9 := hC.2.2.2.2.2.1
  have g33 : gO h (.ref 104) 14 33 = some 151 := gO_of (ltE (by decide)) C.1.1 rfl
  have e : ldI .short h (.ref 151) (jI ((c * 9 + p) * 27 + w)) = some (V 151 ((c * 9 + p) * 27 + w)) := C.1.ld (a := 151) rfl (show (c * 9 + p) * 27 + w < 97200 by omega)
  unfold s_X14_to
  rw [g33, Option.bind_some, idx9, e, Option.bind_some, L c p w hc hp hw]
