/-! the hardest worlds -/
theorem jI_sub {j k : Nat} (h : k ≤ j) : jI j - jI k = jI (j - k) := by
  have e : jI j = jI (j - k) + jI k := by rw [jI_add]; congr 1; omega
  rw [e]
  exact Int32.add_sub_cancel _ _
theorem isLd.neg {y : Int32} {C : Nat} (h : isLd y C) (hC : C ≤ 400) : (y < 0 ↔ y = -2) ∧ (¬ y = -2 → ∃ d, y = jI d ∧ d < C) := by
  rcases h with rfl | ⟨d, rfl, hd⟩
  · exact ⟨⟨fun _ => rfl, fun _ => by decide⟩, fun z => absurd rfl z⟩
  · exact ⟨⟨fun z => absurd z (jI_neg (by omega)), fun z => absurd z (jI_m2 (by omega))⟩, fun _ => ⟨d, rfl, hd⟩⟩
def csN (cs : Nat → Nat → Int32) : Prop := ∀ c p, 0 ≤ (cs c p).toInt ∧ (cs c p).toInt ≤ 1000
theorem mxG_ge {f : Nat → Int32} : ∀ (k w : Nat) (a : Int32), a.toInt ≤ (mxG f w k a).toInt
  | 0, _, _ => Int.le_refl _
  | k + 1, w, a => by
    refine Int.le_trans ?_ (mxG_ge k (w + 1) (jmax a (f w)))
    unfold jmax
    split
    · rename_i h
      rw [Int32.lt_iff_toInt_lt] at h
      omega
    · exact Int.le_refl _
theorem mxG_up {f : Nat → Int32} (hf : ∀ x, f x ≤ 1000000) : ∀ (k w : Nat) (a : Int32), a ≤ 1000000 → mxG f w k a ≤ 1000000
  | 0, _, _, ha => ha
  | k + 1, w, a, ha => by
    refine mxG_up hf k (w + 1) _ ?_
    unfold jmax
    split
    · exact hf w
    · exact ha
theorem mnG_ge {f : Nat → Int32} (hf : ∀ p, 0 ≤ (f p).toInt) : ∀ (k p : Nat) (b l : Int32), 0 ≤ b.toInt → 0 ≤ (mnG f p k b l).1.toInt
  | 0, _, _, _, hb => hb
  | k + 1, p, b, l, hb => by
    show 0 ≤ (if f p < b then mnG f (p + 1) k (f p) (jI p) else mnG f (p + 1) k b l).1.toInt
    split
    · exact mnG_ge hf k (p + 1) _ _ (hf p)
    · exact mnG_ge hf k (p + 1) _ _ hb
theorem mnG_snd {f : Nat → Int32} : ∀ (k p : Nat) (b l : Int32), (mnG f p k b l).2 = l ∨ ∃ q, q < p + k ∧ (mnG f p k b l).2 = jI q
  | 0, _, _, _ => Or.inl rfl
  | k + 1, p, b, l => by
    show (if f p < b then mnG f (p + 1) k (f p) (jI p) else mnG f (p + 1) k b l).2 = l ∨ ∃ q, q < p + (k + 1) ∧ (if f p < b then mnG f (p + 1) k (f p) (jI p) else mnG f (p + 1) k b l).2 = jI q
    split
    · rcases mnG_snd (f := f) k (p + 1) (f p) (jI p) with z | ⟨q, h1, h2⟩
      · exact Or.inr ⟨p, by omega, z⟩
      · exact Or.inr ⟨q, by omega, h2⟩
    · rcases mnG_snd (f := f) k (p + 1) b l with z | ⟨q, h1, h2⟩
      · exact Or.inl z
      · exact Or.inr ⟨q, by omega, h2⟩
section
variable {ld : Nat → Nat → Nat → Int32} {P n : Nat} {good : Nat → Bool} {cs : Nat → Nat → Int32}
theorem bst_ge (hcs : csN cs) : ∀ (h c : Nat), 0 ≤ (bst ld P n good cs h c).1.toInt
  | 0, c => by
    show 0 ≤ (if good c then (0 : Int32) else 1000000).toInt
    cases good c <;> decide
  | h + 1, c => by
    have pd : ∀ p, 0 ≤ (pdS ld n cs (fun d => (bst ld P n good cs h d).1) c p).toInt := fun p => by
      unfold pdS
      have h1 := hcs c p
      have h2 := mxG_ge (f := fun w => ahd (ld c p w) (fun d => (bst ld P n good cs h d).1)) n 0 0
      have h3 := mxG_up (f := fun w => ahd (ld c p w) (fun d => (bst ld P n good cs h d).1)) (fun x => ahd_le (fun d => bst_le h d)) n 0 0 (by decide)
      obtain ⟨M, hM⟩ : ∃ M, M = mxG (fun w => ahd (ld c p w) (fun d => (bst ld P n good cs h d).1)) 0 n 0 := ⟨_, rfl⟩
      rw [← hM] at h2 h3 ⊢
      rw [Int32.le_iff_toInt_le] at h3
      have z0 : (0 : Int32).toInt = 0 := rfl
      have z1 : (1000000 : Int32).toInt = 1000000 := rfl
      have e : (cs c p + M).toInt = (cs c p).toInt + M.toInt := by
        rw [Int32.toInt_add]
        exact Int.bmod_eq_of_le (by omega) (by omega)
      unfold jmin
      split
      · omega
      · omega
    show 0 ≤ (if good c then mnG (fun p => pdS ld n cs (fun d => (bst ld P n good cs h d).1) c p) 1 (P - 1) (pdS ld n cs (fun d => (bst ld P n good cs h d).1) c 0) 0 else ((1000000 : Int32), (-2 : Int32))).1.toInt
    cases good c with
    | true => exact mnG_ge pd _ _ _ _ (pd 0)
    | false => exact (by decide : (0 : Int) ≤ (1000000 : Int32).toInt)
theorem bst_law (hP : 0 < P) {h c : Nat} (hg : good c = true) (hh : 1 ≤ h) : ∃ p, p < P ∧ (bst ld P n good cs h c).2 = jI p := by
  match h, hh with
  | h + 1, _ =>
    have e : bst ld P n good cs (h + 1) c = mnG (fun p => pdS ld n cs (fun d => (bst ld P n good cs h d).1) c p) 1 (P - 1) (pdS ld n cs (fun d => (bst ld P n good cs h d).1) c 0) 0 := by
      show (if good c then _ else _) = _
      rw [hg, if_pos rfl]
    rw [e]
    rcases mnG_snd (f := fun p => pdS ld n cs (fun d => (bst ld P n good cs h d).1) c p) (P - 1) 1 (pdS ld n cs (fun d => (bst ld P n good cs h d).1) c 0) 0 with z | ⟨q, h1, h2⟩
    · exact ⟨0, hP, z⟩
    · exact ⟨q, by omega, h2⟩
end
def hwG (f : Nat → Int32) : Nat → Nat → Int32 → Int32 → Int32
  | _, 0, bw, _ => bw
  | w, k + 1, bw, mo => if f w ≤ mo then hwG f (w + 1) k bw mo else hwG f (w + 1) k (jI w) (f w)
theorem hwG_is {f : Nat → Int32} : ∀ (k w : Nat) (bw mo : Int32), hwG f w k bw mo = bw ∨ ∃ x, w ≤ x ∧ x < w + k ∧ hwG f w k bw mo = jI x
  | 0, _, _, _ => Or.inl rfl
  | k + 1, w, bw, mo => by
    show (if f w ≤ mo then hwG f (w + 1) k bw mo else hwG f (w + 1) k (jI w) (f w)) = bw ∨ ∃ x, w ≤ x ∧ x < w + (k + 1) ∧ (if f w ≤ mo then hwG f (w + 1) k bw mo else hwG f (w + 1) k (jI w) (f w)) = jI x
    split
    · rcases hwG_is (f := f) k (w + 1) bw mo with z | ⟨x, h1, h2, h3⟩
      · exact Or.inl z
      · exact Or.inr ⟨x, by omega, by omega, h3⟩
    · rcases hwG_is (f := f) k (w + 1) (jI w) (f w) with z | ⟨x, h1, h2, h3⟩
      · exact Or.inr ⟨w, Nat.le_refl _, by omega, z⟩
      · exact Or.inr ⟨x, by omega, by omega, h3⟩
def hwS (f : Nat → Int32) (W : Nat) : Int32 := hwG f 1 (W - 1) 0 (f 0)
theorem hwS_lt {f : Nat → Int32} {W : Nat} (hW : 0 < W) : ∃ x, x < W ∧ hwS f W = jI x := by
  rcases hwG_is (f := f) (W - 1) 1 0 (f 0) with z | ⟨x, h1, h2, h3⟩
  · exact ⟨0, hW, z⟩
  · exact ⟨x, by omega, h3⟩
theorem hwG_first {f : Nat → Int32} {W : Nat} (hW : 0 < W) (h0 : 0 ≤ (f 0).toInt) : hwG f 0 W 0 (-1) = hwS f W := by
  match W, hW with
  | W + 1, _ =>
    show (if f 0 ≤ -1 then hwG f (0 + 1) W 0 (-1) else hwG f (0 + 1) W (jI 0) (f 0)) = _
    rw [if_neg]
    · rfl
    · rw [Int32.le_iff_toInt_le]
      have : (-1 : Int32).toInt = -1 := rfl
      omega
def hdS (ld : Nat → Nat → Nat → Int32) (W : Nat) (good : Nat → Bool) (bb : Nat → Nat → Int32 × Int32) (to : Nat) : Nat → Nat → Int32 → Int32 → Int32
  | 0, _, _, w => w
  | k + 1, past, y, _ => if y = -2 then -2 else if good y.toNatClampNeg then
      hdS ld W good bb to k (past + 1) (ld y.toNatClampNeg (bb (to - past) y.toNatClampNeg).2.toNatClampNeg (hwS (fun w => ahd (ld y.toNatClampNeg (bb (to - past) y.toNatClampNeg).2.toNatClampNeg w) (fun d => (bb (to - past - 1) d).1)) W).toNatClampNeg) (hwS (fun w => ahd (ld y.toNatClampNeg (bb (to - past) y.toNatClampNeg).2.toNatClampNeg w) (fun d => (bb (to - past - 1) d).1)) W)
      else -2
section
variable {h : aH} {S : Nat → Nat → Int32} {V : Nat → Nat → Int32} {Z : Nat → Nat → Int64} {D Ln : Nat → Nat} {b : Nat} {A : Nat → Nat → Int32} {N : Nat → Int64} {m F : Nat → Nat}
theorem hw9_go (C : CC h S V Z D Ln b A N m F) (M : okMv V A m F) (L : lenMv Ln F) (L2 : 21 * F 12 ≤ Ln 79) {c p hz : Nat} {bs : Nat → Int32} (hc : c < F 12) (hp : p < F 13) (hz1 : 1 ≤ hz) (hz2 : hz ≤ 20) (hb : ∀ d, d < F 12 → V 79 ((hz - 1) * F 12 + d) = bs d) :
    ∀ (n w f : Nat) (bw mo : Int32), w + n = F 14 → n < f → s_X4_hardestWorld_9 f 78 (jI c) (jI p) (jI hz) bw mo (jI w) h = some (.inl (some (.int (hwG (fun w => ahd (ldV A m F c p w) bs) w n bw mo))), h)
  | _, _, 0, _, _, _, hf => by omega
  | 0, w, f + 1, bw, mo, hk, hf => by
    have h27 := C.2.2.2.1.2.2.2.2.2.2.1
    have g0 : gO h (.ref 78) 4 0 = some 3 := gO_of (ltE (by decide)) (C.1.1 78 rfl) rfl
    show s_X4_hardestWorld_9_b (s_X4_hardestWorld_9 f) 78 (jI c) (jI p) (jI hz) bw mo (jI w) h = _
    unfold s_X4_hardestWorld_9_b
    rw [g0, Option.bind_some, C.f14, Option.bind_some, if_pos ((jI_le (by omega) (by omega)).mpr (by omega))]
    rfl
  | n + 1, w, f + 1, bw, mo, hk, hf => by
    have h27 := C.2.2.2.1.2.2.2.2.2.2.1
    have g0 : gO h (.ref 78) 4 0 = some 3 := gO_of (ltE (by decide)) (C.1.1 78 rfl) rfl
    have eb := behind_at C M L L2 hc hp (show w < F 14 by omega) hz1 hz2 hb
    have ih := fun bw mo => hw9_go C M L L2 hc hp hz1 hz2 hb n (w + 1) f bw mo (by omega) (by omega)
    show s_X4_hardestWorld_9_b (s_X4_hardestWorld_9 f) 78 (jI c) (jI p) (jI hz) bw mo (jI w) h = _
    unfold s_X4_hardestWorld_9_b
    rw [g0, Option.bind_some, C.f14, Option.bind_some, if_neg (fun q => by have := (jI_le (by omega) (by omega)).mp q; omega), kO_of (ltE (by decide)) (C.1.1 78 rfl), eb]
    simp only [cI, jI_inc]
    rw [ih, ih]
    show _ = some (Sum.inl (some (Value.int (if ahd (ldV A m F c p w) bs ≤ mo then _ else _))), h)
    split <;> rfl
theorem hd10_go (C : CC h S V Z D Ln b A N m F) (M : okMv V A m F) (L : lenMv Ln F) {good : Nat → Bool} (hgd : gdC V good) {cs : Nat → Nat → Int32} (hcs : csN cs) {hz to i : Nat} (P : okPy S V Ln A m F good cs hz) (hto : to < hz) (hi : i < to) :
    ∀ (n past f : Nat) (y w : Int32), past + n = i + 1 → n < f → isLd y (F 12) → s_X4_hardest_10 f 78 (jI to) (jI i) y w (jI past) h = some (.inl (some (.int (hdS (ldV A m F) (F 14) good (bst (ldV A m F) (F 13) (F 14) good cs) to n past y w))), h)
  | _, _, 0, _, _, _, hf, _ => by omega
  | 0, past, f + 1, y, w, hk, hf, hy => by
    have p1 := P.1
    show s_X4_hardest_10_b (s_X4_hardest_10 f) 78 (jI to) (jI i) y w (jI past) h = _
    unfold s_X4_hardest_10_b
    rw [if_pos ((jI_lt (by omega) (by omega)).mpr (by omega))]
    rfl
  | n + 1, past, f + 1, y, w, hk, hf, hy => by
    obtain ⟨X, HM, K, hC, hwd⟩ := id C
    have p1 := P.1
    have h400 := hC.2.2.2.2.1
    have h9 := hC.2.2.2.2.2.1
    have h27 := hC.2.2.2.2.2.2.1
    have pos := hC.pos
    show s_X4_hardest_10_b (s_X4_hardest_10 f) 78 (jI to) (jI i) y w (jI past) h = _
    unfold s_X4_hardest_10_b
    rw [if_neg (fun q => by have := (jI_lt (by omega) (by omega)).mp q; omega)]
    unfold hdS
    by_cases z : y = -2
    · rw [if_pos z, if_pos ((hy.neg h400).1.mpr z)]
    · rw [if_neg z, if_neg (fun t => z ((hy.neg h400).1.mp t))]
      obtain ⟨d, rfl, hd⟩ := (hy.neg h400).2 z
      rw [jI_cl (show d < 2147483648 by omega)]
      have g2 : gO h (.ref 78) 4 2 = some 60 := gO_of (ltE (by decide)) (X.1 78 rfl) rfl
      have g1 : gO h (.ref 78) 4 1 = some 56 := gO_of (ltE (by decide)) (X.1 78 rfl) rfl
      rw [g2, Option.bind_some, kO_of (ltE (by decide)) (X.1 60 rfl), isGood_at X hgd (show d < 400 by omega)]
      simp only [cI]
      cases gd : good d with
      | false => rw [if_pos b01_f, if_neg (by decide)]
      | true =>
        rw [if_neg (show ¬ b01 true = 0 by decide), if_pos rfl, kO_of (ltE (by decide)) (X.1 78 rfl), jI_sub (by omega)]
        have el := (paid_at C P (show to - past < hz by omega) hd).2
        rw [el]
        simp only [kO_of (ltE (show 78 < 1000000 by decide)) (X.1 78 rfl)]
        obtain ⟨p, hp, ep⟩ := bst_law (ld := ldV A m F) (n := F 14) (cs := cs) pos.2.1 gd (show 1 ≤ to - past by omega)
        rw [ep, jI_cl (show p < 2147483648 by omega)]
        have hw := hw9_go C M L (P.2.2.1 (by omega)).1 (hz := to - past) (bs := fun d => (bst (ldV A m F) (F 13) (F 14) good cs (to - past - 1) d).1) hd hp (by omega) (by omega) (fun e he => (P.2.2.2 (to - past - 1) e he (Or.inl (by omega))).1) (F 14) 0 FU 0 (-1) (by omega) (by unfold FU; omega)
        rw [hwG_first pos.2.2.2.1 (by
          show 0 ≤ (ahd _ _).toInt
          rcases ldV_is K hC d p 0 with u | ⟨e, u, he⟩
          · rw [u]
            exact (by decide : (0 : Int) ≤ (1000000 : Int32).toInt)
          · rw [u, ahd_in (by omega)]
            exact bst_ge hcs _ _)] at hw
        have hw' : s_X4_hardestWorld 78 (jI d) (jI p) (jI (to - past)) h = _ := hw
        rw [hw']
        simp only [g1, Option.bind_some, kO_of (ltE (show 56 < 1000000 by decide)) (X.1 56 rfl)]
        obtain ⟨x, hx, ex⟩ := hwS_lt (f := fun w => ahd (ldV A m F d p w) (fun d => (bst (ldV A m F) (F 13) (F 14) good cs (to - past - 1) d).1)) pos.2.2.2.1
        rw [ex, jI_cl (show x < 2147483648 by omega), C.leadOf M L hd hp hx]
        simp only [jI_inc]
        exact hd10_go C M L hgd hcs P hto hi n (past + 1) f _ _ (by omega) (by omega) (ldV_is K hC d p x)
end
