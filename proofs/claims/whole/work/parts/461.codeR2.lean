/-! the reference's answers: done, refused; strays and walks -/
def scR (k : Nat) : Bool := decide (k ≤ 3 ∨ (9 ≤ k ∧ k ≤ 17) ∨ (20 ≤ k ∧ k ≤ 25) ∨ k = 32 ∨ k = 50 ∨ k = 56 ∨ k = 59 ∨ k = 67 ∨ k = 68)
theorem xFs_set {S : Nat → Int32} {wd : Int64} {t f n : Value} {k : Nat} (hk : scR k = true) (x : Int32) : (xFs S wd t f n).set k (.int x) = xFs (upd S k x) wd t f n ∧ k < 70 := by
  have h := of_decide_eq_true hk
  have h2 : k = 0 ∨ k = 1 ∨ k = 2 ∨ k = 3 ∨ k = 9 ∨ k = 10 ∨ k = 11 ∨ k = 12 ∨ k = 13 ∨ k = 14 ∨ k = 15 ∨ k = 16 ∨ k = 17 ∨ k = 20 ∨ k = 21 ∨ k = 22 ∨ k = 23 ∨ k = 24 ∨ k = 25 ∨ k = 32 ∨ k = 50 ∨ k = 56 ∨ k = 59 ∨ k = 67 ∨ k = 68 := by omega
  rcases h2 with rfl | rfl | rfl | rfl | rfl | rfl | rfl | rfl | rfl | rfl | rfl | rfl | rfl | rfl | rfl | rfl | rfl | rfl | rfl | rfl | rfl | rfl | rfl | rfl | rfl <;> exact ⟨rfl, by decide⟩
section
variable {h : aH} {S : Nat → Int32} {wd : Int64} {t f n : Value} {V : Nat → Nat → Int32} {Z : Nat → Nat → Int64}
theorem RW.pS (X : RW h S wd t f n V Z) {k : Nat} (hk : scR k = true) (x : Int32) : ∃ h', pF h (.ref 104) 14 k (.int x) = some h' ∧ RW h' (upd S k x) wd t f n V Z ∧ Ou h h' := by
  have r := X.obj (S' := upd S k x) (wd' := wd) (t' := t) (f' := f) (n' := n)
  obtain ⟨e1, e2⟩ := xFs_set (S := S) (wd := wd) (t := t) (f := f) (n := n) hk x
  refine ⟨_, ?_, r.1, r.2⟩
  rw [pF_of (ltE (by decide)) X.1 (show k < 70 from e2), e1]
theorem RW.gS (X : RW h S wd t f n V Z) {k : Nat} (hk : scR k = true) : gI h (.ref 104) 14 k = some (S k) := by
  have h := of_decide_eq_true hk
  have h2 : k = 0 ∨ k = 1 ∨ k = 2 ∨ k = 3 ∨ k = 9 ∨ k = 10 ∨ k = 11 ∨ k = 12 ∨ k = 13 ∨ k = 14 ∨ k = 15 ∨ k = 16 ∨ k = 17 ∨ k = 20 ∨ k = 21 ∨ k = 22 ∨ k = 23 ∨ k = 24 ∨ k = 25 ∨ k = 32 ∨ k = 50 ∨ k = 56 ∨ k = 59 ∨ k = 67 ∨ k = 68 := by omega
  rcases h2 with rfl | rfl | rfl | rfl | rfl | rfl | rfl | rfl | rfl | rfl | rfl | rfl | rfl | rfl | rfl | rfl | rfl | rfl | rfl | rfl | rfl | rfl | rfl | rfl | rfl <;> exact gI_of (ltE (by decide)) X.1 rfl
/-- trouble and where, anew -/
def twS (S : Nat → Int32) (w : Int32) : Nat → Int32 := upd (upd S 1 w) 2 (-1)
theorem RW.tw (X : RW h S wd t f n V Z) (w : Int32) : ∃ h1 h2, pF h (.ref 104) 14 1 (.int w) = some h1 ∧ pF h1 (.ref 104) 14 2 (.int (-1)) = some h2 ∧ RW h2 (twS S w) wd t f n V Z ∧ Ou h h2 := by
  obtain ⟨h1, e1, X1, O1⟩ := X.pS (k := 1) rfl w
  obtain ⟨h2, e2, X2, O2⟩ := X1.pS (k := 2) rfl (-1)
  exact ⟨h1, h2, e1, e2, X2, O1.trans O2⟩
theorem RW.done (X : RW h S wd t f n V Z) (x : Int32) : ∃ h', s_X14_done 104 x h = some (.inl (some (.int x)), h') ∧ RW h' (twS S 0) wd t f n V Z ∧ Ou h h' := by
  obtain ⟨h1, h2, e1, e2, X2, O2⟩ := X.tw 0
  exact ⟨h2, by unfold s_X14_done; rw [e1, Option.bind_some, e2, Option.bind_some], X2, O2⟩
theorem RW.refused (X : RW h S wd t f n V Z) (w : Int32) : ∃ h', s_X14_refused 104 w h = some (.inl (some (.int (-1))), h') ∧ RW h' (twS S w) wd t f n V Z ∧ Ou h h' := by
  obtain ⟨h1, h2, e1, e2, X2, O2⟩ := X.tw w
  exact ⟨h2, by unfold s_X14_refused; rw [e1, Option.bind_some, e2, Option.bind_some], X2, O2⟩
theorem RW.lost (X : RW h S wd t f n V Z) (w : Int32) : ∃ h', s_X14_lost 104 w h = some (.inl (some (.int (-2147483648))), h') ∧ RW h' (twS S w) wd t f n V Z ∧ Ou h h' := by
  obtain ⟨h1, h2, e1, e2, X2, O2⟩ := X.tw w
  exact ⟨h2, by unfold s_X14_lost; rw [e1, Option.bind_some, e2, Option.bind_some], X2, O2⟩
theorem RW.denied (X : RW h S wd t f n V Z) (w : Int32) : ∃ h', s_X14_denied 104 w h = some (.inl (some (.int 0)), h') ∧ RW h' (twS S w) wd t f n V Z ∧ Ou h h' := by
  obtain ⟨h1, h2, e1, e2, X2, O2⟩ := X.tw w
  exact ⟨h2, by unfold s_X14_denied; rw [e1, Option.bind_some, e2, Option.bind_some]; rfl, X2, O2⟩
theorem RW.granted (X : RW h S wd t f n V Z) : ∃ h', s_X14_granted 104 h = some (.inl (some (.int 1)), h') ∧ RW h' (twS S 0) wd t f n V Z ∧ Ou h h' := by
  obtain ⟨h1, h2, e1, e2, X2, O2⟩ := X.tw 0
  exact ⟨h2, by unfold s_X14_granted; rw [e1, Option.bind_some, e2, Option.bind_some]; rfl, X2, O2⟩
end
section
variable {S : Nat → Int32} {wd : Int64} {t : Nat} {fv nv : Value} {Z : Nat → Nat → Int64} {A : Nat → Nat → Int32} {m F : Nat → Nat} {B : Nat → Nat → Int32} {W : Nat → Int64} {G : Nat → Nat}
/-- other scalars -/
theorem RC.toS {h h' : aH} {V V' : Nat → Nat → Int32} {Z' : Nat → Nat → Int64} {S' : Nat → Int32} {wd' : Int64} {fv' nv' : Value} (C : RC h S wd t fv nv V Z A m F B W G) (X : RW h' S' wd' (.ref t) fv' nv' V' Z') (O : Ou h h') (hs : S' 20 = S 20 ∧ S' 21 = S 21 ∧ S' 22 = S 22 ∧ S' 23 = S 23) : RC h' S' wd' t fv' nv' V' Z' A m F B W G := by
  obtain ⟨-, c2, c3, c4, c5, c6, s0, s1, s2, s3⟩ := C
  exact ⟨X, c2.ou O c3, c3, c4, c5, c6, hs.1.trans s0, hs.2.1.trans s1, hs.2.2.1.trans s2, hs.2.2.2.trans s3⟩
theorem twS_20 {S : Nat → Int32} {w : Int32} {k : Nat} (h1 : k ≠ 1) (h2 : k ≠ 2) : twS S w k = S k := by
  unfold twS
  rw [upd_ne h2, upd_ne h1]
theorem RC.tw {h h' : aH} {V : Nat → Nat → Int32} (C : RC h S wd t fv nv V Z A m F B W G) {w : Int32} (X : RW h' (twS S w) wd (.ref t) fv nv V Z) (O : Ou h h') : RC h' (twS S w) wd t fv nv V Z A m F B W G :=
  C.toS X O ⟨twS_20 (by decide) (by decide), twS_20 (by decide) (by decide), twS_20 (by decide) (by decide), twS_20 (by decide) (by decide)⟩
theorem RC.done {h : aH} {V : Nat → Nat → Int32} (C : RC h S wd t fv nv V Z A m F B W G) (x : Int32) : ∃ h', s_X14_done 104 x h = some (.inl (some (.int x)), h') ∧ RC h' (twS S 0) wd t fv nv V Z A m F B W G ∧ Ou h h' := by
  obtain ⟨h', e, X, O⟩ := C.1.done x
  exact ⟨h', e, C.tw X O, O⟩
theorem sr39_go {good : Nat → Bool} (h1 : m 1 = 1) {cd : Nat → Int32} {bi sh : Int32} (hsh : sh = 0 ∨ 0 < sh) : ∀ (n c f g : Nat) (h : aH) (V : Nat → Nat → Int32), c + n = F 12 → n < f → g + n < 1000000 → RC h S wd t fv nv V Z A m F B W G → okCr S V cd bi sh → okMb V (F 12) (F 13) (F 14) (ldV A m F) → (∀ d, d < 416 → bit (V 156) 0 d = sfW A m F good 0 d) →
    ∃ h' V', s_X14_strays_39 f 104 (jI g) (jI c) h = some (.inl (some (.int (jI (g + cntR (fun c => sfW A m F good 0 c && !intoB (ldV A m F c (codS A m cd bi sh c).toNatClampNeg) (F 14) (sfW A m F good 0)) c n)))), h') ∧ RC h' (twS S 0) wd t fv nv V' Z A m F B W G ∧ Ou h h' ∧ Sm [148, 153] V V'
  | _, _, 0, _, _, _, _, hf, _, _, _, _, _ => by omega
  | 0, c, f + 1, g, h, V, hk, hf, hgn, C, O, Mb, hs => by
    have h400 := C.2.2.2.2.2.1.2.2.2.2.1
    obtain ⟨h', e, C', O'⟩ := C.done (jI g)
    refine ⟨h', V, ?_, C', O', Sm.refl⟩
    show s_X14_strays_39_b (s_X14_strays_39 f) 104 (jI g) (jI c) h = _
    unfold s_X14_strays_39_b
    rw [C.g20, Option.bind_some, if_pos ((jI_le (by omega) (by omega)).mpr (by omega)), C.kO, e]
    rfl
  | n + 1, c, f + 1, g, h, V, hk, hf, hgn, C, O, Mb, hs => by
    obtain ⟨X, HT, hot, sim, K, hC, -⟩ := id C
    have h400 := hC.2.2.2.2.1
    have h9 := hC.2.2.2.2.2.1
    have hc : c < F 12 := by omega
    have e0 := C.isSafe hs hc
    have cr : ∀ T : Nat → Bool, cntR T c (n + 1) = (if T c then 1 else 0) + cntR T (c + 1) n := fun T => rfl
    cases z : sfW A m F good 0 c with
    | false =>
      obtain ⟨h', V', ih, i1, i2, i3⟩ := sr39_go h1 hsh n (c + 1) f g h V (by omega) (by omega) (by omega) C O Mb hs
      refine ⟨h', V', ?_, i1, i2, i3⟩
      rw [cr]
      simp only [z, Bool.false_and, Bool.false_eq_true, if_false, Nat.zero_add]
      refine Eq.trans ?_ ih
      show s_X14_strays_39_b (s_X14_strays_39 f) 104 (jI g) (jI c) h = _
      unfold s_X14_strays_39_b s_X14_strays_76 s_X14_strays_77
      rw [C.g20, Option.bind_some, if_neg (fun q => by have := (jI_le (by omega) (by omega)).mp q; omega), C.kO, e0, z]
      simp only [cI]
      rw [if_pos b01_f, jI_inc, Int32.add_zero]
    | true =>
      obtain ⟨h2, V2, y, e2, C2, O2, M2, al⟩ := C.allowedOf Mb hs hc
      obtain ⟨h3, V3, e3, C3, O3, M3⟩ := C2.codedOf h1 (O.sm (M2 181 (by decide))) hsh c
      obtain ⟨p, ep, hp⟩ := cod_lt K hC h1 cd bi sh c
      rw [ep] at e3
      have bt : bitI y p = intoB (ldV A m F c p) (F 14) (sfW A m F good 0) := Bool_ext ((al p (by omega)).trans ⟨fun u => u.2.2, fun u => ⟨hp, z, u⟩⟩)
      have M23 : Sm [148, 153] V V3 := (M2.mono (by decide)).trans (M3.mono (by decide))
      obtain ⟨h', V', ih, i1, i2, i3⟩ := sr39_go h1 hsh n (c + 1) f (g + (if !intoB (ldV A m F c p) (F 14) (sfW A m F good 0) then 1 else 0)) h3 V3 (by omega) (by omega) (by split <;> omega) C3 (O.sm (M23 181 (by decide))) (Mb.sm (M23 161 (by decide)) (M23 152 (by decide))) (fun d hd => by rw [M23 156 (by decide)]; exact hs d hd)
      refine ⟨h', V', ?_, i1, (O2.trans O3).trans i2, M23.trans i3⟩
      rw [cr]
      simp only [z, Bool.true_and, ep, jI_cl (show p < 2147483648 by omega)]
      rw [← Nat.add_assoc]
      refine Eq.trans ?_ ih
      show s_X14_strays_39_b (s_X14_strays_39 f) 104 (jI g) (jI c) h = _
      unfold s_X14_strays_39_b s_X14_strays_76 s_X14_strays_77
      rw [C.g20, Option.bind_some, if_neg (fun q => by have := (jI_le (by omega) (by omega)).mp q; omega), C.kO, e0, z]
      simp only [cI]
      rw [if_neg (show ¬ b01 true = 0 by decide), C.kO, e2]
      simp only [C2.kO, e3, jI_inc]
      cases u : intoB (ldV A m F c p) (F 14) (sfW A m F good 0) with
      | false =>
        rw [if_pos ((bitI_test (by omega)).mpr (by rw [bt, u]))]
        rfl
      | true =>
        rw [if_neg (fun v => by rw [bitI_test (by omega), bt, u] at v; cases v), Int32.add_zero]
        rfl
theorem wk34_go {c : Nat} : ∀ (n k f : Nat) (h : aH) (V : Nat → Nat → Int32), k + n = F 12 → n < f → RC h S wd t fv nv V Z A m F B W G → (∀ j, j < k → V 182 j = -1) →
    ∃ h' V', s_X14_walk_34 f 104 (jI c) (jI k) h = s_X14_walk_59 FU 104 (jI c) 0 h' ∧ RC h' S wd t fv nv V' Z A m F B W G ∧ Ou h h' ∧ Sm [182] V V' ∧ ∀ j, j < F 12 → V' 182 j = -1
  | _, _, 0, _, _, _, hf, _, _ => by omega
  | 0, k, f + 1, h, V, hk, hf, C, hz => by
    have h400 := C.2.2.2.2.2.1.2.2.2.2.1
    refine ⟨h, V, ?_, C, Ou.refl, Sm.refl, fun j hj => hz j (by omega)⟩
    show s_X14_walk_34_b (s_X14_walk_34 f) 104 (jI c) (jI k) h = _
    unfold s_X14_walk_34_b
    rw [C.g20, Option.bind_some, if_pos ((jI_le (by omega) (by omega)).mpr (by omega))]
  | n + 1, k, f + 1, h, V, hk, hf, C, hz => by
    have h400 := C.2.2.2.2.2.1.2.2.2.2.1
    have g69 : gO h (.ref 104) 14 69 = some 182 := gO_of (ltE (by decide)) C.1.1 rfl
    obtain ⟨h1, e1, X1, O1⟩ := C.1.st (a := 182) (j := k) rfl rfl (show k < 400 by omega) (-1)
    obtain ⟨h', V', ih, i1, i2, i3, i4⟩ := wk34_go (c := c) n (k + 1) f h1 _ (by omega) (by omega) (C.to X1 O1) (fun j hj => by
      rw [upd2_eq]
      by_cases z : j = k
      · rw [z, upd_eq]
      · rw [upd_ne z]; exact hz j (by omega))
    refine ⟨h', V', ?_, i1, O1.trans i2, (Sm.refl.upd (by decide)).trans i3, i4⟩
    show s_X14_walk_34_b (s_X14_walk_34 f) 104 (jI c) (jI k) h = _
    unfold s_X14_walk_34_b
    rw [C.g20, Option.bind_some, if_neg (fun q => by have := (jI_le (by omega) (by omega)).mp q; omega), g69, Option.bind_some, e1, Option.bind_some, jI_inc]
    exact ih
theorem wk59_go {cd : Nat → Int32} {bi sh : Int32} (h1 : m 1 = 1) (hsh : sh = 0 ∨ 0 < sh) : ∀ (n u f : Nat) (h : aH) (V : Nat → Nat → Int32) (y : Int32) (vis : Nat → Int32), u + n = F 12 + 1 → n < f → RC h S wd t fv nv V Z A m F B W G → okLd V A m F → okCr S V cd bi sh → isLd y (F 12) → (∀ c, c < F 12 → V 182 c = vis c) →
    ∃ h' V', s_X14_walk_59 f 104 y (jI u) h = some (.inl (some (.int (wkG (fun c => ldV A m F c (codS A m cd bi sh c).toNatClampNeg 0) n u y vis))), h') ∧ RC h' (twS S 0) wd t fv nv V' Z A m F B W G ∧ Ou h h' ∧ Sm [148, 182] V V'
  | _, _, 0, _, _, _, _, _, hf, _, _, _, _, _ => by omega
  | 0, u, f + 1, h, V, y, vis, hk, hf, C, L, O, hy, hv => by
    have h400 := C.2.2.2.2.2.1.2.2.2.2.1
    obtain ⟨h', e, C', O'⟩ := C.done (-2)
    refine ⟨h', V, ?_, C', O', Sm.refl⟩
    show s_X14_walk_59_b (s_X14_walk_59 f) 104 y (jI u) h = _
    unfold s_X14_walk_59_b
    rw [C.g20, Option.bind_some, if_pos ((jI_lt (by omega) (by omega)).mpr (by omega)), C.kO, e]
    rfl
  | n + 1, u, f + 1, h, V, y, vis, hk, hf, C, L, O, hy, hv => by
    obtain ⟨X, HT, hot, sim, K, hC, -⟩ := id C
    have h400 := hC.2.2.2.2.1
    have h9 := hC.2.2.2.2.2.1
    have pos := hC.pos
    by_cases z : y = -2
    · obtain ⟨h', e, C', O'⟩ := C.done (-2)
      refine ⟨h', V, ?_, C', O', Sm.refl⟩
      rw [z, wkG_out]
      show s_X14_walk_59_b (s_X14_walk_59 f) 104 (-2) (jI u) h = _
      unfold s_X14_walk_59_b
      rw [C.g20, Option.bind_some, if_neg (fun q => by have := (jI_lt (by omega) (by omega)).mp q; omega), if_pos rfl, C.kO, e]
      rfl
    · obtain ⟨d, rfl, hd⟩ := (hy.neg h400).2 z
      have g69 : gO h (.ref 104) 14 69 = some 182 := gO_of (ltE (by decide)) X.1 rfl
      have l182 : ldI .int h (.ref 182) (jI d) = some (vis d) := (hv d hd) ▸ X.ld (a := 182) rfl (show d < 400 by omega)
      have wk : wkG (fun c => ldV A m F c (codS A m cd bi sh c).toNatClampNeg 0) (n + 1) u (jI d) vis = if vis d = -1 then wkG (fun c => ldV A m F c (codS A m cd bi sh c).toNatClampNeg 0) n (u + 1) (ldV A m F d (codS A m cd bi sh d).toNatClampNeg 0) (upd vis d (jI u)) else jI u - vis d := by
        show (if jI d = -2 then (-2 : Int32) else _) = _
        rw [if_neg (jI_m2 (by omega)), jI_cl (by omega)]
      rw [wk]
      by_cases q : vis d = -1
      · obtain ⟨h2, e2, X2, O2⟩ := X.st (a := 182) (j := d) rfl rfl (show d < 400 by omega) (jI u)
        have C2 := C.to X2 O2
        obtain ⟨h3, V3, e3, C3, O3, M3⟩ := C2.codedOf h1 (O.sm (upd2_ne (by decide))) hsh d
        obtain ⟨p, ep, hp⟩ := cod_lt K hC h1 cd bi sh d
        rw [ep] at e3
        have M23 : Sm [148, 182] V V3 := (Sm.refl.upd (by decide)).trans (M3.mono (by decide))
        have L3 : okLd V3 A m F := L.sm (M23 151 (by decide))
        have e4 := C3.to_at L3 hd hp pos.2.2.2.1
        have e4' : s_X14_to 104 (jI d) (jI p) 0 h3 = _ := e4
        obtain ⟨h', V', ih, i1, i2, i3⟩ := wk59_go h1 hsh n (u + 1) f h3 V3 (ldV A m F d p 0) (upd vis d (jI u)) (by omega) (by omega) C3 L3 (O.sm (M23 181 (by decide))) (ldV_is K hC d p 0) (fun c hc => by
          rw [M3 182 (by decide), upd2_eq]
          by_cases r : c = d
          · rw [r, upd_eq, upd_eq]
          · rw [upd_ne r, upd_ne r]; exact hv c hc)
        refine ⟨h', V', ?_, i1, (O2.trans O3).trans i2, M23.trans i3⟩
        rw [if_pos q, ep, jI_cl (show p < 2147483648 by omega)]
        refine Eq.trans ?_ ih
        show s_X14_walk_59_b (s_X14_walk_59 f) 104 (jI d) (jI u) h = _
        unfold s_X14_walk_59_b
        rw [C.g20, Option.bind_some, if_neg (fun q => by have := (jI_lt (by omega) (by omega)).mp q; omega), if_neg z, g69, Option.bind_some, l182, Option.bind_some, if_pos q, Option.bind_some, e2, Option.bind_some, C2.kO, e3]
        simp only [cI, C3.kO, e4', jI_inc]
      · obtain ⟨h', e, C', O'⟩ := C.done (jI u - vis d)
        refine ⟨h', V, ?_, C', O', Sm.refl⟩
        rw [if_neg q]
        show s_X14_walk_59_b (s_X14_walk_59 f) 104 (jI d) (jI u) h = _
        unfold s_X14_walk_59_b
        rw [C.g20, Option.bind_some, if_neg (fun q => by have := (jI_lt (by omega) (by omega)).mp q; omega), if_neg z, g69, Option.bind_some, l182, Option.bind_some, if_neg q, Option.bind_some, l182, Option.bind_some, C.kO, e]
        rfl
end
