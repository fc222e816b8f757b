/-! what is paid: the least of the most -/
def ahd (y : Int32) (f : Nat → Int32) : Int32 := if y = -2 then 1000000 else f y.toNatClampNeg
theorem ahd_in {d : Nat} (hd : d < 2147483648) (f : Nat → Int32) : ahd (jI d) f = f d := by
  unfold ahd
  rw [if_neg (jI_m2 hd), jI_cl hd]
def mxG (f : Nat → Int32) : Nat → Nat → Int32 → Int32
  | _, 0, a => a
  | w, k + 1, a => mxG f (w + 1) k (jmax a (f w))
def mnG (f : Nat → Int32) : Nat → Nat → Int32 → Int32 → Int32 × Int32
  | _, 0, b, l => (b, l)
  | p, k + 1, b, l => if f p < b then mnG f (p + 1) k (f p) (jI p) else mnG f (p + 1) k b l
def pdS (ld : Nat → Nat → Nat → Int32) (n : Nat) (cs : Nat → Nat → Int32) (bs : Nat → Int32) (c p : Nat) : Int32 := jmin 1000000 (cs c p + mxG (fun w => ahd (ld c p w) bs) 0 n 0)
def bst (ld : Nat → Nat → Nat → Int32) (P n : Nat) (good : Nat → Bool) (cs : Nat → Nat → Int32) : Nat → Nat → Int32 × Int32
  | 0 => fun c => (if good c then 0 else 1000000, -2)
  | h + 1 => fun c => if good c then mnG (fun p => pdS ld n cs (fun d => (bst ld P n good cs h d).1) c p) 1 (P - 1) (pdS ld n cs (fun d => (bst ld P n good cs h d).1) c 0) 0 else (1000000, -2)
theorem mxG_congr {f g : Nat → Int32} : ∀ (k w : Nat) (a : Int32), (∀ x, w ≤ x → x < w + k → f x = g x) → mxG f w k a = mxG g w k a
  | 0, _, _, _ => rfl
  | k + 1, w, a, h => by
    show mxG f (w + 1) k (jmax a (f w)) = mxG g (w + 1) k (jmax a (g w))
    rw [h w (Nat.le_refl _) (by omega)]
    exact mxG_congr k (w + 1) _ (fun x h1 h2 => h x (by omega) (by omega))
theorem mnG_congr {f g : Nat → Int32} : ∀ (k w : Nat) (a l : Int32), (∀ x, w ≤ x → x < w + k → f x = g x) → mnG f w k a l = mnG g w k a l
  | 0, _, _, _, _ => rfl
  | k + 1, w, a, l, h => by
    show (if f w < a then mnG f (w + 1) k (f w) (jI w) else mnG f (w + 1) k a l) = (if g w < a then mnG g (w + 1) k (g w) (jI w) else mnG g (w + 1) k a l)
    rw [h w (Nat.le_refl _) (by omega), mnG_congr k (w + 1) (g w) (jI w) (fun x h1 h2 => h x (by omega) (by omega)), mnG_congr k (w + 1) a l (fun x h1 h2 => h x (by omega) (by omega))]
/-- a sum of states and pushes -/
def okL2 (m : Nat → Nat) (l : List pFa) : Prop := ∀ a ∈ l, 0 ≤ a.2.1 → a.2.1.toNatClampNeg < m 0 ∨ (3 ≤ a.2.1.toNatClampNeg ∧ a.2.1.toNatClampNeg < 3 + m 1)
theorem okL2.L {m : Nat → Nat} {l : List pFa} (h : okL2 m l) : okL m l := fun a ha q => (h a ha q).elim Or.inl (fun z => Or.inr (Or.inl z))
def csV (A : Nat → Nat → Int32) (m : Nat → Nat) (l : List pFa) (c p : Nat) : Int32 := jmax 0 (jmin 1000 (sumV (sprGo A 0 3 (m 1) (jI p) (sprGo A 0 0 (m 0) (jI c) zV)) l))
def okCs (h : aH) (S : Nat → Int32) (A : Nat → Nat → Int32) (m : Nat → Nat) (cs : Nat → Nat → Int32) : Prop :=
  (S 24 = 0 ∧ ∀ c p, cs c p = 0) ∨ ∃ (Bc : Nat → Nat → Int32) (Wc : Nat → Int64) (Gc : Nat → Nat) (l : List pFa) (k : Nat), isT h 133 Bc Wc Gc ∧ S 24 = jI k ∧ 0 < k ∧ k ≤ 400 ∧ seg2 (Bc 11) (Bc 12) 0 k = postV l ∧ okB l ∧ okL2 m l ∧ ∀ c p, cs c p = csV A m l c p
theorem okCs.ou {h h' : aH} {S : Nat → Int32} {A : Nat → Nat → Int32} {m : Nat → Nat} {cs : Nat → Nat → Int32} (H : okCs h S A m cs) (O : Ou h h') : okCs h' S A m cs := by
  rcases H with z | ⟨Bc, Wc, Gc, l, k, h1, h2⟩
  · exact Or.inl z
  · exact Or.inr ⟨Bc, Wc, Gc, l, k, h1.ou O (Or.inr (Or.inr (Or.inl rfl))), h2⟩
section
variable {S : Nat → Int32} {wd : Int64} {t : Nat} {fv nv : Value} {Z : Nat → Nat → Int64} {A : Nat → Nat → Int32} {m F : Nat → Nat} {B : Nat → Nat → Int32} {W : Nat → Int64} {G : Nat → Nat}
theorem costOf_at {h : aH} {V : Nat → Nat → Int32} {cs : Nat → Nat → Int32} (C : RC h S wd t fv nv V Z A m F B W G) (K : okCs h S A m cs) {c p : Nat} (hc : c < F 12) (hp : p < F 13) :
    ∃ h' V', s_X14_costOf 104 (jI c) (jI p) h = some (.inl (some (.int (cs c p))), h') ∧ RC h' S wd t fv nv V' Z A m F B W G ∧ Ou h h' ∧ Sm [148, 149] V V' := by
  obtain ⟨X, HT, hot, sim, KW, hC, s20, s21, s22, s23⟩ := id C
  have h400 := hC.2.2.2.2.1
  have h9 := hC.2.2.2.2.2.1
  have g24 : gI h (.ref 104) 14 24 = some (S 24) := gI_of (ltE (by decide)) X.1 rfl
  rcases K with ⟨k1, k2⟩ | ⟨Bc, Wc, Gc, l, k, k1, k2, k3, k4, k5, k6, k7, k8⟩
  · refine ⟨h, V, ?_, C, Ou.refl, Sm.refl⟩
    unfold s_X14_costOf
    rw [g24, Option.bind_some, if_pos k1, k2]
  · obtain ⟨h1, e1, C1, O1⟩ := C.lays (jI c)
    obtain ⟨h2, e2, C2, O2⟩ := C1.pushed (jI p)
    simp only [upd2_2, upd2_eq] at C2
    have T2 := (k1.ou O1 (Or.inr (Or.inr (Or.inl rfl)))).ou O2 (Or.inr (Or.inr (Or.inl rfl)))
    have hm := KW.1.1
    have sm3 : ∀ v s, s < m 0 ∨ (3 ≤ s ∧ s < 3 + m 1) → sm 100 (sprGo A 0 3 (m 1) (jI p) (sprGo A 0 0 (m 0) (jI c) v) s) := fun v s hs => by
      by_cases q1 : 3 ≤ s ∧ s < 3 + m 1
      · exact spr_sm _ _ _ s (by omega) q1.1 q1.2 (KW.2.2.1 s (Or.inr (Or.inl q1)))
      · have q0 : s < m 0 := hs.elim id (fun z => absurd z q1)
        rw [spr_out A 0 3 _ _ _ s (by omega)]
        exact spr_sm _ _ _ s (by omega) (Nat.zero_le _) (by omega) (KW.2.2.1 s (Or.inl q0))
    have same : ∀ v v' s, s < m 0 ∨ (3 ≤ s ∧ s < 3 + m 1) → sprGo A 0 3 (m 1) (jI p) (sprGo A 0 0 (m 0) (jI c) v) s = sprGo A 0 3 (m 1) (jI p) (sprGo A 0 0 (m 0) (jI c) v') s := fun v v' s hs => by
      by_cases q1 : 3 ≤ s ∧ s < 3 + m 1
      · exact spr_in A 0 3 _ _ _ _ s q1.1 q1.2
      · have q0 : s < m 0 := hs.elim id (fun z => absurd z q1)
        rw [spr_out A 0 3 _ _ _ s (by omega), spr_out A 0 3 _ _ _ s (by omega)]
        exact spr_in A 0 0 _ _ _ _ s (Nat.zero_le _) (by omega)
    obtain ⟨v, hv⟩ : ∃ v, v = sprGo A 0 3 (m 1) (jI p) (sprGo A 0 0 (m 0) (jI c) (V 148)) := ⟨_, rfl⟩
    rw [← hv] at C2
    have hQ : okQ v l := ⟨k6.1, fun x hx => by
      unfold fVal
      by_cases q : 0 ≤ x.2.1
      · rw [if_pos q, hv]
        exact sm_le (by decide) (sm3 _ _ (k7 x hx q))
      · rw [if_neg q]
        exact k6.2 x hx q⟩
    have v148 : h2[148]? = some (.inl (.int, 11, .inl v)) := by
      have := C2.1.2.1 148 rfl
      rw [upd2_eq] at this
      exact this
    obtain ⟨p', e3⟩ := valSum_at (Or.inl (by decide)) T2 C2.1.isX v148 (C2.1.2.1 149 rfl) (a := 0) (b := k) (by omega) k5 hQ (okA_of hm k7.L)
    have r := C2.1.row (a := 149) (g := p') rfl
    have es : sumV v l = sumV (sprGo A 0 3 (m 1) (jI p) (sprGo A 0 0 (m 0) (jI c) zV)) l := by
      unfold sumV
      have key : ∀ (l : List pFa) (a b d : Int32), okL2 m l → sumGo v l a b d = sumGo (sprGo A 0 3 (m 1) (jI p) (sprGo A 0 0 (m 0) (jI c) zV)) l a b d := by
        intro l
        induction l with
        | nil => intro _ _ _ _; rfl
        | cons x r ih =>
          intro a b d hl
          have e : fVal v x = fVal (sprGo A 0 3 (m 1) (jI p) (sprGo A 0 0 (m 0) (jI c) zV)) x := by
            unfold fVal
            by_cases q : 0 ≤ x.2.1
            · rw [if_pos q, if_pos q, hv]
              exact same _ _ _ (hl x List.mem_cons_self q)
            · rw [if_neg q, if_neg q]
          have hr : okL2 m r := fun y hy => hl y (List.mem_cons_of_mem _ hy)
          unfold sumGo
          rw [e, ih _ _ _ hr, ih _ _ _ hr]
      exact key l 0 0 0 k7
    have g26 : gO h2 (.ref 104) 14 26 = some 133 := gO_of (ltE (by decide)) C2.1.1 rfl
    have g24' : gI h2 (.ref 104) 14 24 = some (jI k) := k2 ▸ gI_of (ltE (by decide)) C2.1.1 rfl
    refine ⟨_, _, ?_, C2.to r.1 r.2, (O1.trans O2).trans r.2, (Sm.refl.upd (by decide)).upd (by decide)⟩
    unfold s_X14_costOf
    rw [g24, Option.bind_some, if_neg (by rw [k2]; intro z; have := (jI_inj (k := 0) (by omega) (by omega)).mp z; omega), C.kO, e1]
    have e3' : s_X14_valueOf 104 133 0 (jI k) h2 = some (.inl (some (.int (sumV v l))), h2.set 149 (.inl (.int, 400, .inl p'))) := by
      have z0 : jI 0 = 0 := rfl
      rw [z0, Nat.zero_add] at e3
      exact e3
    simp only [cN, C1.kO, e2, g26, g24', Option.bind_some, C2.kO, e3', cI]
    rw [k8, csV, es]
    rfl
theorem paidBy_go {V0 : Nat → Nat → Int32} {cs : Nat → Nat → Int32} {c p hz : Nat} {bs : Nat → Int32} (hc : c < F 12) (hp : p < F 13) (hz1 : 1 ≤ hz) (hz2 : hz ≤ 20) {h : aH} {V : Nat → Nat → Int32} (C : RC h S wd t fv nv V Z A m F B W G) (K : okCs h S A m cs) (L : okLd V A m F) (hb : ∀ d, d < F 12 → V 159 (400 * (hz - 1) + d) = bs d) :
    ∀ (n w f : Nat) (a : Int32), w + n = F 14 → n < f →
      ∃ h' V', s_X14_paidBy_6 f 104 (jI c) (jI p) (jI hz) a (jI w) h = some (.inl (some (.int (jmin 1000000 (cs c p + mxG (fun w => ahd (ldV A m F c p w) bs) w n a)))), h') ∧ RC h' S wd t fv nv V' Z A m F B W G ∧ Ou h h' ∧ Sm [148, 149] V V'
  | _, _, 0, _, _, hf => by omega
  | 0, w, f + 1, a, hk, hf => by
    obtain ⟨X, HT, hot, sim, KW, hC, s20, s21, s22, s23⟩ := id C
    have h27 := hC.2.2.2.2.2.2.1
    have g : gI h (.ref 104) 14 22 = some (jI (F 14)) := s22 ▸ gI_of (ltE (by decide)) X.1 rfl
    obtain ⟨h', V', e, c1, o1, m1⟩ := costOf_at C K hc hp
    refine ⟨h', V', ?_, c1, o1, m1⟩
    show s_X14_paidBy_6_b (s_X14_paidBy_6 f) 104 (jI c) (jI p) (jI hz) a (jI w) h = _
    unfold s_X14_paidBy_6_b
    rw [g, Option.bind_some, if_pos ((jI_le (by omega) (by omega)).mpr (by omega)), C.kO, e]
    rfl
  | n + 1, w, f + 1, a, hk, hf => by
    obtain ⟨X, HT, hot, sim, KW, hC, s20, s21, s22, s23⟩ := id C
    have h27 := hC.2.2.2.2.2.2.1
    have h400 := hC.2.2.2.2.1
    have g : gI h (.ref 104) 14 22 = some (jI (F 14)) := s22 ▸ gI_of (ltE (by decide)) X.1 rfl
    have et := C.to_at L hc hp (show w < F 14 by omega)
    have ea : s_X14_ahead 104 (ldV A m F c p w) (jI (hz - 1)) h = some (.inl (some (.int (ahd (ldV A m F c p w) bs))), h) := by
      unfold s_X14_ahead
      rcases ldV_is KW hC c p w with z | ⟨d, z, hd⟩
      · rw [z, if_pos rfl]
        rfl
      · have g41 : gO h (.ref 104) 14 41 = some 159 := gO_of (ltE (by decide)) X.1 rfl
        have l : ldI .int h (.ref 159) (jI (400 * (hz - 1) + d)) = some (bs d) := (hb d hd) ▸ X.ld (a := 159) rfl (show 400 * (hz - 1) + d < 8400 by omega)
        rw [z, if_neg (jI_m2 (by omega)), g41, Option.bind_some, show (400 : Int32) = jI 400 from rfl, jI_mul, jI_add, l, Option.bind_some, ahd_in (by omega)]
    obtain ⟨h', V', ih, i1, i2, i3⟩ := paidBy_go (V0 := V0) hc hp hz1 hz2 C K L hb n (w + 1) f (jmax a (ahd (ldV A m F c p w) bs)) (by omega) (by omega)
    refine ⟨h', V', ?_, i1, i2, i3⟩
    show s_X14_paidBy_6_b (s_X14_paidBy_6 f) 104 (jI c) (jI p) (jI hz) a (jI w) h = _
    unfold s_X14_paidBy_6_b
    rw [g, Option.bind_some, if_neg (fun q => by have := (jI_le (by omega) (by omega)).mp q; omega), C.kO, et]
    simp only [cI, C.kO, jI_dec (show 0 < hz by omega), ea, jI_inc]
    exact ih
theorem paidBy_at {cs : Nat → Nat → Int32} {c p hz : Nat} {bs : Nat → Int32} (hc : c < F 12) (hp : p < F 13) (hz1 : 1 ≤ hz) (hz2 : hz ≤ 20) {h : aH} {V : Nat → Nat → Int32} (C : RC h S wd t fv nv V Z A m F B W G) (K : okCs h S A m cs) (L : okLd V A m F) (hb : ∀ d, d < F 12 → V 159 (400 * (hz - 1) + d) = bs d) :
    ∃ h' V', s_X14_paidBy 104 (jI c) (jI p) (jI hz) h = some (.inl (some (.int (pdS (ldV A m F) (F 14) cs bs c p))), h') ∧ RC h' S wd t fv nv V' Z A m F B W G ∧ Ou h h' ∧ Sm [148, 149] V V' := by
  have h27 := C.2.2.2.2.2.1.2.2.2.2.2.2.1
  exact paidBy_go (V0 := V) hc hp hz1 hz2 C K L hb (F 14) 0 FU 0 (by omega) (by unfold FU; omega)
theorem okLd.sm {V V' : Nat → Nat → Int32} (L : okLd V A m F) (h : V' 151 = V 151) : okLd V' A m F := fun c p w h1 h2 h3 => by
  rw [h]
  exact L c p w h1 h2 h3
/-- the walk over the pushes, the best so far at its place -/
theorem pays105_go {k2 : Nat → Int32 → aH → aO} {k10 : Nat → Int32 → Int32 → aH → aO} {cs : Nat → Nat → Int32} {c hz : Nat} {bs : Nat → Int32} (hc : c < F 12) (hz1 : 1 ≤ hz) (hz2 : hz ≤ 20) :
    ∀ (n p f : Nat) (h : aH) (V : Nat → Nat → Int32) (b l : Int32), p + n = F 13 → n < f → RC h S wd t fv nv V Z A m F B W G → okCs h S A m cs → okLd V A m F → (∀ d, d < F 12 → V 159 (400 * (hz - 1) + d) = bs d) → V 159 (400 * hz + c) = b → V 160 (400 * hz + c) = l →
      ∃ h' V', s_X14_pays_105 k2 k10 f 104 (jI hz) (jI c) (jI (400 * hz + c)) (jI p) h = k10 104 (jI hz) (jI (c + 1)) h' ∧ RC h' S wd t fv nv V' Z A m F B W G ∧ Ou h h' ∧ Sm [148, 149, 159, 160] V V' ∧
        V' 159 (400 * hz + c) = (mnG (pdS (ldV A m F) (F 14) cs bs c) p n b l).1 ∧ V' 160 (400 * hz + c) = (mnG (pdS (ldV A m F) (F 14) cs bs c) p n b l).2 ∧ ∀ i, i ≠ 400 * hz + c → V' 159 i = V 159 i ∧ V' 160 i = V 160 i
  | _, _, 0, _, _, _, _, _, hf, _, _, _, _, _, _ => by omega
  | 0, p, f + 1, h, V, b, l, hk, hf, C, K, L, hb, q1, q2 => by
    refine ⟨h, V, ?_, C, Ou.refl, Sm.refl, q1, q2, fun _ _ => ⟨rfl, rfl⟩⟩
    obtain ⟨X, HT, hot, sim, KW, hC, s20, s21, s22, s23⟩ := id C
    have h9 := hC.2.2.2.2.2.1
    have g : gI h (.ref 104) 14 21 = some (jI (F 13)) := s21 ▸ gI_of (ltE (by decide)) X.1 rfl
    show s_X14_pays_105_b k2 k10 (s_X14_pays_105 k2 k10 f) 104 (jI hz) (jI c) (jI (400 * hz + c)) (jI p) h = _
    unfold s_X14_pays_105_b
    rw [g, Option.bind_some, if_pos ((jI_le (by omega) (by omega)).mpr (by omega)), jI_inc]
  | n + 1, p, f + 1, h, V, b, l, hk, hf, C, K, L, hb, q1, q2 => by
    obtain ⟨X, HT, hot, sim, KW, hC, s20, s21, s22, s23⟩ := id C
    have h9 := hC.2.2.2.2.2.1
    have h400 := hC.2.2.2.2.1
    have g : gI h (.ref 104) 14 21 = some (jI (F 13)) := s21 ▸ gI_of (ltE (by decide)) X.1 rfl
    obtain ⟨h1, V1, e1, C1, O1, M1⟩ := paidBy_at (p := p) hc (by omega) hz1 hz2 C K L hb
    have G41 : gO h1 (.ref 104) 14 41 = some 159 := gO_of (ltE (by decide)) C1.1.1 rfl
    have lb : ldI .int h1 (.ref 159) (jI (400 * hz + c)) = some b := by
      have := C1.1.ld (a := 159) (j := 400 * hz + c) rfl (show 400 * hz + c < 8400 by omega)
      rw [M1 159 (by decide), q1] at this
      exact this
    have K1 := K.ou O1
    have L1 := L.sm (M1 151 (by decide))
    have em : mnG (pdS (ldV A m F) (F 14) cs bs c) p (n + 1) b l = if pdS (ldV A m F) (F 14) cs bs c p < b then mnG (pdS (ldV A m F) (F 14) cs bs c) (p + 1) n (pdS (ldV A m F) (F 14) cs bs c p) (jI p) else mnG (pdS (ldV A m F) (F 14) cs bs c) (p + 1) n b l := rfl
    rw [em]
    by_cases q : pdS (ldV A m F) (F 14) cs bs c p < b
    · rw [if_pos q]
      obtain ⟨h2, e2, X2, O2⟩ := C1.1.st (a := 159) (j := 400 * hz + c) rfl rfl (show 400 * hz + c < 8400 by omega) (pdS (ldV A m F) (F 14) cs bs c p)
      have G42 : gO h2 (.ref 104) 14 42 = some 160 := gO_of (ltE (by decide)) X2.1 rfl
      obtain ⟨h3, e3, X3, O3⟩ := X2.st (a := 160) (j := 400 * hz + c) rfl rfl (show 400 * hz + c < 8400 by omega) (jI p)
      obtain ⟨h', V', ih, i1, i2, i3, i4, i5, i6⟩ := pays105_go (k2 := k2) (k10 := k10) (cs := cs) (bs := bs) hc hz1 hz2 n (p + 1) f h3 _ (pdS (ldV A m F) (F 14) cs bs c p) (jI p) (by omega) (by omega) ((C1.to X2 O2).to X3 O3) ((K1.ou O2).ou O3) (L1.sm (by rw [upd2_ne (by decide), upd2_ne (by decide)])) (fun d hd => by
        rw [upd2_ne (by decide), upd2_eq, upd_ne (by omega), M1 159 (by decide)]
        exact hb d hd) (by rw [upd2_ne (by decide), upd2_eq, upd_eq]) (by rw [upd2_eq, upd_eq])
      refine ⟨h', V', ?_, i1, ((O1.trans O2).trans O3).trans i2, ?_, i4, i5, fun i hi => ?_⟩
      · show s_X14_pays_105_b k2 k10 (s_X14_pays_105 k2 k10 f) 104 (jI hz) (jI c) (jI (400 * hz + c)) (jI p) h = _
        unfold s_X14_pays_105_b
        rw [g, Option.bind_some, if_neg (fun q => by have := (jI_le (by omega) (by omega)).mp q; omega), C.kO, e1]
        simp only [cI, G41, Option.bind_some, lb]
        rw [if_pos q, e2, Option.bind_some, G42, Option.bind_some, e3, Option.bind_some, jI_inc]
        exact ih
      · exact (((M1.mono (by decide)).upd (by decide)).upd (by decide)).trans i3
      · rw [(i6 i hi).1, (i6 i hi).2, upd2_ne (by decide), upd2_eq, upd2_eq, upd_ne hi, upd_ne hi, upd2_ne (by decide), M1 159 (by decide), M1 160 (by decide)]
        exact ⟨rfl, rfl⟩
    · rw [if_neg q]
      obtain ⟨h', V', ih, i1, i2, i3, i4, i5, i6⟩ := pays105_go (k2 := k2) (k10 := k10) (cs := cs) (bs := bs) hc hz1 hz2 n (p + 1) f h1 V1 b l (by omega) (by omega) C1 K1 L1 (fun d hd => by rw [M1 159 (by decide)]; exact hb d hd) (by rw [M1 159 (by decide)]; exact q1) (by rw [M1 160 (by decide)]; exact q2)
      refine ⟨h', V', ?_, i1, O1.trans i2, (M1.mono (by decide)).trans i3, i4, i5, fun i hi => by rw [(i6 i hi).1, (i6 i hi).2, M1 159 (by decide), M1 160 (by decide)]; exact ⟨rfl, rfl⟩⟩
      show s_X14_pays_105_b k2 k10 (s_X14_pays_105 k2 k10 f) 104 (jI hz) (jI c) (jI (400 * hz + c)) (jI p) h = _
      unfold s_X14_pays_105_b
      rw [g, Option.bind_some, if_neg (fun q => by have := (jI_le (by omega) (by omega)).mp q; omega), C.kO, e1]
      simp only [cI, G41, Option.bind_some, lb]
      rw [if_neg q, jI_inc]
      exact ih
end
