/-! the reference's factors of one sum of the thing -/
def okA2 (lo B2 : Nat → Int32) (a : pFa) : Prop := 0 ≤ a.2.1 → ∃ s, a.2.1 = jI s ∧ s < 9 ∧ B2 s = lo s
theorem okJ_itm {lo B2 : Nat → Int32} {a : pFa} {r : List (Int32 × Int32)} {d : Nat} (ha : okA2 lo B2 a) (hd : d < 400) (hr : okJ lo B2 r (d + 1)) : okJ lo B2 (itm a :: r) d := by
  unfold itm
  have z10 : ¬ (1 : Int32) = 0 := by decide
  by_cases q : 0 ≤ a.2.1
  · rw [if_pos q]
    simp only [okJ, z10, if_true, if_false]
    exact ⟨hd, ha q, hr⟩
  · rw [if_neg q]
    simp only [okJ, if_true]
    exact ⟨hd, hr⟩
theorem okJ_pen {lo B2 : Nat → Int32} {pe : Option Int32} {d : Nat} {R : List (Int32 × Int32)} (S : pDp pe 0 d) (hR : okJ lo B2 R 1) : okJ lo B2 (penL pe ++ R) d := by
  rcases S with ⟨rfl, rfl⟩ | ⟨rfl, rfl⟩ | ⟨rfl, rfl⟩ | ⟨rfl, rfl⟩
  · exact hR
  · exact ⟨Nat.succ_pos _, hR⟩
  · exact ⟨by omega, hR⟩
  · exact ⟨by omega, hR⟩
theorem okJ_go {lo B2 : Nat → Int32} : ∀ (l : List pFa) (pe : Option Int32) (d : Nat), (∀ a ∈ l, okA2 lo B2 a) → pDp pe 0 d → okJ lo B2 (postGo pe l) d
  | [], pe, d, _, S => by
    have := okJ_pen (lo := lo) (B2 := B2) (R := []) S (Nat.zero_lt_succ 0)
    rw [List.append_nil] at this
    exact this
  | a :: r, pe, d, hv, S => by
    have ha := hv a List.mem_cons_self
    have hr := fun x hx => hv x (List.mem_cons_of_mem a hx)
    have hd : 1 ≤ d ∧ d ≤ 2 := by rcases S with ⟨_, h⟩ | ⟨_, h⟩ | ⟨_, h⟩ | ⟨_, h⟩ <;> omega
    unfold postGo
    by_cases q : a.1 = 2
    · rw [if_pos q]
      refine okJ_itm ha (by omega) ?_
      have a1 : ¬ (4 : Int32) = 0 := by decide
      have a2 : ¬ (4 : Int32) = 1 := by decide
      have a3 : ¬ (4 : Int32) = 5 := by decide
      simp only [okJ, a1, a2, a3, if_false, Nat.add_sub_cancel]
      exact ⟨by omega, okJ_go r pe d hr S⟩
    · rw [if_neg q]
      refine okJ_pen S (okJ_itm ha (by omega) ?_)
      refine okJ_go r _ 2 hr ?_
      by_cases q1 : a.1 = 1
      · exact Or.inr (Or.inr (Or.inr ⟨by rw [if_pos q1], rfl⟩))
      · exact Or.inr (Or.inr (Or.inl ⟨by rw [if_neg q1], rfl⟩))
theorem okJ_postV {lo B2 : Nat → Int32} {l : List pFa} (hl : l ≠ []) (hv : ∀ a ∈ l, okA2 lo B2 a) : okJ lo B2 (postV l) 0 := by
  match l, hl with
  | a :: r, _ =>
    refine okJ_itm (hv a List.mem_cons_self) (by omega) (okJ_go r _ 1 (fun x hx => hv x (List.mem_cons_of_mem a hx)) ?_)
    by_cases q1 : a.1 = 1
    · exact Or.inr (Or.inl ⟨by rw [if_pos q1], rfl⟩)
    · exact Or.inl ⟨by rw [if_neg q1], rfl⟩
theorem nr_JR {P : Nat → Int32} {p : Nat → Int64} {c : Int} (h : rlP P p c) : ∀ (n i : Nat), i + n ≤ 7 → nrJ p i n = nrR P i n
  | 0, _, _ => rfl
  | n + 1, i, hi => by
    show ((decide (-20 ≤ p i) && decide (p i ≤ 20)) && nrJ p (i + 1) n) = ((decide (-20 ≤ P i) && decide (P i ≤ 20)) && nrR P (i + 1) n)
    rw [nr_JR h n (i + 1) (by omega)]
    have e := (h i (by omega)).1
    have e20 : (20 : Int64).toInt = 20 := rfl
    have em20 : (-20 : Int64).toInt = -20 := rfl
    have f20 : (20 : Int32).toInt = 20 := rfl
    have fm20 : (-20 : Int32).toInt = -20 := rfl
    have e1 : decide (-20 ≤ p i) = decide (-20 ≤ P i) := decide_eq_decide.mpr (by rw [Int64.le_iff_toInt_le, Int32.le_iff_toInt_le, em20, fm20, e])
    have e2 : decide (p i ≤ 20) = decide (P i ≤ 20) := decide_eq_decide.mpr (by rw [Int64.le_iff_toInt_le, Int32.le_iff_toInt_le, e20, f20, e])
    rw [e1, e2]
theorem seg3_len (f g k : Nat → Int32) : ∀ (n i : Nat), (seg3 f g k i n).length = n
  | 0, _ => rfl
  | n + 1, i => by
    show (seg3 f g k (i + 1) n).length + 1 = n + 1
    rw [seg3_len f g k n (i + 1)]
section
variable {wd : Int64} {t : Nat} {fv nv : Value} {A : Nat → Nat → Int32} {m F : Nat → Nat} {B : Nat → Nat → Int32} {W : Nat → Int64} {G : Nat → Nat}
theorem fo3_go {a b w : Nat} : ∀ (n i f : Nat) (h : aH) (S : Nat → Int32) (V : Nat → Nat → Int32) (Z : Nat → Nat → Int64), i + n = 7 → n < f → RC h S wd t fv nv V Z A m F B W G → (∀ k, k < i → Z 162 k = 0) →
    ∃ h' Z', s_X14_factorsOf_3 f 104 (jI a) (jI b) (jI w) (jI i) h = s_X14_factorsOf_30 FU 104 (jI b) (jI w) 0 (jI a) h' ∧ RC h' S wd t fv nv V Z' A m F B W G ∧ Ou h h' ∧ SmZ [162] Z Z' ∧ ∀ k, k < 7 → Z' 162 k = 0
  | _, _, 0, _, _, _, _, _, hf, _, _ => by omega
  | 0, i, f + 1, h, S, V, Z, hn, hf, C, hz => by
    refine ⟨h, Z, ?_, C, Ou.refl, SmZ.refl, fun k hk => hz k (by omega)⟩
    show s_X14_factorsOf_3_b (s_X14_factorsOf_3 f) 104 (jI a) (jI b) (jI w) (jI i) h = _
    unfold s_X14_factorsOf_3_b
    rw [if_pos (show (7 : Int32) ≤ jI i from (jI_le (j := 7) (by omega) (by omega)).mpr (by omega))]
  | n + 1, i, f + 1, h, S, V, Z, hn, hf, C, hz => by
    have g44 : gO h (.ref 104) 14 44 = some 162 := gO_of (ltE (by decide)) C.1.1 rfl
    obtain ⟨h1, e1, X1, O1⟩ := C.1.stJ (a := 162) (j := i) rfl (show i < 7 by omega) 0
    obtain ⟨h', Z', i1, i2, i3, i4, i5⟩ := fo3_go (a := a) (b := b) (w := w) n (i + 1) f h1 S V _ (by omega) (by omega) (C.to X1 O1) (fun k hk => by
      rw [upd2_eq]
      by_cases u : k = i
      · rw [u, updL_eq]
      · rw [updL_ne u]; exact hz k (by omega))
    refine ⟨h', Z', ?_, i2, O1.trans i3, (SmZ.refl.upd (by decide)).trans i4, i5⟩
    show s_X14_factorsOf_3_b (s_X14_factorsOf_3 f) 104 (jI a) (jI b) (jI w) (jI i) h = _
    unfold s_X14_factorsOf_3_b
    rw [if_neg (fun u => by have := (jI_le (j := 7) (by omega) (by omega)).mp u; omega), g44, Option.bind_some, e1, Option.bind_some, jI_inc]
    exact i1
theorem RC.factorsOf {h : aH} {S : Nat → Int32} {V : Nat → Nat → Int32} {Z : Nat → Nat → Int64} (C : RC h S wd t fv nv V Z A m F B W G) {a b w : Nat} (hw : w ≤ 7) (hab : a + b ≤ 400) {l : List pFa} (hl : okB l) (hL : okL m l) (h60 : l.length ≤ 60) (hseg : seg2 (B 11) (B 12) a b = postV l) {q : Bool} (hq : S 50 = b01 q) :
    ∃ h' V' Z', s_X14_factorsOf 104 (jI a) (jI (a + b)) (jI w) h = some (.inl none, h') ∧ RC h' (upd S 50 (b01 (q && (lnG (A 3) l (-1) 0 (fun _ => 0)).any fun P => nrR P 0 w))) wd t fv nv V' Z' A m F B W G ∧ Ou h h' ∧ Sm [166] V V' ∧ SmZ [162, 167] Z Z' ∧ (q = true → ∀ P, lnG (A 3) l (-1) 0 (fun _ => 0) = some P → rlP P (Z' 162) 2000) := by
  have simL := C.2.2.2.1.2.1
  have K := C.2.2.2.2.1
  have hA2 : ∀ x ∈ l, okA2 (A 3) (B 2) x := fun x hx hge => by
    have hd := hL x hx hge
    have h9 := decl_lt K.1.1 hd
    exact ⟨x.2.1.toNatClampNeg, jI_of (i32_nlt.mpr hge), h9, (simL _ hd).1⟩
  have hne : l ≠ [] := by obtain ⟨x, r, e, -⟩ := hl.1; rw [e]; exact List.cons_ne_nil x r
  have hj : okJ (A 3) (B 2) (seg2 (B 11) (B 12) a b) 0 := by rw [hseg]; exact okJ_postV hne hA2
  have hval : ∀ x ∈ l, ¬ (0 ≤ x.2.1 ∧ x.2.1 < 7) → sm 1000 (lvl (A 3) x) := fun x hx hn => by
    unfold lvl
    by_cases z : x.2.1 < 0
    · rw [if_pos z]; exact hl.2 x hx (i32_nle.mpr z)
    · rw [if_neg z]
      have r := K.2.2.1 _ (hL x hx (i32_nlt.mp z))
      unfold okR at r
      unfold sm
      omega
  obtain ⟨h1, Z1, e1, C1, O1, s1, z1⟩ := fo3_go (a := a) (b := a + b) (w := w) 7 0 FU h S V Z rfl (by decide) C (fun k hk => absurd hk (Nat.not_lt_zero k))
  obtain ⟨h', V', Z', i1, i2, i3, i4, i5, i6⟩ := fo30_go (lo := A 3) hw hab b a FU h1 S V Z1 0 q rfl (by show b < 1000000; omega) (by omega) C1 hq hj (fun j hj => absurd hj (Nat.not_lt_zero j))
  rw [hseg] at i2 i6
  have key := li_ln (lo := A 3) hl.1 hval h60 (V 166) (Z1 167) (Z1 162) z1
  refine ⟨h', V', Z', ?_, ?_, O1.trans i3, i4, (s1.mono (by decide)).trans i5, fun hqt P e => ?_⟩
  · unfold s_X14_factorsOf
    exact e1.trans i1
  · have ans : ((liG (A 3) (postV l) 0 (V 166) (Z1 167) (Z1 162, q)).2 && nrJ (liG (A 3) (postV l) 0 (V 166) (Z1 167) (Z1 162, q)).1 0 w) = (q && (lnG (A 3) l (-1) 0 (fun _ => 0)).any fun P => nrR P 0 w) := by
      cases q
      · rw [key.2.2]; rfl
      · rw [key.1, Bool.true_and]
        cases e : lnG (A 3) l (-1) 0 (fun _ => 0) with
        | none => rfl
        | some P =>
          show (true && _) = nrR P 0 w
          rw [Bool.true_and, nr_JR (key.2.1 P e) w 0 (by omega)]
    rw [ans] at i2
    exact i2
  · subst hqt
    rw [i6]
    exact key.2.1 P e
theorem rlP.to32 {P : Nat → Int32} {p : Nat → Int64} {c : Int} (h : rlP P p c) {k : Nat} (hk : k < 7) : (p k).toInt32 = P k := by
  apply Int32.toInt_inj.mp
  rw [Int64.toInt_toInt32, (h k hk).1]
  have h1 := Int32.le_toInt (P k)
  have h2 := Int32.toInt_lt (P k)
  exact Int.bmod_eq_of_le (by omega) (by omega)
theorem li315_go {K : Nat → Int32 → aH → aO} {j : Nat} (hj : j < 2) : ∀ (n k f : Nat) (h : aH) (S : Nat → Int32) (V : Nat → Nat → Int32) (Z : Nat → Nat → Int64), k + n = 3 → n < f → RC h S wd t fv nv V Z A m F B W G →
    ∃ h' V', s_X14_isLinear_315 K f 104 (jI j) (jI k) h = K 104 (jI (j + 1)) h' ∧ RC h' S wd t fv nv V' Z A m F B W G ∧ Ou h h' ∧ Sm [165] V V' ∧ (∀ c, (c < 3 * j + k ∨ 3 * j + 3 ≤ c) → V' 165 c = V 165 c) ∧ ∀ c, k ≤ c → c < 3 → V' 165 (3 * j + c) = (Z 162 c).toInt32
  | _, _, 0, _, _, _, _, _, hf, _ => by omega
  | 0, k, f + 1, h, S, V, Z, hn, hf, C => by
    refine ⟨h, V, ?_, C, Ou.refl, Sm.refl, fun _ _ => rfl, fun c h1 h2 => by omega⟩
    show s_X14_isLinear_315_b K (s_X14_isLinear_315 K f) 104 (jI j) (jI k) h = _
    unfold s_X14_isLinear_315_b
    rw [if_pos (show (3 : Int32) ≤ jI k from (jI_le (j := 3) (by omega) (by omega)).mpr (by omega)), jI_inc]
  | n + 1, k, f + 1, h, S, V, Z, hn, hf, C => by
    have g47 : gO h (.ref 104) 14 47 = some 165 := gO_of (ltE (by decide)) C.1.1 rfl
    have g44 : gO h (.ref 104) 14 44 = some 162 := gO_of (ltE (by decide)) C.1.1 rfl
    have l162 : ldJ h (.ref 162) (jI k) = some (Z 162 k) := C.1.ldJ (a := 162) rfl (show k < 7 by omega)
    have ei : (3 * jI j) + jI k = jI (3 * j + k) := by rw [show (3 : Int32) = jI 3 from rfl, jI_mul, jI_add]
    obtain ⟨h1, e1, X1, O1⟩ := C.1.st (a := 165) (j := 3 * j + k) rfl rfl (show 3 * j + k < 6 by omega) (Z 162 k).toInt32
    obtain ⟨h', V', i1, i2, i3, i4, i5, i6⟩ := li315_go (K := K) hj n (k + 1) f h1 S _ Z (by omega) (by omega) (C.to X1 O1)
    refine ⟨h', V', ?_, i2, O1.trans i3, (Sm.refl.upd (by decide)).trans i4, fun c hc => ?_, fun c h1 h2 => ?_⟩
    · show s_X14_isLinear_315_b K (s_X14_isLinear_315 K f) 104 (jI j) (jI k) h = _
      unfold s_X14_isLinear_315_b
      rw [if_neg (fun u => by have := (jI_le (j := 3) (by omega) (by omega)).mp u; omega), g47, Option.bind_some, g44, Option.bind_some, l162, Option.bind_some, ei, e1, Option.bind_some, jI_inc]
      exact i1
    · rw [i5 c (by omega), upd2_eq, upd_ne (by omega)]
    · by_cases u : c = k
      · rw [u, i5 _ (by omega), upd2_eq, upd_eq]
      · exact i6 c (by omega) h2
theorem li224_go {K : Nat → Int32 → Int32 → aH → aO} {x : Int32} {i s : Nat} (hs : s < 3) : ∀ (n k f : Nat) (h : aH) (S : Nat → Int32) (V : Nat → Nat → Int32) (Z : Nat → Nat → Int64), k + n = 2 → n < f → RC h S wd t fv nv V Z A m F B W G →
    ∃ h' V', s_X14_isLinear_224 K f 104 x (jI i) (jI s) (jI k) h = K 104 x (jI (i + 1)) h' ∧ RC h' S wd t fv nv V' Z A m F B W G ∧ Ou h h' ∧ Sm [164] V V' ∧ (∀ c, (c < 2 * s + k ∨ 2 * s + 2 ≤ c) → V' 164 c = V 164 c) ∧ ∀ c, k ≤ c → c < 2 → V' 164 (2 * s + c) = (Z 162 (3 + c)).toInt32
  | _, _, 0, _, _, _, _, _, hf, _ => by omega
  | 0, k, f + 1, h, S, V, Z, hn, hf, C => by
    refine ⟨h, V, ?_, C, Ou.refl, Sm.refl, fun _ _ => rfl, fun c h1 h2 => by omega⟩
    show s_X14_isLinear_224_b K (s_X14_isLinear_224 K f) 104 x (jI i) (jI s) (jI k) h = _
    unfold s_X14_isLinear_224_b
    rw [if_pos (show (2 : Int32) ≤ jI k from (jI_le (j := 2) (by omega) (by omega)).mpr (by omega)), jI_inc]
  | n + 1, k, f + 1, h, S, V, Z, hn, hf, C => by
    have g46 : gO h (.ref 104) 14 46 = some 164 := gO_of (ltE (by decide)) C.1.1 rfl
    have g44 : gO h (.ref 104) 14 44 = some 162 := gO_of (ltE (by decide)) C.1.1 rfl
    have l162 : ldJ h (.ref 162) (jI (3 + k)) = some (Z 162 (3 + k)) := C.1.ldJ (a := 162) rfl (show 3 + k < 7 by omega)
    have ei : (2 * jI s) + jI k = jI (2 * s + k) := by rw [show (2 : Int32) = jI 2 from rfl, jI_mul, jI_add]
    have e3 : (3 : Int32) + jI k = jI (3 + k) := by rw [show (3 : Int32) = jI 3 from rfl, jI_add]
    obtain ⟨h1, e1, X1, O1⟩ := C.1.st (a := 164) (j := 2 * s + k) rfl rfl (show 2 * s + k < 6 by omega) (Z 162 (3 + k)).toInt32
    obtain ⟨h', V', i1, i2, i3, i4, i5, i6⟩ := li224_go (K := K) (x := x) (i := i) hs n (k + 1) f h1 S _ Z (by omega) (by omega) (C.to X1 O1)
    refine ⟨h', V', ?_, i2, O1.trans i3, (Sm.refl.upd (by decide)).trans i4, fun c hc => ?_, fun c h1 h2 => ?_⟩
    · show s_X14_isLinear_224_b K (s_X14_isLinear_224 K f) 104 x (jI i) (jI s) (jI k) h = _
      unfold s_X14_isLinear_224_b
      rw [if_neg (fun u => by have := (jI_le (j := 2) (by omega) (by omega)).mp u; omega), g46, Option.bind_some, g44, Option.bind_some, e3, l162, Option.bind_some, ei, e1, Option.bind_some, jI_inc]
      exact i1
    · rw [i5 c (by omega), upd2_eq, upd_ne (by omega)]
    · by_cases u : c = k
      · rw [u, i5 _ (by omega), upd2_eq, upd_eq]
      · exact i6 c (by omega) h2
theorem li189_go {K : Nat → Int32 → Int32 → aH → aO} {x : Int32} {i s : Nat} (hs : s < 3) : ∀ (n k f : Nat) (h : aH) (S : Nat → Int32) (V : Nat → Nat → Int32) (Z : Nat → Nat → Int64), k + n = 3 → n < f → RC h S wd t fv nv V Z A m F B W G →
    ∃ h' V', s_X14_isLinear_189 K f 104 x (jI i) (jI s) (jI k) h = K 104 x (jI (i + 1)) h' ∧ RC h' S wd t fv nv V' Z A m F B W G ∧ Ou h h' ∧ Sm [163, 164] V V' ∧ (∀ c, (c < 3 * s + k ∨ 3 * s + 3 ≤ c) → V' 163 c = V 163 c) ∧ (∀ c, k ≤ c → c < 3 → V' 163 (3 * s + c) = (Z 162 c).toInt32) ∧ (∀ c, (c < 2 * s ∨ 2 * s + 2 ≤ c) → V' 164 c = V 164 c) ∧ ∀ c, c < 2 → V' 164 (2 * s + c) = (Z 162 (3 + c)).toInt32
  | _, _, 0, _, _, _, _, _, hf, _ => by omega
  | 0, k, f + 1, h, S, V, Z, hn, hf, C => by
    obtain ⟨h', V', i1, i2, i3, i4, i5, i6⟩ := li224_go (K := K) (x := x) (i := i) hs 2 0 FU h S V Z rfl (by decide) C
    refine ⟨h', V', ?_, i2, i3, i4.mono (by decide), fun c _ => by rw [i4 163 (by decide)], fun c h1 h2 => by omega, fun c hc => i5 c (by omega), fun c hc => i6 c (Nat.zero_le c) hc⟩
    show s_X14_isLinear_189_b K (s_X14_isLinear_189 K f) 104 x (jI i) (jI s) (jI k) h = _
    unfold s_X14_isLinear_189_b
    rw [if_pos (show (3 : Int32) ≤ jI k from (jI_le (j := 3) (by omega) (by omega)).mpr (by omega))]
    exact i1
  | n + 1, k, f + 1, h, S, V, Z, hn, hf, C => by
    have g45 : gO h (.ref 104) 14 45 = some 163 := gO_of (ltE (by decide)) C.1.1 rfl
    have g44 : gO h (.ref 104) 14 44 = some 162 := gO_of (ltE (by decide)) C.1.1 rfl
    have l162 : ldJ h (.ref 162) (jI k) = some (Z 162 k) := C.1.ldJ (a := 162) rfl (show k < 7 by omega)
    have ei : (3 * jI s) + jI k = jI (3 * s + k) := by rw [show (3 : Int32) = jI 3 from rfl, jI_mul, jI_add]
    obtain ⟨h1, e1, X1, O1⟩ := C.1.st (a := 163) (j := 3 * s + k) rfl rfl (show 3 * s + k < 9 by omega) (Z 162 k).toInt32
    obtain ⟨h', V', i1, i2, i3, i4, i5, i6, i7, i8⟩ := li189_go (K := K) (x := x) (i := i) hs n (k + 1) f h1 S _ Z (by omega) (by omega) (C.to X1 O1)
    refine ⟨h', V', ?_, i2, O1.trans i3, (Sm.refl.upd (by decide)).trans i4, fun c hc => ?_, fun c h1 h2 => ?_, fun c hc => ?_, i8⟩
    · show s_X14_isLinear_189_b K (s_X14_isLinear_189 K f) 104 x (jI i) (jI s) (jI k) h = _
      unfold s_X14_isLinear_189_b
      rw [if_neg (fun u => by have := (jI_le (j := 3) (by omega) (by omega)).mp u; omega), g45, Option.bind_some, g44, Option.bind_some, l162, Option.bind_some, ei, e1, Option.bind_some, jI_inc]
      exact i1
    · rw [i5 c (by omega), upd2_eq, upd_ne (by omega)]
    · by_cases u : c = k
      · rw [u, i5 _ (by omega), upd2_eq, upd_eq]
      · exact i6 c (by omega) h2
    · rw [i7 c hc, upd2_ne (by decide)]
end
