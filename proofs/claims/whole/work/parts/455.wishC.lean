/-! the class's wishes: marks and costs -/
def okLz (m : Nat → Nat) (l : List pFa) : Prop := ∀ a ∈ l, 0 ≤ a.2.1 → a.2.1.toNatClampNeg < m 0
def okOz (m : Nat → Nat) (l : List pOne) : Prop := ∀ a ∈ l, okLz m a.1 ∧ okLz m a.2.1
def mS0 (m : Nat → Nat) : Nat → Nat := fun k => if k = 0 then m 0 else 0
theorem allV_st {m : Nat → Nat} {v v' : Nat → Int32} (h : ∀ s, s < m 0 → v s = v' s) {l : List pOne} (hl : okOz m l) : allV v l = allV v' l := by
  have d : ∀ s, decl (mS0 m) s ↔ s < m 0 := fun s => by
    unfold decl mS0
    simp only [if_true, show ¬ (1 : Nat) = 0 by decide, show ¬ (2 : Nat) = 0 by decide, show ¬ (3 : Nat) = 0 by decide, if_false]
    omega
  refine allV_congr (m := mS0 m) (fun s hs => h s ((d s).mp hs)) l (fun a ha => ⟨fun x hx q => (d _).mpr ((hl a ha).1 x hx q), fun x hx q => (d _).mpr ((hl a ha).2 x hx q)⟩)
/-- the class's wish, read -/
def wTest (h : aH) (l : List pOne) : Prop := ∃ (nf : Nat) (jn sl wh : Nat → Int32) (no : Nat) (st mi en re : Nat → Int32), isF h 43 nf jn sl wh no st mi en re ∧ no ≤ 30 ∧ okS sl ∧ (∀ k, k < no → okO st mi en k) ∧ segO jn sl wh st mi en re 0 no = l
def wSum (h : aH) (l : List pFa) : Prop := ∃ (nf : Nat) (jn sl wh : Nat → Int32) (no : Nat) (st mi en re : Nat → Int32), isF h 43 nf jn sl wh no st mi en re ∧ nf ≤ 60 ∧ okS sl ∧ seg3 jn sl wh 0 nf = l
def gdT (A : Nat → Nat → Int32) (m F : Nat → Nat) (l : List pOne) (d : Nat) : Bool := decide (d < F 12) && allV (sprGo A 0 0 (m 0) (jI d) zV) l
section
variable {h : aH} {S : Nat → Nat → Int32} {V : Nat → Nat → Int32} {Z : Nat → Nat → Int64} {D Ln : Nat → Nat} {b : Nat} {A : Nat → Nat → Int32} {N : Nat → Int64} {m F : Nat → Nat}
theorem CW.kept43 {h' : aH} (X : CW h S V Z D Ln b) (O : Oc D h h') {k : Nat} {c : aC} (h1 : 3 ≤ k) (h2 : k ≤ 55) (e : h[k]? = some c) : h'[k]? = some c := by
  rw [O.2 _ (List.getElem?_eq_some_iff.mp e).1 (decide_eq_false (by omega)) (fun i hi z => X.notD (k := k) (by omega) (decide_eq_false (by omega)) hi z.symm)]
  exact e
theorem isF.oc {h' : aH} {nf no : Nat} {jn sl wh st mi en re : Nat → Int32} (H : isF h 43 nf jn sl wh no st mi en re) (X : CW h S V Z D Ln b) (O : Oc D h h') : isF h' 43 nf jn sl wh no st mi en re := by
  obtain ⟨a, h0, h1, h2, h3, h4, h5, h6, h7⟩ := H
  exact ⟨a, X.kept43 O (by omega) (by omega) h0, X.kept43 O (by omega) (by omega) h1, X.kept43 O (by omega) (by omega) h2, X.kept43 O (by omega) (by omega) h3, X.kept43 O (by omega) (by omega) h4, X.kept43 O (by omega) (by omega) h5, X.kept43 O (by omega) (by omega) h6, X.kept43 O (by omega) (by omega) h7⟩
theorem wTest.oc {h' : aH} {l : List pOne} (H : wTest h l) (X : CW h S V Z D Ln b) (O : Oc D h h') : wTest h' l := by
  obtain ⟨nf, jn, sl, wh, no, st, mi, en, re, q, r⟩ := H
  exact ⟨nf, jn, sl, wh, no, st, mi, en, re, q.oc X O, r⟩
theorem wSum.oc {h' : aH} {l : List pFa} (H : wSum h l) (X : CW h S V Z D Ln b) (O : Oc D h h') : wSum h' l := by
  obtain ⟨nf, jn, sl, wh, no, st, mi, en, re, q, r⟩ := H
  exact ⟨nf, jn, sl, wh, no, st, mi, en, re, q.oc X O, r⟩
theorem i01 (q : Bool) : (if q then (1 : Int32) else 0) = b01 q := rfl
theorem wTest.hold {l : List pOne} (H : wTest h l) {v : Nat} (hv : v < aE) {vals : Nat → Int32} (hvc : h[v]? = some (.inl (.int, 9, .inl vals))) : ∃ x, gI h (.ref 43) 0 4 = some x ∧ s_X0_allHold 43 0 x v h = some (.inl (some (.int (b01 (allV vals l)))), h) ∧ ∀ {β : Type} {k : Option β}, kO h 43 0 k = k := by
  obtain ⟨nf, jn, sl, wh, no, st, mi, en, re, q, h30, hs, hk, e⟩ := H
  refine ⟨jI no, gI_of (ltE (by decide)) q.2.1 rfl, ?_, kO_of (ltE (by decide)) q.2.1⟩
  have := allHold_at q hv hvc hs (i := 0) (n := no) (by omega) (fun k _ h2 => hk k (by omega))
  rw [e, Nat.zero_add] at this
  exact this
theorem wSum.sum {l : List pFa} (H : wSum h l) {v : Nat} (hv : v < aE) {vals : Nat → Int32} (hvc : h[v]? = some (.inl (.int, 9, .inl vals))) : ∃ x, gI h (.ref 43) 0 0 = some x ∧ s_X0_sumOf 43 0 x v h = some (.inl (some (.int (sumV vals l))), h) ∧ ∀ {β : Type} {k : Option β}, kO h 43 0 k = k := by
  obtain ⟨nf, jn, sl, wh, no, st, mi, en, re, q, h60, hs, e⟩ := H
  refine ⟨jI nf, gI_of (ltE (by decide)) q.2.1 rfl, ?_, kO_of (ltE (by decide)) q.2.1⟩
  have := sumOf_at q hv hvc (i := 0) (n := nf) (by omega) (fun k _ h2 => hs k (by omega))
  rw [e, Nat.zero_add] at this
  exact this
end
section
variable {S : Nat → Nat → Int32} {Z : Nat → Nat → Int64} {D Ln : Nat → Nat} {b : Nat} {A : Nat → Nat → Int32} {N : Nat → Int64} {m F : Nat → Nat}
/-- a bit put into a row of 13 words -/
theorem CC.putb {h : aH} {V : Nat → Nat → Int32} (C : CC h S V Z D Ln b A N m F) {a c : Nat} (ha : inC a = true) (hl : lnC a = 13) (hc : c < 400) :
    ∃ h' x, ldI .int h (.ref a) (jI c >>> (5 &&& 31)) = some x ∧ stI h (.ref a) (jI c >>> (5 &&& 31)) (x ||| (1 <<< ((jI c &&& 31) &&& 31))) = some h' ∧ CC h' S (upd2 V a (orb (V a) 0 c)) Z D Ln b A N m F ∧ Oc D h h' := by
  have e5 := sh5_code c (by omega)
  have eb := b1_code c (by omega)
  obtain ⟨h', e, X, O⟩ := C.1.st (a := a) (j := c / 32) ha (by rw [hl]; omega) (V a (c / 32) ||| b1 (c % 32))
  refine ⟨h', V a (c / 32), by rw [e5]; exact C.1.ld ha (by rw [hl]; omega), by rw [e5, eb]; exact e, ?_, O⟩
  have z : upd (V a) (c / 32) (V a (c / 32) ||| b1 (c % 32)) = orb (V a) 0 c := by
    unfold orb
    rw [Nat.zero_add]
  rw [← z]
  exact C.to X O rfl
theorem mk10_go {l : List pOne} (hl : okOz m l) {a : Nat} (ha : a = 62 ∨ a = 63) : ∀ (n c f g : Nat) (h : aH) (V : Nat → Nat → Int32), c + n = F 12 → n < f → g + n < 1000000 → CC h S V Z D Ln b A N m F → wTest h l → (∀ d, d < 416 → bit (V a) 0 d = (decide (d < c) && gdT A m F l d)) →
    ∃ h' V', s_X10_markAll_10 f 60 43 a (jI g) (jI c) h = some (.inl (some (.int (jI (g + cntR (gdT A m F l) c n)))), h') ∧ CC h' S V' Z D Ln b A N m F ∧ Oc D h h' ∧ Sm [61, a] V V' ∧ ∀ d, d < 416 → bit (V' a) 0 d = gdT A m F l d
  | _, _, 0, _, _, _, _, hf, _, _, _, _ => by omega
  | 0, c, f + 1, g, h, V, hk, hf, hg, C, T, hz => by
    have h400 := C.2.2.2.1.2.2.2.2.1
    have g0 : gO h (.ref 60) 10 0 = some 3 := gO_of (ltE (by decide)) (C.1.1 60 rfl) rfl
    refine ⟨h, V, ?_, C, Oc.refl, Sm.refl, fun d hd => ?_⟩
    · show s_X10_markAll_10_b (s_X10_markAll_10 f) 60 43 a (jI g) (jI c) h = _
      unfold s_X10_markAll_10_b
      rw [g0, Option.bind_some, C.f12, Option.bind_some, if_pos ((jI_le (by omega) (by omega)).mpr (by omega))]
      rfl
    · rw [hz d hd]
      by_cases q : d < c
      · rw [decide_eq_true q, Bool.true_and]
      · unfold gdT
        rw [decide_eq_false q, decide_eq_false (show ¬ d < F 12 by omega)]
        rfl
  | n + 1, c, f + 1, g, h, V, hk, hf, hg, C, T, hz => by
    obtain ⟨X, HM, K, hC, hwd⟩ := id C
    have h400 := hC.2.2.2.2.1
    have g0 : gO h (.ref 60) 10 0 = some 3 := gO_of (ltE (by decide)) (X.1 60 rfl) rfl
    have g2 : gO h (.ref 60) 10 2 = some 61 := gO_of (ltE (by decide)) (X.1 60 rfl) rfl
    obtain ⟨h1, e1, C1, O1⟩ := C.spr (a := 61) rfl rfl (k := 0) (by decide) (jI c)
    have e1' : s_X2_spread 3 0 (jI c) 0 61 h = some (.inl none, h1) := e1
    have G2 : gO h1 (.ref 60) 10 2 = some 61 := gO_of (ltE (by decide)) (C1.1.1 60 rfl) rfl
    have T1 := T.oc X O1
    obtain ⟨r1, r2, r3⟩ := C1.r9 (a := 61) rfl rfl
    obtain ⟨x, ex, eh, ek⟩ := T1.hold r2 r1
    have gv : allV (upd2 V 61 (sprGo A 0 (baseN 0) (m 0) (jI c) (V 61)) 61) l = gdT A m F l c := by
      unfold gdT
      rw [decide_eq_true (show c < F 12 by omega), Bool.true_and, upd2_eq]
      exact allV_st (fun s hs => spr_in A 0 0 (m 0) _ _ _ s (Nat.zero_le _) (by omega)) hl
    rw [gv] at eh
    have an : a ≠ 61 := by omega
    have cr : cntR (gdT A m F l) c (n + 1) = (if gdT A m F l c then 1 else 0) + cntR (gdT A m F l) (c + 1) n := rfl
    have hz1 : ∀ d, d < 416 → bit (upd2 V 61 (sprGo A 0 (baseN 0) (m 0) (jI c) (V 61)) a) 0 d = (decide (d < c) && gdT A m F l d) := fun d hd => by rw [upd2_ne an]; exact hz d hd
    have start : ∀ {y : aO}, (if b01 (gdT A m F l c) = 0 then (s_X10_markAll_10 f 60 43 a (jI g) (jI (c + 1)) h1) else ((ldI .int h1 (.ref a) (jI c >>> (5 &&& 31))).bind fun x59 => (stI h1 (.ref a) (jI c >>> (5 &&& 31)) (x59 ||| (1 <<< ((jI c &&& 31) &&& 31)))).bind fun h68 => s_X10_markAll_10 f 60 43 a (jI (g + 1)) (jI (c + 1)) h68)) = y → s_X10_markAll_10 (f + 1) 60 43 a (jI g) (jI c) h = y := by
      intro y hy
      show s_X10_markAll_10_b (s_X10_markAll_10 f) 60 43 a (jI g) (jI c) h = _
      unfold s_X10_markAll_10_b
      rw [g0, Option.bind_some, C.f12, Option.bind_some, if_neg (fun q => by have := (jI_le (by omega) (by omega)).mp q; omega), Option.bind_some, g2, Option.bind_some, C.kO3, e1']
      simp only [cN, ex, Option.bind_some, G2]
      rw [ek, eh]
      simp only [cI, jI_inc]
      exact hy
    cases z : gdT A m F l c with
    | false =>
      obtain ⟨h', V', ih, i1, i2, i3, i4⟩ := mk10_go hl ha n (c + 1) f g h1 _ (by omega) (by omega) (by omega) C1 T1 (fun d hd => by
        rw [hz1 d hd]
        by_cases q : d = c
        · rw [q, z, Bool.and_false, Bool.and_false]
        · rw [show decide (d < c + 1) = decide (d < c) from decide_eq_decide.mpr (by omega)])
      refine ⟨h', V', start ?_, i1, O1.trans i2, (Sm.refl.upd (by simp)).trans i3, i4⟩
      rw [z, if_pos b01_f, ih, cr, z]
      simp
    | true =>
      have hin : inC a = true := by rcases ha with rfl | rfl <;> rfl
      have hln : lnC a = 13 := by rcases ha with rfl | rfl <;> rfl
      obtain ⟨h2, y, p1, p2, C2, O2⟩ := C1.putb hin hln (show c < 400 by omega)
      obtain ⟨h', V', ih, i1, i2, i3, i4⟩ := mk10_go hl ha n (c + 1) f (g + 1) h2 _ (by omega) (by omega) (by omega) C2 (T1.oc C1.1 O2) (fun d hd => by
        rw [upd2_eq, bit_orb, hz1 d hd]
        by_cases q : d = c
        · rw [q, z, decide_eq_true (rfl : c = c), decide_eq_true (show c < c + 1 by omega)]
          simp
        · rw [decide_eq_false q, Bool.or_false, show decide (d < c + 1) = decide (d < c) from decide_eq_decide.mpr (by omega)])
      refine ⟨h', V', start ?_, i1, (O1.trans O2).trans i2, ((Sm.refl.upd (by simp)).upd (by simp)).trans i3, i4⟩
      rw [z, if_neg (show ¬ b01 true = 0 by decide), p1, Option.bind_some, p2, Option.bind_some, ih, cr, z, if_pos rfl, Nat.add_assoc]
theorem gdT_out {l : List pOne} {d : Nat} (h : F 12 ≤ d) : gdT A m F l d = false := by
  unfold gdT
  rw [decide_eq_false (by omega)]
  rfl
theorem markAll_at {l : List pOne} (hl : okOz m l) {a : Nat} (ha : a = 62 ∨ a = 63) {h : aH} {V : Nat → Nat → Int32} (C : CC h S V Z D Ln b A N m F) (T : wTest h l) :
    ∃ h' V', s_X10_markAll 60 43 a h = some (.inl (some (.int (jI (cntB (gdT A m F l) (F 12))))), h') ∧ CC h' S V' Z D Ln b A N m F ∧ Oc D h h' ∧ Sm [61, a] V V' ∧ ∀ d, d < 416 → bit (V' a) 0 d = gdT A m F l d := by
  have h400 := C.2.2.2.1.2.2.2.2.1
  have hin : inC a = true := by rcases ha with rfl | rfl <;> rfl
  have hln : lnC a = 13 := by rcases ha with rfl | rfl <;> rfl
  have hrow := C.1.2.1 a hin
  rw [hln] at hrow
  have e1 := fill_at (x := 0) (ltE (by omega)) (show 13 < 1000000 by decide) hrow
  have r1 := C.1.row (a := a) (g := filF (V a) 0 13 0) hin
  rw [hln] at r1
  obtain ⟨h', V', ih, i1, i2, i3, i4⟩ := mk10_go hl ha (F 12) 0 FU 0 _ _ (by omega) (by unfold FU; omega) (by omega) (C.to r1.1 r1.2 rfl) (T.oc C.1 r1.2) (fun d hd => by
    rw [upd2_eq]
    have := bit_zero (R := filF (V a) 0 13 0) (d := d) (fun k hk => by unfold filF; rw [if_pos ⟨Nat.zero_le _, hk⟩]) hd
    rw [this]
    rfl)
  refine ⟨h', V', ?_, i1, r1.2.trans i2, (Sm.refl.upd (by simp)).trans i3, i4⟩
  have e0 : (0 : Nat) + cntR (gdT A m F l) 0 (F 12) = cntB (gdT A m F l) (F 12) := by
    have := cntR_B (gdT A m F l) (F 12) 0
    rw [Nat.zero_add] at this
    exact this
  rw [e0] at ih
  unfold s_X10_markAll
  rw [e1]
  simp only [cN]
  exact ih
theorem CC.setGood {l : List pOne} (hl : okOz m l) {h : aH} {V : Nat → Nat → Int32} (C : CC h S V Z D Ln b A N m F) (T : wTest h l) :
    ∃ h' V', s_X10_setGood 60 43 h = some (.inl none, h') ∧ CC h' (upd2 S 60 (upd (upd (S 60) 3 (jI (cntB (gdT A m F l) (F 12)))) 7 0)) V' Z D Ln b A N m F ∧ Oc D h h' ∧ Sm [61, 62] V V' ∧ gdC V' (gdT A m F l) := by
  obtain ⟨h1, V1, e1, C1, O1, M1, a1⟩ := markAll_at hl (Or.inl rfl) C T
  have g4 : gO h (.ref 60) 10 4 = some 62 := gO_of (ltE (by decide)) (C.1.1 60 rfl) rfl
  obtain ⟨S2, hS2⟩ : ∃ S2, S2 = upd2 S 60 (upd (S 60) 3 (jI (cntB (gdT A m F l) (F 12)))) := ⟨_, rfl⟩
  have r2 := C1.1.obj (a := 60) (g := upd (S 60) 3 (jI (cntB (gdT A m F l) (F 12)))) rfl
  rw [← hS2] at r2
  obtain ⟨h2, hh2⟩ : ∃ h2, h2 = h1.set 60 (.inr (oF S2 D 60)) := ⟨_, rfl⟩
  rw [← hh2] at r2
  have e2 : pF h1 (.ref 60) 10 3 (.int (jI (cntB (gdT A m F l) (F 12)))) = some h2 := by
    rw [pF_of (ltE (by decide)) (C1.1.1 60 rfl) (show 3 < 12 by decide), hh2, hS2]
    rfl
  have C2 : CC h2 S2 V1 Z D Ln b A N m F := C1.to r2.1 r2.2 (by rw [hS2, upd2_ne (by decide)])
  have r3 := C2.1.obj (a := 60) (g := upd (S2 60) 7 0) rfl
  have eS : upd2 S2 60 (upd (S2 60) 7 0) = upd2 S 60 (upd (upd (S 60) 3 (jI (cntB (gdT A m F l) (F 12)))) 7 0) := by rw [hS2, upd2_2, upd2_eq]
  rw [eS] at r3
  have e3 : pZ h2 (.ref 60) 10 7 0 = some (h2.set 60 (.inr (oF (upd2 S 60 (upd (upd (S 60) 3 (jI (cntB (gdT A m F l) (F 12)))) 7 0)) D 60))) := by
    rw [pZ_of (ltE (by decide)) (C2.1.1 60 rfl) (show 7 < 12 by decide) (Or.inl rfl), hS2]
    rfl
  refine ⟨_, V1, ?_, C2.to r3.1 r3.2 (by rw [upd2_ne (by decide), hS2, upd2_ne (by decide)]), (O1.trans r2.2).trans r3.2, M1, a1⟩
  unfold s_X10_setGood
  rw [g4, Option.bind_some, kO_of (ltE (by decide)) (C.1.1 60 rfl), e1]
  simp only [cI]
  rw [e2, Option.bind_some, e3, Option.bind_some]
theorem CC.setGoal {l : List pOne} (hl : okOz m l) {h : aH} {V : Nat → Nat → Int32} (C : CC h S V Z D Ln b A N m F) (T : wTest h l) :
    ∃ h' V', s_X10_setGoal 60 43 h = some (.inl (some (.int (jI (cntB (gdT A m F l) (F 12))))), h') ∧ CC h' (upd2 S 60 (upd (S 60) 7 0)) V' Z D Ln b A N m F ∧ Oc D h h' ∧ Sm [61, 63] V V' ∧ glC V' (gdT A m F l) := by
  have r2 := C.1.obj (a := 60) (g := upd (S 60) 7 0) rfl
  have e2 : pZ h (.ref 60) 10 7 0 = some (h.set 60 (.inr (oF (upd2 S 60 (upd (S 60) 7 0)) D 60))) := by
    rw [pZ_of (ltE (by decide)) (C.1.1 60 rfl) (show 7 < 12 by decide) (Or.inl rfl)]
    rfl
  have C2 := C.to r2.1 r2.2 (by rw [upd2_ne (by decide)])
  obtain ⟨h1, V1, e1, C1, O1, M1, a1⟩ := markAll_at hl (Or.inr rfl) C2 (T.oc C.1 r2.2)
  have g4 := gO_of (k := 5) (ltE (show 60 < 1000000 by decide)) (C2.1.1 60 rfl) rfl
  refine ⟨h1, V1, ?_, C1, r2.2.trans O1, M1, a1⟩
  unfold s_X10_setGoal
  rw [e2, Option.bind_some, g4, Option.bind_some, kO_of (ltE (by decide)) (C2.1.1 60 rfl), e1]
  rfl
end
