/-! the class's shrink -/
def cntR (T : Nat → Bool) : Nat → Nat → Nat
  | _, 0 => 0
  | c, n + 1 => (if T c then 1 else 0) + cntR T (c + 1) n
theorem cntR_B (T : Nat → Bool) : ∀ (n c : Nat), cntB T c + cntR T c n = cntB T (c + n)
  | 0, c => rfl
  | n + 1, c => by
    have ih := cntR_B T n (c + 1)
    have e : cntB T (c + 1) = cntB T c + (if T c then 1 else 0) := rfl
    show cntB T c + ((if T c then 1 else 0) + cntR T (c + 1) n) = cntB T (c + (n + 1))
    rw [show c + (n + 1) = c + 1 + n by omega, ← ih, e]
    omega
theorem cntR_congr {T T' : Nat → Bool} : ∀ (n c : Nat), (∀ d, c ≤ d → d < c + n → T d = T' d) → cntR T c n = cntR T' c n
  | 0, _, _ => rfl
  | n + 1, c, h => by
    show (if T c then 1 else 0) + cntR T (c + 1) n = (if T' c then 1 else 0) + cntR T' (c + 1) n
    rw [h c (Nat.le_refl _) (by omega), cntR_congr n (c + 1) (fun d h1 h2 => h d (by omega) (by omega))]
/-- went now -/
def wnt (f g : Nat → Int32) (d : Nat) : Bool := decide (f d ≠ 0) && decide (g d = 0)
section
variable {S : Nat → Nat → Int32} {Z : Nat → Nat → Int64} {D Ln : Nat → Nat} {b : Nat} {A : Nat → Nat → Int32} {N : Nat → Int64} {m F : Nat → Nat}
theorem shr13_go {h : aH} {V : Nat → Nat → Int32} (C : CC h S V Z D Ln b A N m F) {r o : Nat} {g : Int32} : ∀ (n w f : Nat), w + n = F 12 / 32 + 1 → n < f → (∀ j, j < w → V 76 j = 0) →
    ∃ fi, s_X7_shrink_13 f 69 r o g (jI w) h = s_X7_shrink_41 69 r o g (jI fi) h ∧ fi ≤ F 12 / 32 + 1 ∧ ∀ j, j < fi → V 76 j = 0
  | _, _, 0, _, hf, _ => by omega
  | 0, w, f + 1, hk, hf, hz => by
    obtain ⟨X, HM, K, hC, hw⟩ := id C
    have h400 := hC.2.2.2.2.1
    refine ⟨w, ?_, by omega, hz⟩
    have g1 : gO h (.ref 69) 7 1 = some 56 := gO_of (ltE (by decide)) (X.1 69 rfl) rfl
    have gw : gI h (.ref 56) 3 3 = some (jI (F 12 / 32 + 1)) := hw ▸ gI_of (ltE (by decide)) (X.1 56 rfl) rfl
    show s_X7_shrink_13_b (s_X7_shrink_13 f) 69 r o g (jI w) h = _
    unfold s_X7_shrink_13_b
    rw [g1, Option.bind_some, gw, Option.bind_some, if_pos ((jI_le (by omega) (by omega)).mpr (by omega))]
  | n + 1, w, f + 1, hk, hf, hz => by
    obtain ⟨X, HM, K, hC, hw⟩ := id C
    have h400 := hC.2.2.2.2.1
    have g1 : gO h (.ref 69) 7 1 = some 56 := gO_of (ltE (by decide)) (X.1 69 rfl) rfl
    have gw : gI h (.ref 56) 3 3 = some (jI (F 12 / 32 + 1)) := hw ▸ gI_of (ltE (by decide)) (X.1 56 rfl) rfl
    have g12 : gO h (.ref 69) 7 12 = some 76 := gO_of (ltE (by decide)) (X.1 69 rfl) rfl
    have l2 : ldI .int h (.ref 76) (jI w) = some (V 76 w) := X.ld (a := 76) rfl (show w < 13 by omega)
    have one : s_X7_shrink_13 (f + 1) 69 r o g (jI w) h = if V 76 w = 0 then s_X7_shrink_13 f 69 r o g (jI (w + 1)) h else s_X7_shrink_41 69 r o g (jI w) h := by
      show s_X7_shrink_13_b (s_X7_shrink_13 f) 69 r o g (jI w) h = _
      unfold s_X7_shrink_13_b
      rw [g1, Option.bind_some, gw, Option.bind_some, if_neg (fun q => by have := (jI_le (by omega) (by omega)).mp q; omega), g12, Option.bind_some, l2, Option.bind_some, jI_inc]
    by_cases z : V 76 w = 0
    · obtain ⟨fi, e, i1, i2⟩ := shr13_go C (r := r) (o := o) (g := g) n (w + 1) f (by omega) (by omega) (fun j hj => by
        by_cases y : j = w
        · rw [y]; exact z
        · exact hz j (by omega))
      exact ⟨fi, by rw [one, if_pos z]; exact e, i1, i2⟩
    · exact ⟨w, by rw [one, if_neg z], by omega, hz⟩
theorem shr52_go {h : aH} {V : Nat → Nat → Int32} (C : CC h S V Z D Ln b A N m F) {r o fi : Nat} {g : Int32} (hfi : fi ≤ F 12 / 32 + 1) : ∀ (la f : Nat), la < f → la < F 12 / 32 + 1 → fi ≤ la + 1 → (∀ j, la < j → j < F 12 / 32 + 1 → V 76 j = 0) →
    ∃ l', s_X7_shrink_52 f 69 r o g (jI fi) (jI la) h = s_X7_shrink_75 69 r o g (jI fi) (jI l') h ∧ l' < F 12 / 32 + 1 ∧ fi ≤ l' + 1 ∧ ∀ j, l' < j → j < F 12 / 32 + 1 → V 76 j = 0
  | _, 0, hf, _, _, _ => by omega
  | la, f + 1, hf, h1, h2, hz => by
    obtain ⟨X, HM, K, hC, hw⟩ := id C
    have h400 := hC.2.2.2.2.1
    have g12 : gO h (.ref 69) 7 12 = some 76 := gO_of (ltE (by decide)) (X.1 69 rfl) rfl
    have l2 : ldI .int h (.ref 76) (jI la) = some (V 76 la) := X.ld (a := 76) rfl (show la < 13 by omega)
    have one : s_X7_shrink_52 (f + 1) 69 r o g (jI fi) (jI la) h = if jI la ≤ jI fi then s_X7_shrink_75 69 r o g (jI fi) (jI la) h else if V 76 la = 0 then s_X7_shrink_52 f 69 r o g (jI fi) (jI la + (-1)) h else s_X7_shrink_75 69 r o g (jI fi) (jI la) h := by
      show s_X7_shrink_52_b (s_X7_shrink_52 f) 69 r o g (jI fi) (jI la) h = _
      unfold s_X7_shrink_52_b
      rw [g12, Option.bind_some, l2, Option.bind_some]
    by_cases y : la ≤ fi
    · exact ⟨la, by rw [one, if_pos ((jI_le (by omega) (by omega)).mpr y)], h1, h2, hz⟩
    · rw [if_neg (fun q => y ((jI_le (by omega) (by omega)).mp q))] at one
      by_cases z : V 76 la = 0
      · obtain ⟨l', e, i1, i2, i3⟩ := shr52_go C (r := r) (o := o) (g := g) hfi (la - 1) f (by omega) (by omega) (by omega) (fun j j1 j2 => by
          by_cases y2 : j = la
          · rw [y2]; exact z
          · exact hz j (by omega) j2)
        exact ⟨l', by rw [one, if_pos z, jI_dec' (by omega)]; exact e, i1, i2, i3⟩
      · exact ⟨la, by rw [one, if_neg z], h1, h2, hz⟩
theorem shr78_go {rid oid : Nat} (hr : dyC rid = true) (ho : oid = 72 ∨ oid = 74) {lo la : Nat} (hlo : lo ≤ la + 1) (hla : la < F 12 / 32 + 1) (hlen : F 12 * F 13 * (F 12 / 32 + 1) ≤ Ln rid) :
    ∀ (n c f : Nat) (h : aH) (V : Nat → Nat → Int32) (g : Nat), c + n = F 12 → n < f → g + n < 1000000 → CC h S V Z D Ln b A N m F →
      ∃ h' V', s_X7_shrink_78 f 69 (D rid) oid (jI g) (jI lo) (jI la) (jI c) h = some (.inl (some (.int (jI (g + cntR (wnt (V oid) (V' oid)) c n)))), h') ∧ CC h' S V' Z D Ln b A N m F ∧ Oc D h h' ∧ Sm [oid, 76, 77] V V' ∧
        (∀ d, d < c → V' oid d = V oid d) ∧
        (∀ d, c ≤ d → d < F 12 → ∀ q, q < 32 → (bitI (V' oid d) q = true ↔ bitI (V oid d) q = true ∧ (q < F 13 → ∀ j, lo ≤ j → j ≤ la → (V rid ((d * F 13 + q) * (F 12 / 32 + 1) + j) &&& V 76 j) = 0))) ∧
        (∀ e, e < 416 → (bit (V' 76) 0 e = true ↔ bit (V 77) 0 e = true ∨ (c ≤ e ∧ e < F 12 ∧ wnt (V oid) (V' oid) e = true)))
  | _, _, 0, _, _, _, _, hf, _, _ => by omega
  | 0, c, f + 1, h, V, g, hk, hf, hg, C => by
    obtain ⟨X, HM, K, hC, hw⟩ := id C
    have h400 := hC.2.2.2.2.1
    have g0 : gO h (.ref 69) 7 0 = some 3 := gO_of (ltE (by decide)) (X.1 69 rfl) rfl
    have g12 : gO h (.ref 69) 7 12 = some 76 := gO_of (ltE (by decide)) (X.1 69 rfl) rfl
    have g13 : gO h (.ref 69) 7 13 = some 77 := gO_of (ltE (by decide)) (X.1 69 rfl) rfl
    have f12 : gI h (.ref 3) 2 12 = some (jI (F 12)) := gI_of (ltE (by decide)) HM.2.1 rfl
    obtain ⟨g', e1, e2⟩ := cpI_of (a := 77) (b := 76) (n := 13) (ltE (by decide)) (ltE (by decide)) (X.2.1 77 rfl) (X.2.1 76 rfl) (by decide) (by decide) (by decide)
    have r := X.row (a := 76) (g := g') rfl
    have no : oid ≠ 76 := by rcases ho with rfl | rfl <;> decide
    refine ⟨_, _, ?_, C.to r.1 r.2 rfl, r.2, Sm.refl.upd (List.mem_cons_of_mem _ List.mem_cons_self), fun d _ => by rw [upd2_ne no], fun d h1 h2 => by omega, fun e he => ?_⟩
    · have e1' : cpI h (.ref 77) 0 (.ref 76) 0 13 = some (h.set 76 (.inl (.int, lnC 76, .inl g'))) := e1
      show s_X7_shrink_78_b (s_X7_shrink_78 f) 69 (D rid) oid (jI g) (jI lo) (jI la) (jI c) h = _
      unfold s_X7_shrink_78_b
      rw [g0, Option.bind_some, f12, Option.bind_some, if_pos ((jI_le (by omega) (by omega)).mpr (by omega)), g13, Option.bind_some, g12, Option.bind_some, e1', Option.bind_some]
      rfl
    · rw [upd2_eq]
      have : bit g' 0 e = bit (V 77) 0 e := by
        unfold bit
        rw [e2, if_pos (by omega)]
      rw [this]
      exact ⟨Or.inl, fun z => z.elim id (fun ⟨h1, h2, _⟩ => by omega)⟩
  | n + 1, c, f + 1, h, V, g, hk, hf, hg, C => by
    obtain ⟨X, HM, K, hC, hw⟩ := id C
    have h400 := hC.2.2.2.2.1
    have hoC : inC oid = true := by rcases ho with rfl | rfl <;> rfl
    have hoL : lnC oid = 400 := by rcases ho with rfl | rfl <;> rfl
    have no6 : oid ≠ 76 := by rcases ho with rfl | rfl <;> decide
    have no7 : oid ≠ 77 := by rcases ho with rfl | rfl <;> decide
    have hrn : rid ≠ oid ∧ rid ≠ 76 ∧ rid ≠ 77 := by
      have := of_decide_eq_true hr
      rcases ho with rfl | rfl <;> omega
    have g0 : gO h (.ref 69) 7 0 = some 3 := gO_of (ltE (by decide)) (X.1 69 rfl) rfl
    have f12 : gI h (.ref 3) 2 12 = some (jI (F 12)) := gI_of (ltE (by decide)) HM.2.1 rfl
    have l1 : ldI .int h (.ref oid) (jI c) = some (V oid c) := X.ld hoC (by omega)
    have start : ∀ {x : aO}, (if V oid c = 0 then s_X7_shrink_78 f 69 (D rid) oid (jI g) (jI lo) (jI la) (jI (c + 1)) h else kO h 69 7 (cI (s_X7_keptPushes 69 (D rid) (jI c) (V oid c) (jI lo) (jI la) h) fun x112 h112 => (stI h112 (.ref oid) (jI c) x112).bind fun h115 => (ldI .int h115 (.ref oid) (jI c)).bind fun x119 => if x119 = 0 then ((gO h115 (.ref 69) 7 13).bind fun x124 => (ldI .int h115 (.ref x124) (jI c >>> (5 &&& 31))).bind fun x132 => (stI h115 (.ref x124) (jI c >>> (5 &&& 31)) (x132 ||| (1 <<< ((jI c &&& 31) &&& 31)))).bind fun h141 => s_X7_shrink_78 f 69 (D rid) oid (jI (g + 1)) (jI lo) (jI la) (jI (c + 1)) h141) else (s_X7_shrink_78 f 69 (D rid) oid (jI g) (jI lo) (jI la) (jI (c + 1)) h115))) = x →
        s_X7_shrink_78 (f + 1) 69 (D rid) oid (jI g) (jI lo) (jI la) (jI c) h = x := by
      intro x hx
      show s_X7_shrink_78_b (s_X7_shrink_78 f) 69 (D rid) oid (jI g) (jI lo) (jI la) (jI c) h = _
      unfold s_X7_shrink_78_b
      simp only [g0, f12, l1, Option.bind_some, jI_inc]
      rw [if_neg (fun q => by have := (jI_le (by omega) (by omega)).mp q; omega)]
      exact hx
    by_cases z : V oid c = 0
    · obtain ⟨h', V', ih, i1, i2, i3, i4, i5, i6⟩ := shr78_go hr ho hlo hla hlen n (c + 1) f h V g (by omega) (by omega) (by omega) C
      have wz : wnt (V oid) (V' oid) c = false := by unfold wnt; rw [z]; rfl
      have ec : cntR (wnt (V oid) (V' oid)) c (n + 1) = cntR (wnt (V oid) (V' oid)) (c + 1) n := by
        show (if wnt (V oid) (V' oid) c then 1 else 0) + _ = _
        rw [wz]
        simp
      refine ⟨h', V', ?_, i1, i2, i3, fun d hd => i4 d (by omega), fun d d1 d2 q hq => ?_, fun e he => (i6 e he).trans (or_congr Iff.rfl ⟨fun ⟨h1, h2⟩ => ⟨by omega, h2⟩, fun ⟨h1, h2, h3⟩ => ⟨?_, h2, h3⟩⟩)⟩
      · apply start
        rw [if_pos z, ec]
        exact ih
      · by_cases y : d = c
        · rw [y, i4 c (by omega), z]
          have : bitI 0 q = false := bitI_zero.mp rfl q hq
          rw [this]
          exact ⟨fun h => absurd h (by decide), fun h => absurd h.1 (by decide)⟩
        · exact i5 d (by omega) d2 q hq
      · have : e ≠ c := fun y => by rw [y, wz] at h3; cases h3
        omega
    · obtain ⟨k', e1, a1⟩ := kept_at C hr (show c < F 12 by omega) hlo hla hlen (V oid c)
      obtain ⟨h1, e2, X1, O1⟩ := X.st (a := oid) (j := c) hoC (by omega) k'
      have C1 := C.to X1 O1 rfl
      have l2 : ldI .int h1 (.ref oid) (jI c) = some k' := by
        have := X1.ld (a := oid) (j := c) hoC (by omega)
        rw [upd2_eq, upd_eq] at this
        exact this
      -- what the rest finds, whatever was put into fresh
      have fin : ∀ (h2 : aH) (V2 : Nat → Nat → Int32) (gg : Nat) (B : Nat → Prop), gg + n < 1000000 → CC h2 S V2 Z D Ln b A N m F → Oc D h h2 → Sm [oid, 76, 77] V V2 → V2 oid = upd (V oid) c k' → V2 76 = V 76 → (∀ e, e < 416 → (bit (V2 77) 0 e = true ↔ bit (V 77) 0 e = true ∨ B e)) → (∀ e, B e ↔ e = c ∧ k' = 0) → (gg = g + if k' = 0 then 1 else 0) →
          (s_X7_shrink_78 (f + 1) 69 (D rid) oid (jI g) (jI lo) (jI la) (jI c) h = s_X7_shrink_78 f 69 (D rid) oid (jI gg) (jI lo) (jI la) (jI (c + 1)) h2) →
          ∃ h' V', s_X7_shrink_78 (f + 1) 69 (D rid) oid (jI g) (jI lo) (jI la) (jI c) h = some (.inl (some (.int (jI (g + cntR (wnt (V oid) (V' oid)) c (n + 1))))), h') ∧ CC h' S V' Z D Ln b A N m F ∧ Oc D h h' ∧ Sm [oid, 76, 77] V V' ∧
            (∀ d, d < c → V' oid d = V oid d) ∧
            (∀ d, c ≤ d → d < F 12 → ∀ q, q < 32 → (bitI (V' oid d) q = true ↔ bitI (V oid d) q = true ∧ (q < F 13 → ∀ j, lo ≤ j → j ≤ la → (V rid ((d * F 13 + q) * (F 12 / 32 + 1) + j) &&& V 76 j) = 0))) ∧
            (∀ e, e < 416 → (bit (V' 76) 0 e = true ↔ bit (V 77) 0 e = true ∨ (c ≤ e ∧ e < F 12 ∧ wnt (V oid) (V' oid) e = true))) := by
        intro h2 V2 gg B hgg C2 O2 M2 v1 v2 v3 hB hgg2 eq
        obtain ⟨h', V', ih, i1, i2, i3, i4, i5, i6⟩ := shr78_go hr ho hlo hla hlen n (c + 1) f h2 V2 gg (by omega) (by omega) hgg C2
        have vc : V' oid c = k' := by rw [i4 c (by omega), v1, upd_eq]
        have wc : wnt (V oid) (V' oid) c = decide (k' = 0) := by unfold wnt; rw [vc, decide_eq_true z]; rfl
        have wr : ∀ d, c + 1 ≤ d → wnt (V2 oid) (V' oid) d = wnt (V oid) (V' oid) d := fun d hd => by
          unfold wnt
          rw [v1, upd_ne (by omega)]
        have ec : g + cntR (wnt (V oid) (V' oid)) c (n + 1) = gg + cntR (wnt (V2 oid) (V' oid)) (c + 1) n := by
          show g + ((if wnt (V oid) (V' oid) c then 1 else 0) + cntR (wnt (V oid) (V' oid)) (c + 1) n) = _
          rw [cntR_congr (T := wnt (V2 oid) (V' oid)) (T' := wnt (V oid) (V' oid)) n (c + 1) (fun d d1 _ => wr d d1), wc, hgg2]
          by_cases y : k' = 0
          · rw [decide_eq_true y, if_pos y]; simp; omega
          · rw [decide_eq_false y, if_neg y]; simp
        refine ⟨h', V', ?_, i1, O2.trans i2, M2.trans i3, fun d hd => by rw [i4 d (by omega), v1, upd_ne (by omega)], fun d d1 d2 q hq => ?_, fun e he => ?_⟩
        · rw [eq, ec]; exact ih
        · by_cases y : d = c
          · rw [y, vc]
            exact a1 q hq
          · rw [i5 d (by omega) d2 q hq, v1, upd_ne y, v2, M2 rid (by simp [hrn])]
        · rw [i6 e he, v3 e he, hB]
          constructor
          · rintro ((h1 | ⟨h1, h2⟩) | ⟨h1, h2, h3⟩)
            · exact Or.inl h1
            · exact Or.inr ⟨by omega, by omega, by rw [h1, wc, decide_eq_true h2]⟩
            · exact Or.inr ⟨by omega, h2, by rw [← wr e h1]; exact h3⟩
          · rintro (h1 | ⟨h1, h2, h3⟩)
            · exact Or.inl (Or.inl h1)
            · by_cases y : e = c
              · rw [y, wc] at h3
                exact Or.inl (Or.inr ⟨y, of_decide_eq_true h3⟩)
              · exact Or.inr ⟨by omega, h2, by rw [wr e (by omega)]; exact h3⟩
      have o1 : oid ∈ [oid, 76, 77] := List.mem_cons_self
      have o77 : 77 ∈ [oid, 76, 77] := List.mem_cons_of_mem _ (List.mem_cons_of_mem _ List.mem_cons_self)
      by_cases y : k' = 0
      · have g13 : gO h1 (.ref 69) 7 13 = some 77 := gO_of (ltE (by decide)) (X1.1 69 rfl) rfl
        have l3 : ldI .int h1 (.ref 77) (jI (c / 32)) = some (V 77 (c / 32)) := by
          have := X1.ld (a := 77) (j := c / 32) rfl (show c / 32 < 13 by omega)
          rw [upd2_ne no7.symm] at this
          exact this
        obtain ⟨h2, e3, X2, O2⟩ := X1.st (a := 77) (j := c / 32) rfl (show c / 32 < 13 by omega) (V 77 (c / 32) ||| b1 (c % 32))
        refine fin h2 _ (g + 1) (fun e => e = c ∧ k' = 0) (by omega) (C1.to X2 O2 rfl) (O1.trans O2) ((Sm.refl.upd o1).upd o77) (by rw [upd2_ne no7, upd2_eq]) (by rw [upd2_ne (by decide), upd2_ne no6.symm]) (fun e he => ?_) (fun e => Iff.rfl) (by rw [if_pos y]) ?_
        · rw [upd2_eq, upd2_ne no7.symm]
          have : bit (upd (V 77) (c / 32) (V 77 (c / 32) ||| b1 (c % 32))) 0 e = bit (orb (V 77) 0 c) 0 e := by
            unfold orb
            rw [Nat.zero_add]
          rw [this, bit_orb, Bool.or_eq_true, decide_eq_true_eq]
          exact ⟨fun w => w.elim Or.inl (fun w => Or.inr ⟨w, y⟩), fun w => w.elim Or.inl (fun w => Or.inr w.1)⟩
        · apply start
          rw [if_neg z, kO_of (ltE (by decide)) (X.1 69 rfl), e1]
          simp only [cI, e2, Option.bind_some, l2]
          rw [if_pos y, g13, Option.bind_some, sh5_code c (by omega), l3, Option.bind_some, b1_code c (by omega), e3, Option.bind_some]
      · refine fin h1 _ g (fun e => False) (by omega) C1 O1 (Sm.refl.upd o1) upd2_eq (by rw [upd2_ne no6.symm]) (fun e he => by rw [upd2_ne no7.symm]; exact ⟨Or.inl, fun w => w.elim id False.elim⟩) (fun e => ⟨False.elim, fun w => y w.2⟩) (by rw [if_neg y]; rfl) ?_
        apply start
        rw [if_neg z, kO_of (ltE (by decide)) (X.1 69 rfl), e1]
        simp only [cI, e2, Option.bind_some, l2]
        rw [if_neg y]
theorem shrink_at {rid oid : Nat} (hr : dyC rid = true) (ho : oid = 72 ∨ oid = 74) {h : aH} {V : Nat → Nat → Int32} (C : CC h S V Z D Ln b A N m F) (hlen : F 12 * F 13 * (F 12 / 32 + 1) ≤ Ln rid) :
    ∃ h' V', s_X7_shrink 69 (D rid) oid h = some (.inl (some (.int (jI (cntB (wnt (V oid) (V' oid)) (F 12))))), h') ∧ CC h' S V' Z D Ln b A N m F ∧ Oc D h h' ∧ Sm [oid, 76, 77] V V' ∧
      (∀ d, d < F 12 → ∀ q, q < 32 → (bitI (V' oid d) q = true ↔ bitI (V oid d) q = true ∧ (q < F 13 → ∀ e, e < 32 * (F 12 / 32 + 1) → ¬ (bit (V rid) ((d * F 13 + q) * (F 12 / 32 + 1)) e = true ∧ bit (V 76) 0 e = true)))) ∧
      (∀ e, e < 416 → (bit (V' 76) 0 e = true ↔ e < F 12 ∧ wnt (V oid) (V' oid) e = true)) := by
  obtain ⟨X, HM, K, hC, hw⟩ := id C
  have h400 := hC.2.2.2.2.1
  have g13 : gO h (.ref 69) 7 13 = some 77 := gO_of (ltE (by decide)) (X.1 69 rfl) rfl
  have e1 := fill_at (x := 0) (ltE (by decide)) (show 13 < 1000000 by decide) (X.2.1 77 rfl)
  have r := X.row (a := 77) (g := filF (V 77) 0 13 0) rfl
  obtain ⟨h1, hh1⟩ : ∃ h1, h1 = h.set 77 (.inl (.int, lnC 77, .inl (filF (V 77) 0 13 0))) := ⟨_, rfl⟩
  rw [← hh1] at r
  have e1' : s_J7_fill_53178 77 0 h = some (.inl none, h1) := by rw [hh1]; exact e1
  have C1 := C.to r.1 r.2 rfl
  obtain ⟨V1, hV1⟩ : ∃ V1, V1 = upd2 V 77 (filF (V 77) 0 13 0) := ⟨_, rfl⟩
  rw [← hV1] at C1
  have no7 : oid ≠ 77 := by rcases ho with rfl | rfl <;> decide
  have hrn : rid ≠ 77 := by have := of_decide_eq_true hr; omega
  have v76 : V1 76 = V 76 := by rw [hV1, upd2_ne (by decide)]
  have vo : V1 oid = V oid := by rw [hV1, upd2_ne no7]
  have vr : V1 rid = V rid := by rw [hV1, upd2_ne hrn]
  have v77 : ∀ j, j < 13 → V1 77 j = 0 := fun j hj => by
    rw [hV1, upd2_eq]
    unfold filF
    rw [if_pos ⟨Nat.zero_le _, hj⟩]
  obtain ⟨fi, e2, f1, f2⟩ := shr13_go C1 (r := D rid) (o := oid) (g := 0) (F 12 / 32 + 1) 0 FU (by omega) (by unfold FU; omega) (fun j hj => by omega)
  obtain ⟨la, e3, l1, l2, l3⟩ := shr52_go C1 (r := D rid) (o := oid) (g := 0) f1 (F 12 / 32 + 1 - 1) FU (by unfold FU; omega) (by omega) (by omega) (fun j j1 j2 => by omega)
  obtain ⟨h', V', e4, i1, i2, i3, i4, i5, i6⟩ := shr78_go hr ho l2 l1 hlen (F 12) 0 FU h1 V1 0 (by omega) (by unfold FU; omega) (by omega) C1
  rw [vo, v76, vr] at i5
  rw [vo] at e4 i6
  refine ⟨h', V', ?_, i1, r.2.trans i2, ?_, fun d hd q hq => (i5 d (Nat.zero_le _) hd q hq).trans (and_congr Iff.rfl ⟨fun H q1 e he ⟨b1, b2⟩ => ?_, fun H q1 j j1 j2 => ?_⟩), fun e he => (i6 e he).trans ?_⟩
  · have g1 : gO h1 (.ref 69) 7 1 = some 56 := gO_of (ltE (by decide)) (C1.1.1 69 rfl) rfl
    have gw : gI h1 (.ref 56) 3 3 = some (jI (F 12 / 32 + 1)) := hw ▸ gI_of (ltE (by decide)) (C1.1.1 56 rfl) rfl
    have z0 : jI 0 = 0 := rfl
    rw [z0] at e2 e4
    have e5 := cntR_B (wnt (V oid) (V' oid)) (F 12) 0
    rw [Nat.zero_add] at e5 e4
    have e6 : cntB (wnt (V oid) (V' oid)) 0 = 0 := rfl
    rw [e6, Nat.zero_add] at e5
    unfold s_X7_shrink
    rw [g13, Option.bind_some, e1']
    simp only [cN]
    rw [e2]
    unfold s_X7_shrink_41
    rw [g1, Option.bind_some, gw, Option.bind_some, jI_dec (by omega), e3]
    unfold s_X7_shrink_75
    rw [e4, e5]
  · exact (show Sm [oid, 76, 77] V V1 by rw [hV1]; exact Sm.refl.upd (List.mem_cons_of_mem _ (List.mem_cons_of_mem _ List.mem_cons_self))).trans i3
  · have hj : fi ≤ e / 32 ∧ e / 32 ≤ la := by
      refine ⟨Nat.le_of_not_lt (fun z => ?_), Nat.le_of_not_lt (fun z => ?_)⟩
      · have := f2 _ z
        rw [v76] at this
        unfold bit at b2
        rw [Nat.zero_add, this] at b2
        simp at b2
      · have := l3 _ z (by omega)
        rw [v76] at this
        unfold bit at b2
        rw [Nat.zero_add, this] at b2
        simp at b2
    have := (and_zero _ _).mp (H q1 (e / 32) hj.1 hj.2) (e % 32) (Nat.mod_lt _ (by decide))
    unfold bit at b1 b2
    rw [Nat.zero_add] at b2
    rw [b1, b2] at this
    cases this
  · rw [and_zero]
    intro i hi
    have := H q1 (32 * j + i) (by omega)
    unfold bit at this
    rw [show (32 * j + i) / 32 = j by omega, show (32 * j + i) % 32 = i by omega, Nat.zero_add] at this
    cases z1 : (V rid ((d * F 13 + q) * (F 12 / 32 + 1) + j)).toBitVec.getLsbD i with
    | false => rfl
    | true =>
      cases z2 : (V 76 j).toBitVec.getLsbD i with
      | false => rfl
      | true => exact absurd ⟨z1, z2⟩ this
  · rw [bit_zero v77 he]
    exact ⟨fun z => z.elim (fun z => by cases z) (fun z => z.2), fun z => Or.inr ⟨Nat.zero_le _, z⟩⟩
end
