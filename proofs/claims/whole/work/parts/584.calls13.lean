/-! calls: cell, state, push, next, sight -/
/-- the reference's walk to a cell's number -/
def cgR (A : Nat → Nat → Int32) (f : Nat → Int32) : Nat → Nat → Int32 → Int32
  | _, 0, c => c
  | i, n + 1, c => if f i < A 3 i then -1 else if f i ≤ A 4 i then cgR A f (i + 1) n (((c * wdt A 0 i) + f i) - A 3 i) else -1
theorem cgR_is {A : Nat → Nat → Int32} {f : Nat → Int32} : ∀ (n i : Nat) (c : Int32), (cellGo A f i n c = -2 ∧ cgR A f i n c = -1) ∨ (cgR A f i n c = cellGo A f i n c ∧ ∀ k, i ≤ k → k < i + n → A 3 k ≤ f k ∧ f k ≤ A 4 k)
  | 0, i, c => Or.inr ⟨rfl, fun k a b => by omega⟩
  | n + 1, i, c => by
    unfold cgR cellGo
    by_cases q : f i < A 3 i
    · rw [if_pos q, if_pos q]
      exact Or.inl ⟨rfl, rfl⟩
    · rw [if_neg q, if_neg q]
      by_cases q2 : f i ≤ A 4 i
      · rw [if_pos q2, if_pos q2]
        rcases cgR_is n (i + 1) (((c * wdt A 0 i) + f i) - A 3 i) with z | ⟨z1, z2⟩
        · exact Or.inl z
        · refine Or.inr ⟨z1, fun k a b => ?_⟩
          by_cases u : k = i
          · rw [u]
            exact ⟨i32_nlt.mp q, q2⟩
          · exact z2 k (by omega) (by omega)
      · rw [if_neg q2, if_neg q2]
        exact Or.inl ⟨rfl, rfl⟩
theorem cg_one {A : Nat → Nat → Int32} {f : Nat → Int32} {n : Nat} (hR : ∀ k, k < n → okR A k) (h400 : prtN A 0 0 n ≤ 400) : (if 0 ≤ cellGo A f 0 n 0 then cellGo A f 0 n 0 else -1) = cgR A f 0 n 0 := by
  rcases cgR_is (A := A) (f := f) n 0 0 with ⟨z1, z2⟩ | ⟨z1, z2⟩
  · rw [z1, z2]
    rfl
  · have e := cellGo_N (A := A) (f := f) n 0 0 (fun k a b => ⟨hR k (by omega), z2 k a b⟩)
    have e1 : cellGo A f 0 n 0 = jI (cellN A f 0 n 0) := e.1
    rw [z1, e1, if_pos (i32_nlt.mp (jI_neg (by omega)))]
def xyz (x y z : Int32) : Nat → Int32 := fun i => if i = 0 then x else if i = 1 then y else z
theorem cell20_go {h : aH} {t2 : Nat} {γ : gSt} {τ : tSt} {S : Nat → Int32} {wd : Int64} {t f : Nat} {nv : Value} {V : Nat → Nat → Int32} {Z : Nat → Nat → Int64} {B : Nat → Nat → Int32} {W : Nat → Int64} {G : Nat → Nat} (R : RTx h t2 γ τ S wd t f nv V Z B W G) (x y z : Int32) : ∀ (n i fu : Nat) (c : Int32), i + n = uM τ 0 → n < fu →
    s_X14_cell_20 fu 104 x y z c (jI i) h = some (.inl (some (.int (cgR (uA τ) (xyz x y z) i n c))), h)
  | _, _, 0, _, _, hf => absurd hf (Nat.not_lt_zero _)
  | 0, i, fu + 1, c, hn, _ => by
    obtain ⟨m0, -⟩ := id R.lim.2.2.2.1
    obtain ⟨l1, l2, l3⟩ := R.ldm (k := 0) (by decide)
    have l3' : ldI .int h (.ref (t + 1)) 0 = some (jI (uM τ 0)) := l3
    show s_X14_cell_20_b (s_X14_cell_20 fu) 104 x y z c (jI i) h = _
    unfold s_X14_cell_20_b
    rw [l1, Option.bind_some, l2, Option.bind_some, l3', Option.bind_some, if_pos ((jI_le (by omega) (by omega)).mpr (by omega))]
    rfl
  | n + 1, i, fu + 1, c, hn, hf => by
    obtain ⟨m0, -⟩ := id R.lim.2.2.2.1
    obtain ⟨l1, l2, l3⟩ := R.ldm (k := 0) (by decide)
    have l3' : ldI .int h (.ref (t + 1)) 0 = some (jI (uM τ 0)) := l3
    have HT := R.2.2.1.2.1
    have dc : decl (uM τ) i := Or.inl (by omega)
    have sim := R.2.2.1.2.2.2.1.2.1 i dc
    have hR := R.2.2.1.2.2.2.2.1.2.2.1 i dc
    have g1 : gO h (.ref t) 13 1 = some (t + 2) := gO_of (by have := HT.1; omega) HT.2.1 rfl
    have g2 : gO h (.ref t) 13 2 = some (t + 3) := gO_of (by have := HT.1; omega) HT.2.1 rfl
    have d2 : ldI .int h (.ref (t + 2)) (jI i) = some (B 2 i) := HT.ld (k := 2) (by decide) (by decide) (by decide) (show i < 11 by omega)
    have d3 : ldI .int h (.ref (t + 3)) (jI i) = some (B 3 i) := HT.ld (k := 3) (by decide) (by decide) (by decide) (show i < 11 by omega)
    have sz := size_at HT (show i < 11 by omega)
    rw [szT_wdt hR sim.1 sim.2] at sz
    rw [sim.1] at d2
    rw [sim.2] at d3
    have key : ∀ s0, s0 = xyz x y z i → s_X14_cell_54 (s_X14_cell_20 fu) 104 x y z c (jI i) s0 h = some (.inl (some (.int (cgR (uA τ) (xyz x y z) i (n + 1) c))), h) := fun s0 e0 => by
      unfold s_X14_cell_54 cgR
      rw [← e0, l1, Option.bind_some, g1, Option.bind_some, d2, Option.bind_some, Option.bind_some, g2, Option.bind_some, d3, Option.bind_some]
      by_cases q : s0 < uA τ 3 i
      · rw [cI_of (inR_spanN (Or.inl q) h), if_pos rfl, if_pos q]
      · by_cases q2 : s0 ≤ uA τ 4 i
        · rw [cI_of (inR_span (i32_nlt.mp q) q2 h), if_neg (by decide), if_neg q, if_pos q2, l1, Option.bind_some, HT.kO, cI_of sz, l1, Option.bind_some, g1, Option.bind_some, d2, Option.bind_some, jI_inc]
          rw [e0]
          exact cell20_go R x y z n (i + 1) fu _ (by omega) (by omega)
        · rw [cI_of (inR_spanN (Or.inr (i32_nle.mp q2)) h), if_pos rfl, if_neg q, if_neg q2]
    show s_X14_cell_20_b (s_X14_cell_20 fu) 104 x y z c (jI i) h = _
    unfold s_X14_cell_20_b
    rw [l1, Option.bind_some, l2, Option.bind_some, l3', Option.bind_some, if_neg (fun z => by have := (jI_le (by omega) (by omega)).mp z; omega)]
    have hi3 : i = 0 ∨ i = 1 ∨ i = 2 := by omega
    rcases hi3 with rfl | rfl | rfl
    · rw [if_pos (show jI 0 = 0 from rfl)]
      exact key x rfl
    · rw [if_neg (show ¬ jI 1 = 0 by decide), if_pos (show jI 1 = 1 from rfl)]
      exact key y rfl
    · rw [if_neg (show ¬ jI 2 = 0 by decide), if_neg (show ¬ jI 2 = 1 by decide)]
      exact key z rfl
theorem call_cell (x y z : Int32) : cOK (fun h => wC 0 0 (s_X11_cell 0 x y z h)) (s_X14_cell 104 x y z) := by
  refine cOK.of (fun γ _ => ⟨-1, γ, cN1.same fun h S V Z D Ln K => ?_, rN1.same fun h h1 R e1 R1 => ?_⟩) fun γ τ og ot lt => ⟨fun a => a = cgR (uA τ) (xyz x y z) 0 (uM τ 0) 0, γ, τ, one_x, ?_, rT1.same fun h h1 t2 S wd t f nv V Z B W G e1 R1 => ?_⟩
  · apply wC_of
    unfold s_X11_cell
    rw [K.g2, Option.bind_some, if_pos rfl]
  · unfold s_X14_cell
    rw [e1, Option.bind_some, R1.tw, Option.bind_some]
  · intro h S V Z D Ln N K
    have g6 : gO h (.ref 0) 11 6 = some 2 := gO_of (ltE (by decide)) (K.1.1.1 0 rfl) rfl
    obtain ⟨h1, e1, X1, O1⟩ := K.1.1.st (a := 2) (j := 0) rfl (by decide) x
    have g6' : gO h1 (.ref 0) 11 6 = some 2 := gO_of (ltE (by decide)) (X1.1 0 rfl) rfl
    obtain ⟨h2, e2, X2, O2⟩ := X1.st (a := 2) (j := 1) rfl (by decide) y
    have g6'' : gO h2 (.ref 0) 11 6 = some 2 := gO_of (ltE (by decide)) (X2.1 0 rfl) rfl
    obtain ⟨h3, e3, X3, O3⟩ := X2.st (a := 2) (j := 2) rfl (by decide) z
    simp only [upd2_2, upd2_eq] at X3
    have O := (O1.trans O2).trans O3
    have K3 := K.scr X3 O (Sm.refl.upd (by decide))
    have g6e : gO h3 (.ref 0) 11 6 = some 2 := gO_of (ltE (by decide)) (X3.1 0 rfl) rfl
    have C3 := K3.2.2.1
    have r9 := C3.r9 (a := 2) rfl rfl
    have ce := cellOf_at C3.2.1 C3.2.2.1.1 r9.2.1 r9.1
    have e1' : stI h (.ref 2) 0 x = some h1 := e1
    have e2' : stI h1 (.ref 2) 1 y = some h2 := e2
    have e3' : stI h2 (.ref 2) 2 z = some h3 := e3
    have l := K.lim
    have C := K.2.2.1
    have cgc : cellGo (uA τ) (upd2 V 2 (upd (upd (upd (V 2) 0 x) 1 y) 2 z) 2) 0 (uM τ 0) 0 = cellGo (uA τ) (xyz x y z) 0 (uM τ 0) 0 := cellGo_congr _ _ _ (fun k _ hk => by
      have m0 := l.2.2.2.1.1
      rw [upd2_eq]
      have : k = 0 ∨ k = 1 ∨ k = 2 := by omega
      rcases this with rfl | rfl | rfl <;> rfl)
    rw [cgc] at ce
    have one := cg_one (A := uA τ) (f := xyz x y z) (n := uM τ 0) (fun k hk => C.2.2.1.2.2.1 k (Or.inl hk)) (by rw [← C.2.2.2.1.1]; exact l.1)
    refine ⟨_, h3, 0, 0, one, ?_, S, _, Z, D, Ln, K3, Oa.of O, Gr.refl, Ct.z⟩
    apply wC_of
    unfold s_X11_cell
    rw [K.g2, Option.bind_some, if_neg (by decide), g6, Option.bind_some, e1', Option.bind_some, g6', Option.bind_some, e2', Option.bind_some, g6'', Option.bind_some, e3', Option.bind_some, K3.g7, Option.bind_some, g6e, Option.bind_some, C3.kO3, cI_of ce]
    by_cases q : 0 ≤ cellGo (uA τ) (xyz x y z) 0 (uM τ 0) 0
    · rw [if_pos q, if_pos q]
    · rw [if_neg q, if_neg q]
  · have e2 := cell20_go R1 x y z (uM τ 0) 0 FU 0 (Nat.zero_add _) (by have := lt.2.2.2.1.1; unfold FU; omega)
    have e2' : s_X14_cell_20 FU 104 x y z 0 0 h1 = _ := e2
    unfold s_X14_cell
    rw [e1, Option.bind_some, R1.g4, Option.bind_some]
    dsimp only
    rw [e2']
theorem call_state (x i : Int32) : cOK (fun h => wC 0 0 (s_X11_state 0 x i h)) (s_X14_state 104 x i) := by
  refine cOK.of (fun γ _ => ⟨-2147483648, γ, cN1.same fun h S V Z D Ln K => ?_, rN1.same fun h h1 R e1 R1 => ?_⟩) fun γ τ og ot lt => ?_
  · apply wC_of
    unfold s_X11_state
    rw [K.k0, cI_of (hasCell_N K x), if_pos rfl]
    rfl
  · unfold s_X14_state
    rw [e1, Option.bind_some, R1.k0, cI_of (isCell_N R1 x), if_pos rfl]
    rfl
  · have m0 := lt.2.2.2.1.1
    rcases in_or x (show uF τ 12 < 2147483648 by omega) with ⟨c, hc, rfl⟩ | q
    · rcases in_or i (show uM τ 0 < 2147483648 by omega) with ⟨s, hs, rfl⟩ | q2
      · refine ⟨fun a => a = sprGo (uA τ) 0 0 (uM τ 0) (jI c) zV s, γ, τ, one_x, ?_, rT1.th fun h h1 t2 S wd t f nv V Z B W G e1 R1 => ?_⟩
        · intro h S V Z D Ln N K
          obtain ⟨h2, e2, C2, O2⟩ := K.2.2.1.spr (a := 2) rfl rfl (k := 0) (by decide) (jI c)
          have K2 := K.scr C2.1 O2 (Sm.refl.upd (by decide))
          have l0 : ldI .int h (.ref 4) 0 = some (jI (uM τ 0)) := K.ldm (k := 0) (by decide)
          have g6 : gO h (.ref 0) 11 6 = some 2 := gO_of (ltE (by decide)) (K.1.1.1 0 rfl) rfl
          have g6' : gO h2 (.ref 0) 11 6 = some 2 := gO_of (ltE (by decide)) (C2.1.1 0 rfl) rfl
          have bs : ldI .int h2 (.ref (aE + 1)) 0 = some 0 := BASE_of (j := 0) (by decide)
          have lv : ldI .int h2 (.ref 2) (jI s) = some (upd2 V 2 (sprGo (uA τ) 0 (baseN 0) (uM τ 0) (jI c) (V 2)) 2 s) := C2.1.ld rfl (show s < 9 by omega)
          rw [upd2_eq, show baseN 0 = 0 from rfl, spr_in (uA τ) 0 0 (uM τ 0) (jI c) (V 2) zV s (Nat.zero_le _) (by omega)] at lv
          have e2' : s_X2_spread 3 0 (jI c) 0 2 h = some (.inl none, h2) := e2
          refine ⟨_, h2, 0, 0, rfl, ?_, S, _, Z, D, Ln, K2, Oa.of O2, Gr.refl, Ct.z⟩
          apply wC_of
          unfold s_X11_state
          rw [K.k0, cI_of (hasCell_in K hc), if_neg (by decide), if_neg (jI_neg (by omega)), K.g7, Option.bind_some, K.mn, Option.bind_some, l0, Option.bind_some, if_pos ((jI_lt (by omega) (by omega)).mpr hs), Option.bind_some, g6, Option.bind_some, K.2.2.1.kO3, cN_of e2', g6', Option.bind_some, bs, Option.bind_some, Int32.zero_add, lv, Option.bind_some]
        · obtain ⟨l1, l2, l3⟩ := R1.ldm (k := 0) (by decide)
          have l3' : ldI .int h1 (.ref (t + 1)) 0 = some (jI (uM τ 0)) := l3
          obtain ⟨h2, e2, C2, O2⟩ := R1.2.2.1.lays (jI c)
          have R2 := R1.scr C2 O2 (Sm.refl.upd (by decide)) SmZ.refl smS.refl
          have g29 : gO h2 (.ref 104) 14 29 = some 148 := gO_of (ltE (by decide)) C2.1.1 rfl
          have lv : ldI .int h2 (.ref 148) (jI s) = some (upd2 V 148 (sprGo (uA τ) 0 0 (uM τ 0) (jI c) (V 148)) 148 s) := C2.1.ld (a := 148) rfl (show s < 11 by omega)
          rw [upd2_eq, spr_in (uA τ) 0 0 (uM τ 0) (jI c) (V 148) zV s (Nat.zero_le _) (by omega)] at lv
          refine ⟨_, h2, rfl, ?_, R2.rt, Rf.ou O2⟩
          unfold s_X14_state
          rw [e1, Option.bind_some, R1.k0, cI_of (isCell_in R1 hc), if_neg (by decide), l1, Option.bind_some, l2, Option.bind_some, l3', Option.bind_some, cI_of (inR_in hs (by omega) h1), if_neg (by decide), R1.k0, cN_of e2, g29, Option.bind_some, lv, Option.bind_some]
      · refine ⟨fun a => a = -2147483648, γ, τ, one_x, cT1.same fun h S V Z D Ln N K => ?_, rT1.same fun h h1 t2 S wd t f nv V Z B W G e1 R1 => ?_⟩
        · have l0 : ldI .int h (.ref 4) 0 = some (jI (uM τ 0)) := K.ldm (k := 0) (by decide)
          apply wC_of
          unfold s_X11_state
          rw [K.k0, cI_of (hasCell_in K hc), if_neg (by decide)]
          by_cases z : i < 0
          · rw [if_pos z]
            rfl
          · rw [if_neg z, K.g7, Option.bind_some, K.mn, Option.bind_some, l0, Option.bind_some, if_neg (i32_nlt.mpr (q2.resolve_left z))]
            rfl
        · obtain ⟨l1, l2, l3⟩ := R1.ldm (k := 0) (by decide)
          have l3' : ldI .int h1 (.ref (t + 1)) 0 = some (jI (uM τ 0)) := l3
          unfold s_X14_state
          rw [e1, Option.bind_some, R1.k0, cI_of (isCell_in R1 hc), if_neg (by decide), l1, Option.bind_some, l2, Option.bind_some, l3', Option.bind_some, cI_of (inR_out q2 (by omega) h1), if_pos rfl]
          rfl
    · refine ⟨fun a => a = -2147483648, γ, τ, one_x, cT1.same fun h S V Z D Ln N K => ?_, rT1.same fun h h1 t2 S wd t f nv V Z B W G e1 R1 => ?_⟩
      · apply wC_of
        unfold s_X11_state
        rw [K.k0, cI_of (hasCell_out K q), if_pos rfl]
        rfl
      · unfold s_X14_state
        rw [e1, Option.bind_some, R1.k0, cI_of (isCell_out R1 q), if_pos rfl]
        rfl
theorem call_push (x i : Int32) : cOK (fun h => wC 0 0 (s_X11_push 0 x i h)) (s_X14_push 104 x i) := by
  refine cOK.of (fun γ _ => ⟨-2147483648, γ, cN1.same fun h S V Z D Ln K => ?_, rN1.same fun h h1 R e1 R1 => ?_⟩) fun γ τ og ot lt => ?_
  · apply wC_of
    unfold s_X11_push
    rw [K.k0, cI_of (hasPush_N K x), if_pos rfl]
    rfl
  · unfold s_X14_push
    rw [e1, Option.bind_some, R1.k0, cI_of (isPush_N R1 x), if_pos rfl]
    rfl
  · have m1 := lt.2.2.2.1.2.1
    rcases in_or x (show uF τ 13 < 2147483648 by omega) with ⟨c, hc, rfl⟩ | q
    · rcases in_or i (show uM τ 1 < 2147483648 by omega) with ⟨s, hs, rfl⟩ | q2
      · refine ⟨fun a => a = sprGo (uA τ) 0 3 (uM τ 1) (jI c) zV (3 + s), γ, τ, one_x, ?_, rT1.th fun h h1 t2 S wd t f nv V Z B W G e1 R1 => ?_⟩
        · intro h S V Z D Ln N K
          obtain ⟨h2, e2, C2, O2⟩ := K.2.2.1.spr (a := 2) rfl rfl (k := 1) (by decide) (jI c)
          have K2 := K.scr C2.1 O2 (Sm.refl.upd (by decide))
          have l0 : ldI .int h (.ref 4) 1 = some (jI (uM τ 1)) := K.ldm (k := 1) (by decide)
          have g6 : gO h (.ref 0) 11 6 = some 2 := gO_of (ltE (by decide)) (K.1.1.1 0 rfl) rfl
          have g6' : gO h2 (.ref 0) 11 6 = some 2 := gO_of (ltE (by decide)) (C2.1.1 0 rfl) rfl
          have bs : ldI .int h2 (.ref (aE + 1)) 1 = some (jI 3) := BASE_of (j := 1) (by decide)
          have lv : ldI .int h2 (.ref 2) (jI (3 + s)) = some (upd2 V 2 (sprGo (uA τ) 0 (baseN 1) (uM τ 1) (jI c) (V 2)) 2 (3 + s)) := C2.1.ld rfl (show 3 + s < 9 by omega)
          rw [upd2_eq, show baseN 1 = 3 from rfl, spr_in (uA τ) 0 3 (uM τ 1) (jI c) (V 2) zV (3 + s) (by omega) (by omega)] at lv
          have e2' : s_X2_spread 3 1 (jI c) 0 2 h = some (.inl none, h2) := e2
          refine ⟨_, h2, 0, 0, rfl, ?_, S, _, Z, D, Ln, K2, Oa.of O2, Gr.refl, Ct.z⟩
          apply wC_of
          unfold s_X11_push
          rw [K.k0, cI_of (hasPush_in K hc), if_neg (by decide), if_neg (jI_neg (by omega)), K.g7, Option.bind_some, K.mn, Option.bind_some, l0, Option.bind_some, if_pos ((jI_lt (by omega) (by omega)).mpr hs), Option.bind_some, g6, Option.bind_some, K.2.2.1.kO3, cN_of e2', g6', Option.bind_some, bs, Option.bind_some, jI_add, lv, Option.bind_some]
        · obtain ⟨l1, l2, l3⟩ := R1.ldm (k := 1) (by decide)
          have l3' : ldI .int h1 (.ref (t + 1)) 1 = some (jI (uM τ 1)) := l3
          obtain ⟨h2, e2, C2, O2⟩ := R1.2.2.1.pushed (jI c)
          have R2 := R1.scr C2 O2 (Sm.refl.upd (by decide)) SmZ.refl smS.refl
          have g29 : gO h2 (.ref 104) 14 29 = some 148 := gO_of (ltE (by decide)) C2.1.1 rfl
          have so : s_X14_slotOf 1 h2 = some (.inl (some (.int (jI 3))), h2) := slotOfR_at h2 1 (by decide)
          have lv : ldI .int h2 (.ref 148) (jI (3 + s)) = some (upd2 V 148 (sprGo (uA τ) 0 3 (uM τ 1) (jI c) (V 148)) 148 (3 + s)) := C2.1.ld (a := 148) rfl (show 3 + s < 11 by omega)
          rw [upd2_eq, spr_in (uA τ) 0 3 (uM τ 1) (jI c) (V 148) zV (3 + s) (by omega) (by omega)] at lv
          refine ⟨_, h2, rfl, ?_, R2.rt, Rf.ou O2⟩
          unfold s_X14_push
          rw [e1, Option.bind_some, R1.k0, cI_of (isPush_in R1 hc), if_neg (by decide), l1, Option.bind_some, l2, Option.bind_some, l3', Option.bind_some, cI_of (inR_in hs (by omega) h1), if_neg (by decide), R1.k0, cN_of e2, g29, Option.bind_some, cI_of so, jI_add, lv, Option.bind_some]
      · refine ⟨fun a => a = -2147483648, γ, τ, one_x, cT1.same fun h S V Z D Ln N K => ?_, rT1.same fun h h1 t2 S wd t f nv V Z B W G e1 R1 => ?_⟩
        · have l0 : ldI .int h (.ref 4) 1 = some (jI (uM τ 1)) := K.ldm (k := 1) (by decide)
          apply wC_of
          unfold s_X11_push
          rw [K.k0, cI_of (hasPush_in K hc), if_neg (by decide)]
          by_cases z : i < 0
          · rw [if_pos z]
            rfl
          · rw [if_neg z, K.g7, Option.bind_some, K.mn, Option.bind_some, l0, Option.bind_some, if_neg (i32_nlt.mpr (q2.resolve_left z))]
            rfl
        · obtain ⟨l1, l2, l3⟩ := R1.ldm (k := 1) (by decide)
          have l3' : ldI .int h1 (.ref (t + 1)) 1 = some (jI (uM τ 1)) := l3
          unfold s_X14_push
          rw [e1, Option.bind_some, R1.k0, cI_of (isPush_in R1 hc), if_neg (by decide), l1, Option.bind_some, l2, Option.bind_some, l3', Option.bind_some, cI_of (inR_out q2 (by omega) h1), if_pos rfl]
          rfl
    · refine ⟨fun a => a = -2147483648, γ, τ, one_x, cT1.same fun h S V Z D Ln N K => ?_, rT1.same fun h h1 t2 S wd t f nv V Z B W G e1 R1 => ?_⟩
      · apply wC_of
        unfold s_X11_push
        rw [K.k0, cI_of (hasPush_out K q), if_pos rfl]
        rfl
      · unfold s_X14_push
        rw [e1, Option.bind_some, R1.k0, cI_of (isPush_out R1 q), if_pos rfl]
        rfl
