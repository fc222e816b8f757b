/-! calls: proved, breaks, claim, anew, code -/
theorem fbG_is {st : Nat → Bool} {cl : Nat → Int32} : ∀ (n c : Nat), fbG st cl c n = -2 ∨ ∃ d, d < c + n ∧ fbG st cl c n = jI d
  | 0, _ => Or.inl rfl
  | n + 1, c => by
    unfold fbG
    have ih := fbG_is (st := st) (cl := cl) n (c + 1)
    have ih' : fbG st cl (c + 1) n = -2 ∨ ∃ d, d < c + (n + 1) ∧ fbG st cl (c + 1) n = jI d := by
      rcases ih with z | ⟨d, z1, z2⟩
      · exact Or.inl z
      · exact Or.inr ⟨d, by omega, z2⟩
    split
    · exact ih'
    · split
      · exact ih'
      · exact Or.inr ⟨c, by omega, rfl⟩
def fbS (τ : tSt) : Int32 := fbG (stB (ldV (uA τ) (uM τ) (uF τ)) (uF τ 13) (uF τ 14) (uG τ) (uL τ) (uQ τ)) (uQ τ) 0 (uF τ 12)
section
variable {h : aH} {S V : Nat → Nat → Int32} {Z : Nat → Nat → Int64} {D Ln : Nat → Nat} {b : Nat} {N : Nat → Int64} {γ : gSt} {τ : tSt}
theorem KT.firstBreak (K : KT h S V Z D Ln b N γ τ) (mv : okMv V (uA τ) (uM τ) (uF τ)) (ln : lenMv Ln (uF τ)) : s_X5_firstBreak 99 h = some (.inl (some (.int (fbS τ))), h) := by
  obtain ⟨kg, k02, C, kD, ok, ⟨kw, km, kr, ks, km5⟩, kp, kl, ka, kc, kq⟩ := K
  have l := C.2.2.2.1.2.2.2.2.1
  have e := fb2_go C mv ln kw.1 kw.2.1 kq.1 ok.2.2.2.2.2.1 (uF τ 12) 0 FU (Nat.zero_add _) (by unfold FU; omega)
  exact e
theorem KT.isClaimed (K : KT h S V Z D Ln b N γ τ) {c : Nat} (hc : c < uF τ 12) : s_X5_isClaimed 99 (jI c) h = some (.inl (some (.int (b01 (decide (uQ τ c ≠ -1))))), h) := by
  obtain ⟨kg, k02, C, kD, ok, -, kp, kl, ka, kc, kq⟩ := K
  have l := C.2.2.2.1.2.2.2.2.1
  have g9 : gO h (.ref 99) 5 9 = some 102 := gO_of (ltE (by decide)) (kg.1.1 99 rfl) rfl
  have l9 : ldI .int h (.ref 102) (jI c) = some (V 102 c) := kg.1.ld rfl (show c < 400 by omega)
  rw [kq.1 c hc] at l9
  unfold s_X5_isClaimed
  rw [g9, Option.bind_some, l9, Option.bind_some]
  rcases ok.2.2.2.2.2.1 c hc with z | z
  · rw [z, if_pos (by decide)]
    rfl
  · have ne : uQ τ c ≠ -1 := fun e => by rw [e] at z; exact absurd z (by decide)
    rw [if_neg (i32_nlt.mpr z), decide_eq_true ne]
    rfl
end
section
variable {h : aH} {t2 : Nat} {γ : gSt} {τ : tSt} {S : Nat → Int32} {wd : Int64} {t f : Nat} {nv : Value} {V : Nat → Nat → Int32} {Z : Nat → Nat → Int64} {B : Nat → Nat → Int32} {W : Nat → Int64} {G : Nat → Nat}
theorem RTx.firstBreak (R : RTx h t2 γ τ S wd t f nv V Z B W G) : s_X14_firstBreak 104 h = some (.inl (some (.int (fbS τ))), h) := by
  have l := R.lim
  obtain ⟨g, tp, C, fr, d, ld, gd, gl, cs, f1, f2, k1, k2, tr, cl, cn, cd⟩ := R
  exact fbR_go C ld gd gl cl (uF τ 12) 0 FU (Nat.zero_add _) (by unfold FU; omega)
end
theorem call_breaks : cOK (s_X11_breaks 0) (s_X14_breaks 104) := by
  refine cOK.of (fun γ _ => ⟨-1, qTw γ 1, cN1.ref fun h h1 S V Z D Ln K e1 => ?_, rN1.ref fun h h1 h2 R e1 R1 e2 => ?_⟩) fun γ τ og ot lt => ⟨fun a => a = fbS τ, qTw γ 0, τ, one_x, ?_, rT1.th fun h h1 t2 S wd t f nv V Z B W G e1 R1 => ?_⟩
  · unfold s_X11_breaks
    rw [K.g2, Option.bind_some, if_pos rfl, K.k0, cI_of (refuse1 e1)]
    rfl
  · unfold s_X14_breaks
    rw [e1, Option.bind_some, R1.tw, Option.bind_some]
    dsimp only
    rw [R1.k0, cI_of e2]
  · intro h S V Z D Ln N K
    obtain ⟨h1, e1, K1, O1⟩ := K.tw (w := 0) (by decide)
    obtain ⟨h2, S2, V2, D2, L2, n, y, e2, K2, mv, ln, O2, G2, ct⟩ := K1.fill
    have g11 : gO h1 (.ref 0) 11 11 = some 56 := gO_of (ltE (by decide)) (K1.1.1.1 0 rfl) rfl
    have g17 : gO h2 (.ref 0) 11 17 = some 99 := gO_of (ltE (by decide)) (K2.1.1.1 0 rfl) rfl
    refine ⟨_, h2, 0 + n, 0 + y, rfl, ?_, S2, V2, Z, D2, L2, K2, Oa.of (O1.trans O2), G2.pre O1.1, ct.cat0⟩
    unfold s_X11_breaks
    rw [K.g2, Option.bind_some, if_neg (by decide), e1, Option.bind_some, g11, Option.bind_some, kO_of (ltE (by decide)) (K1.1.1.1 56 rfl), dN_of e2, g17, Option.bind_some, kO_of (ltE (by decide)) (K2.1.1.1 99 rfl), cI_of (K2.firstBreak mv ln)]
    exact ckw rfl
  · obtain ⟨h3, S3, e3, R3, O3⟩ := R1.done (fbS τ)
    refine ⟨_, h3, rfl, ?_, R3.rt, Rf.ou O3⟩
    unfold s_X14_breaks
    rw [e1, Option.bind_some, R1.g4, Option.bind_some]
    dsimp only
    rw [R1.k0, cI_of R1.firstBreak, R1.k0, cI_of e3]
theorem call_proved (x : Int32) : cOK (s_X11_proved 0 x) (s_X14_proved 104 x) := by
  refine cOK.of (fun γ _ => ⟨-1, qTw γ 1, cN1.ref fun h h1 S V Z D Ln K e1 => ?_, rN1.ref fun h h1 h2 R e1 R1 e2 => ?_⟩) fun γ τ og ot lt => ?_
  · unfold s_X11_proved
    rw [K.k0, cI_of (hasCell_N K x), if_pos rfl, K.k0, cI_of (refuse1 e1)]
    rfl
  · unfold s_X14_proved
    rw [e1, Option.bind_some, R1.k0, cI_of (isCell_N R1 x), if_pos rfl, R1.k0, cI_of e2]
  · rcases in_or x (show uF τ 12 < 2147483648 by omega) with ⟨c, hc, rfl⟩ | q
    · refine ⟨fun a => a = b01 (decide (uQ τ c ≠ -1) && decide (fbS τ = -2)), qTw γ 0, τ, one_x, ?_, rT1.th fun h h1 t2 S wd t f nv V Z B W G e1 R1 => ?_⟩
      · intro h S V Z D Ln N K
        obtain ⟨h1, e1, K1, O1⟩ := K.tw (w := 0) (by decide)
        obtain ⟨h2, S2, V2, D2, L2, n, y, e2, K2, mv, ln, O2, G2, ct⟩ := K1.fill
        have g11 : gO h1 (.ref 0) 11 11 = some 56 := gO_of (ltE (by decide)) (K1.1.1.1 0 rfl) rfl
        have g17 : gO h2 (.ref 0) 11 17 = some 99 := gO_of (ltE (by decide)) (K2.1.1.1 0 rfl) rfl
        have ic := K2.isClaimed hc
        refine ⟨_, h2, 0 + n, 0 + y, rfl, ?_, S2, V2, Z, D2, L2, K2, Oa.of (O1.trans O2), G2.pre O1.1, ct.cat0⟩
        unfold s_X11_proved
        rw [K.k0, cI_of (hasCell_in K hc), if_neg (by decide), e1, Option.bind_some, g11, Option.bind_some, kO_of (ltE (by decide)) (K1.1.1.1 56 rfl), dN_of e2, g17, Option.bind_some, kO_of (ltE (by decide)) (K2.1.1.1 99 rfl), cI_of ic]
        by_cases u : uQ τ c = -1
        · rw [decide_eq_false (fun z => z u), if_pos (by decide), ckw rfl, ck_of (Nat.zero_le _) (Nat.zero_le _)]
          rfl
        · rw [decide_eq_true u, if_neg (by decide), g17, Option.bind_some, kO_of (ltE (by decide)) (K2.1.1.1 99 rfl), cI_of (K2.firstBreak mv ln)]
          rcases fbG_is (st := stB (ldV (uA τ) (uM τ) (uF τ)) (uF τ 13) (uF τ 14) (uG τ) (uL τ) (uQ τ)) (cl := uQ τ) (uF τ 12) 0 with z | ⟨d, z1, z2⟩
          · have z' : fbS τ = -2 := z
            rw [z', if_neg (by decide), ckw rfl, ck_of (Nat.zero_le _) (Nat.zero_le _)]
            rfl
          · have z' : fbS τ = jI d := z2
            have ne : ¬ jI d = -2 := jI_m2 (by omega)
            rw [z', if_pos (i32_nlt.mp (jI_neg (by omega))), decide_eq_false ne, ckw rfl, ck_of (Nat.zero_le _) (Nat.zero_le _)]
            rfl
      · obtain ⟨g, tp, C, fr, d, ld, gd, gl, cs, f1, f2, k1, k2, tr, cl, cn, cd⟩ := id R1
        have g31 : gO h1 (.ref 104) 14 31 = some 150 := gO_of (ltE (by decide)) R1.1.1.1 rfl
        have l : ldI .int h1 (.ref 150) (jI c) = some (V 150 c) := R1.1.1.ld (a := 150) rfl (show c < 400 by omega)
        rw [cl c hc] at l
        obtain ⟨h3, S3, e3, R3, O3⟩ := R1.done (b01 (decide (uQ τ c ≠ -1) && decide (fbS τ = -2)))
        refine ⟨_, h3, rfl, ?_, R3.rt, Rf.ou O3⟩
        unfold s_X14_proved
        rw [e1, Option.bind_some, R1.k0, cI_of (isCell_in R1 hc), if_neg (by decide), g31, Option.bind_some, l, Option.bind_some]
        by_cases u : uQ τ c = -1
        · rw [decide_eq_false (fun z => z u)] at e3 ⊢
          rw [if_pos u]
          unfold s_X14_proved_43 s_X14_proved_44
          have e3' : s_X14_done 104 0 h1 = _ := e3
          rw [R1.k0, cI_of e3']
        · rw [decide_eq_true u] at e3 ⊢
          rw [if_neg u, R1.k0, cI_of R1.firstBreak]
          by_cases z : fbS τ = -2
          · rw [decide_eq_true z] at e3 ⊢
            rw [if_pos z]
            unfold s_X14_proved_44
            have e3' : s_X14_done 104 1 h1 = _ := e3
            rw [R1.k0, cI_of e3']
          · rw [decide_eq_false z] at e3 ⊢
            rw [if_neg z]
            unfold s_X14_proved_43 s_X14_proved_44
            have e3' : s_X14_done 104 0 h1 = _ := e3
            rw [R1.k0, cI_of e3']
    · refine ⟨fun a => a = -1, qTw γ 1, τ, one_x, cT1.ref (by decide) fun h h1 S V Z D Ln N K e1 => ?_, rT1.ref (w := 1) fun h h1 h2 t2 S wd t f nv V Z B W G e1 R1 e2 => ?_⟩
      · unfold s_X11_proved
        rw [K.k0, cI_of (hasCell_out K q), if_pos rfl, K.k0, cI_of (refuse1 e1)]
        rfl
      · unfold s_X14_proved
        rw [e1, Option.bind_some, R1.k0, cI_of (isCell_out R1 q), if_pos rfl, R1.k0, cI_of e2]
/-! what changes the run's state -/
def uSetK (τ : tSt) (k : Nat) (pp ta tv : Nat → Int32) : tSt := (uA τ, uF τ, uS τ, uG τ, uL τ, uC τ, (k, pp, ta, tv), uQ τ, uN τ, uD τ, uB τ, uH τ)
def uSetQ (τ : tSt) (cl : Nat → Int32) (cn : Int32) : tSt := (uA τ, uF τ, uS τ, uG τ, uL τ, uC τ, (uK τ, uP τ, uT τ, uV τ), cl, cn, uD τ, uB τ, uH τ)
def uSetD (τ : tSt) (cd : Nat → Int32) (bi sh : Int32) : tSt := (uA τ, uF τ, uS τ, uG τ, uL τ, uC τ, (uK τ, uP τ, uT τ, uV τ), uQ τ, uN τ, cd, bi, sh)
def uSetG (τ : tSt) (g : Nat → Bool) : tSt := (uA τ, uF τ, uS τ, g, uL τ, uC τ, (uK τ, uP τ, uT τ, uV τ), uQ τ, uN τ, uD τ, uB τ, uH τ)
def uSetL (τ : tSt) (g : Nat → Bool) : tSt := (uA τ, uF τ, uS τ, uG τ, g, uC τ, (uK τ, uP τ, uT τ, uV τ), uQ τ, uN τ, uD τ, uB τ, uH τ)
def uSetC (τ : tSt) (cs : Nat → Nat → Int32) : tSt := (uA τ, uF τ, uS τ, uG τ, uL τ, cs, (uK τ, uP τ, uT τ, uV τ), uQ τ, uN τ, uD τ, uB τ, uH τ)
/-- the claims' change -/
def clX (τ : tSt) (c : Nat) (x : Int32) : Int32 := uN τ + ((if x = -1 then 0 else 1) - (if uQ τ c = -1 then 0 else 1))
theorem neg1_or {x : Int32} (h1 : -1 ≤ x) : (x = -1 ∧ ¬ 0 ≤ x) ∨ (x ≠ -1 ∧ 0 ≤ x) := by
  by_cases q : x = -1
  · exact Or.inl ⟨q, by rw [q]; decide⟩
  · refine Or.inr ⟨q, Int32.le_iff_toInt_le.mpr ?_⟩
    have a := Int32.le_iff_toInt_le.mp h1
    have e : (-1 : Int32).toInt = -1 := by decide
    have e0 : (0 : Int32).toInt = 0 := by decide
    have n : x.toInt ≠ -1 := fun z => q (Int32.toInt_inj.mp (by rw [z, e]))
    omega
section
variable {h : aH} {S V : Nat → Nat → Int32} {Z : Nat → Nat → Int64} {D Ln : Nat → Nat} {b : Nat} {N : Nat → Int64} {γ : gSt} {τ : tSt}
theorem KT.setClaim (K : KT h S V Z D Ln b N γ τ) {c : Nat} (hc : c < uF τ 12) {x : Int32} (h1 : -1 ≤ x) : ∃ h' S' V', s_X5_setClaim 99 (jI c) x h = some (.inl none, h') ∧ KT h' S' V' Z D Ln b N γ (uSetQ τ (upd (uQ τ) c x) (clX τ c x)) ∧ Oc D h h' := by
  obtain ⟨kg, k02, C, kD, ok, ⟨kw, km, kr, ks, km5⟩, kp, kl, ka, kc, kq⟩ := K
  have l := C.2.2.2.1.2.2.2.2.1
  have g8 : gI h (.ref 99) 5 8 = some (S 99 8) := gI_of (ltE (by decide)) (kg.1.1 99 rfl) rfl
  have g9 : gO h (.ref 99) 5 9 = some 102 := gO_of (ltE (by decide)) (kg.1.1 99 rfl) rfl
  have l9 : ldI .int h (.ref 102) (jI c) = some (V 102 c) := kg.1.ld rfl (show c < 400 by omega)
  rw [kq.1 c hc] at l9
  rw [kq.2] at g8
  obtain ⟨h2, e2, X2, O2⟩ := kg.1.pn (a := 99) (ci := 5) (k := 8) (x := clX τ c x) rfl rfl (Nat.le_of_ble_eq_true rfl) rfl rfl
  have g9' : gO h2 (.ref 99) 5 9 = some 102 := gO_of (ltE (by decide)) (X2.1 99 rfl) rfl
  obtain ⟨h3, e3, X3, O3⟩ := X2.st (a := 102) (j := c) rfl (show c < 400 by omega) x
  have O := O2.trans O3
  have C' := C.to X3 O rfl
  have key : ∀ u v : Int32, (if x = -1 then 0 else 1) = u → (if uQ τ c = -1 then 0 else 1) = v → s_X5_setClaim_28 99 (jI c) x v u (uN τ) 99 h = some (.inl none, h3) := fun u v e1 e0 => by
    unfold s_X5_setClaim_28
    rw [show uN τ + (u - v) = clX τ c x by unfold clX; rw [e1, e0], e2, Option.bind_some, g9', Option.bind_some, e3, Option.bind_some]
  have key2 : ∀ u : Int32, (if x = -1 then 0 else 1) = u → s_X5_setClaim_14 99 (jI c) x u (uN τ) 99 h = some (.inl none, h3) := fun u e1 => by
    unfold s_X5_setClaim_14
    rw [g9, Option.bind_some, l9, Option.bind_some]
    rcases ok.2.2.2.2.2.1 c hc with z | z
    · rw [if_neg (by rw [z]; decide)]
      exact key u 0 e1 (if_pos z)
    · rw [if_pos z]
      exact key u 1 e1 (if_neg (fun e => by rw [e] at z; exact absurd z (by decide)))
  refine ⟨h3, _, _, ?_, ⟨kg.t X3 (kg.2.1.oc kg.1 O) rfl rfl rfl rfl rfl, k02, C', kD, ?_, ⟨kw.t rfl rfl rfl rfl rfl, km.t rfl rfl rfl rfl rfl, kr.t rfl rfl rfl, ks.t rfl rfl rfl rfl, km5.t rfl rfl⟩, kp.t rfl rfl rfl rfl rfl, kl.t rfl rfl rfl rfl rfl rfl, ka.t rfl rfl rfl rfl rfl rfl rfl, kc.t rfl rfl rfl, ?_⟩, O⟩
  · unfold s_X5_setClaim
    rw [g8, Option.bind_some]
    rcases neg1_or h1 with ⟨q1, q2⟩ | ⟨q1, q2⟩
    · rw [if_neg q2]
      exact key2 0 (if_pos q1)
    · rw [if_pos q2]
      exact key2 1 (if_neg q1)
  · obtain ⟨o1, o2, o3, o4, o5, o6, o7⟩ := ok
    refine ⟨o1, o2, o3, o4, o5, fun d hd => ?_, o7⟩
    show upd (uQ τ) c x d = -1 ∨ 0 ≤ upd (uQ τ) c x d
    by_cases u : d = c
    · rw [u, upd_eq]
      rcases neg1_or h1 with ⟨q1, -⟩ | ⟨-, q2⟩
      · exact Or.inl q1
      · exact Or.inr q2
    · rw [upd_ne u]
      exact o6 d hd
  · refine ⟨fun d hd => ?_, rfl⟩
    show upd2 V 102 (upd (V 102) c x) 102 d = upd (uQ τ) c x d
    rw [upd2_eq]
    by_cases u : d = c
    · rw [u, upd_eq, upd_eq]
    · rw [upd_ne u, upd_ne u]
      exact kq.1 d hd
end
