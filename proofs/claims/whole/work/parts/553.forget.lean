section
variable {h : aH} {S : Nat → Nat → Int32} {V : Nat → Nat → Int32} {Z : Nat → Nat → Int64} {D Ln : Nat → Nat} {b : Nat}
theorem CW.pn (X : CW h S V Z D Ln b) {a ci k : Nat} {x : Int32} (ha : obC a = true) (hc : (oF S D a).1 = ci) (hk : k < (oF S D a).2.length) (ef : (oF S D a).2.set k (.int x) = (oF (upd2 S a (upd (S a) k x)) D a).2) (ec : (oF (upd2 S a (upd (S a) k x)) D a).1 = ci) :
    ∃ h', pF h (.ref a) ci k (.int x) = some h' ∧ CW h' (upd2 S a (upd (S a) k x)) V Z D Ln b ∧ Oc D h h' := by
  have r := X.obj (a := a) (g := upd (S a) k x) ha
  have e0 : h[a]? = some (.inr (ci, (oF S D a).2)) := by rw [X.1 a ha, ← hc]
  refine ⟨_, ?_, r.1, r.2⟩
  rw [pF_of (ltE (by have := (obC_lt ha).1; omega)) e0 hk, ef, ← ec]
theorem CW.pz (X : CW h S V Z D Ln b) {a ci k : Nat} {x : Int32} (hx : x = 0 ∨ x = 1) (ha : obC a = true) (hc : (oF S D a).1 = ci) (hk : k < (oF S D a).2.length) (ef : (oF S D a).2.set k (.int x) = (oF (upd2 S a (upd (S a) k x)) D a).2) (ec : (oF (upd2 S a (upd (S a) k x)) D a).1 = ci) :
    ∃ h', pZ h (.ref a) ci k x = some h' ∧ CW h' (upd2 S a (upd (S a) k x)) V Z D Ln b ∧ Oc D h h' := by
  obtain ⟨h', e, X', O⟩ := X.pn ha hc hk ef ec
  refine ⟨h', ?_, X', O⟩
  unfold pZ
  rw [if_pos hx]
  exact e
theorem RdW.oc {h' : aH} {fa pl at' wh per : Int32} {mo fo : Nat} (R : RdW h fa pl at' wh per mo fo) (X : CW h S V Z D Ln b) (O : Oc D h h') : RdW h' fa pl at' wh per mo fo := by
  unfold RdW at *
  have l := X.2.2.2.2.2.2.2.2.1
  rw [O.2 51 (by omega) (by decide) (fun i hi => (X.notD (by decide) (by decide) hi).symm)]
  exact R
theorem settled_at (X : CW h S V Z D Ln b) {fa pl at' wh per : Int32} {mo fo : Nat} (R : RdW h fa pl at' wh per mo fo) {q : Int32} (hq : q = 0 ∨ q = 1) :
    ∃ h', s_X11_settled 0 q h = some (.inl (some (.int q)), h') ∧ CW h' (upd2 S 0 (upd (upd (upd (upd (S 0) 1 0) 4 (if q = 0 then fa else 0)) 5 (if q = 0 then pl else -1)) 3 (if q = 0 then 4 else 0))) V Z D Ln b ∧ Oc D h h' := by
  obtain ⟨h1, e1, X1, O1⟩ := X.pn (a := 0) (ci := 11) (k := 1) (x := 0) rfl rfl (Nat.le_of_ble_eq_true rfl) rfl rfl
  have R1 := R.oc X O1
  obtain ⟨h2, e2, X2, O2⟩ := X1.pn (a := 0) (ci := 11) (k := 4) (x := if q = 0 then fa else 0) rfl rfl (Nat.le_of_ble_eq_true rfl) rfl rfl
  have R2 := R1.oc X1 O2
  obtain ⟨h3, e3, X3, O3⟩ := X2.pn (a := 0) (ci := 11) (k := 5) (x := if q = 0 then pl else -1) rfl rfl (Nat.le_of_ble_eq_true rfl) rfl rfl
  obtain ⟨h4, e4, X4, O4⟩ := X3.pn (a := 0) (ci := 11) (k := 3) (x := if q = 0 then 4 else 0) rfl rfl (Nat.le_of_ble_eq_true rfl) rfl rfl
  have g1 : gO h1 (.ref 0) 11 10 = some 51 := gO_of (ltE (by decide)) (X1.1 0 rfl) rfl
  have g2 : gO h2 (.ref 0) 11 10 = some 51 := gO_of (ltE (by decide)) (X2.1 0 rfl) rfl
  have r1 : gI h1 (.ref 51) 6 0 = some fa := gI_of (ltE (by decide)) R1 rfl
  have r2 : gI h2 (.ref 51) 6 1 = some pl := gI_of (ltE (by decide)) R2 rfl
  refine ⟨h4, ?_, ?_, ((O1.trans O2).trans O3).trans O4⟩
  · unfold s_X11_settled
    rw [e1, Option.bind_some]
    rcases hq with rfl | rfl
    · rw [if_pos rfl] at e2 e3 e4
      rw [if_pos rfl, g1, Option.bind_some, r1, Option.bind_some]
      unfold s_X11_settled_21
      rw [e2, Option.bind_some, if_pos rfl, g2, Option.bind_some, r2, Option.bind_some]
      unfold s_X11_settled_40
      rw [e3, Option.bind_some, if_pos rfl]
      unfold s_X11_settled_53
      rw [e4, Option.bind_some]
      rfl
    · have n : ¬ (1 : Int32) = 0 := by decide
      rw [if_neg n] at e2 e3 e4
      rw [if_neg n]
      unfold s_X11_settled_21
      rw [e2, Option.bind_some, if_neg n]
      unfold s_X11_settled_40
      rw [e3, Option.bind_some, if_neg n]
      unfold s_X11_settled_53
      rw [e4, Option.bind_some]
      rfl
  · simp only [upd2_2, upd2_eq] at X4
    exact X4
theorem forget1_at (X : CW h S V Z D Ln b) : ∃ h', s_X1_forget 81 h = some (.inl none, h') ∧ CW h' (upd2 S 81 (upd (S 81) 1 0)) V Z D Ln b ∧ Oc D h h' := by
  obtain ⟨h1, e1, X1, O1⟩ := X.pz (a := 81) (ci := 1) (k := 1) (x := 0) (Or.inl rfl) rfl rfl (Nat.le_of_ble_eq_true rfl) rfl rfl
  refine ⟨h1, ?_, X1, O1⟩
  unfold s_X1_forget
  rw [e1, Option.bind_some]
theorem forget4_at (X : CW h S V Z D Ln b) : ∃ h', s_X4_forget 78 h = some (.inl none, h') ∧ CW h' (upd2 S 78 (upd (S 78) 3 (-1))) V Z D Ln b ∧ Oc D h h' := by
  obtain ⟨h1, e1, X1, O1⟩ := X.pn (a := 78) (ci := 4) (k := 3) (x := -1) rfl rfl (Nat.le_of_ble_eq_true rfl) rfl rfl
  refine ⟨h1, ?_, X1, O1⟩
  unfold s_X4_forget
  rw [e1, Option.bind_some]
theorem forget7_at (X : CW h S V Z D Ln b) : ∃ h', s_X7_forget 69 h = some (.inl none, h') ∧ CW h' (upd2 S 69 (upd (upd (S 69) 4 0) 5 0)) V Z D Ln b ∧ Oc D h h' := by
  obtain ⟨h1, e1, X1, O1⟩ := X.pz (a := 69) (ci := 7) (k := 4) (x := 0) (Or.inl rfl) rfl rfl (Nat.le_of_ble_eq_true rfl) rfl rfl
  obtain ⟨h2, e2, X2, O2⟩ := X1.pz (a := 69) (ci := 7) (k := 5) (x := 0) (Or.inl rfl) rfl rfl (Nat.le_of_ble_eq_true rfl) rfl rfl
  simp only [upd2_2, upd2_eq] at X2
  refine ⟨h2, ?_, X2, O1.trans O2⟩
  unfold s_X7_forget
  rw [e1, Option.bind_some, e2, Option.bind_some]
theorem CW.fill (X : CW h S V Z D Ln b) {a n : Nat} (hin : inC a = true) (hln : lnC a = n) (x : Int32) : ∃ h', s_J7_fill_53178 a x h = some (.inl none, h') ∧ CW h' S (upd2 V a (filF (V a) 0 n x)) Z D Ln b ∧ Oc D h h' := by
  have hrow := X.2.1 a hin
  have hle := lnC_le a
  rw [hln] at hrow hle
  have e1 := fill_at (x := x) (ltE (by have := (inC_lt hin).1; omega)) (show n < 1000000 by omega) hrow
  have r1 := X.row (a := a) (g := filF (V a) 0 n x) hin
  rw [hln] at r1
  exact ⟨_, e1, r1.1, r1.2⟩
theorem renew9_at (X : CW h S V Z D Ln b) : ∃ h', s_X9_renew 92 h = some (.inl none, h') ∧ CW h' (upd2 S 92 (upd (S 92) 4 0)) (upd2 (upd2 V 96 (filF (V 96) 0 62 (-1))) 98 (filF (V 98) 0 6 (-1))) Z D Ln b ∧ Oc D h h' := by
  obtain ⟨h1, e1, X1, O1⟩ := X.pn (a := 92) (ci := 9) (k := 4) (x := 0) rfl rfl (Nat.le_of_ble_eq_true rfl) rfl rfl
  have g1 : gO h1 (.ref 92) 9 7 = some 96 := gO_of (ltE (by decide)) (X1.1 92 rfl) rfl
  obtain ⟨h2, e2, X2, O2⟩ := X1.fill (a := 96) (n := 62) rfl rfl (-1)
  have g2 : gO h2 (.ref 92) 9 9 = some 98 := gO_of (ltE (by decide)) (X2.1 92 rfl) rfl
  have k2 : ∀ {β : Type} {y : Option β}, kO h2 92 9 y = y := kO_of (ltE (by decide)) (X2.1 92 rfl)
  obtain ⟨h3, e3, X3, O3⟩ := X2.fill (a := 98) (n := 6) rfl rfl (-1)
  have e4 : s_X9_forget 92 h2 = some (.inl none, h3) := by
    unfold s_X9_forget
    rw [g2, Option.bind_some, cN_of e3]
  refine ⟨h3, ?_, X3, (O1.trans O2).trans O3⟩
  unfold s_X9_renew
  rw [e1, Option.bind_some, g1, Option.bind_some, cN_of e2, k2, cN_of e4]
theorem setCode_at (X : CW h S V Z D Ln b) (c0 c1 c2 bi sh : Int32) : ∃ h', s_X5_setCode 99 c0 c1 c2 bi sh h = some (.inl none, h') ∧ CW h' (upd2 S 99 (upd (upd (S 99) 6 bi) 7 sh)) (upd2 V 101 (upd (upd (upd (V 101) 0 c0) 1 c1) 2 c2)) Z D Ln b ∧ Oc D h h' := by
  have g0 : gO h (.ref 99) 5 5 = some 101 := gO_of (ltE (by decide)) (X.1 99 rfl) rfl
  obtain ⟨h1, e1, X1, O1⟩ := X.st (a := 101) (j := 0) rfl (by decide) c0
  have g1 : gO h1 (.ref 99) 5 5 = some 101 := gO_of (ltE (by decide)) (X1.1 99 rfl) rfl
  obtain ⟨h2, e2, X2, O2⟩ := X1.st (a := 101) (j := 1) rfl (by decide) c1
  have g2 : gO h2 (.ref 99) 5 5 = some 101 := gO_of (ltE (by decide)) (X2.1 99 rfl) rfl
  obtain ⟨h3, e3, X3, O3⟩ := X2.st (a := 101) (j := 2) rfl (by decide) c2
  obtain ⟨h4, e4, X4, O4⟩ := X3.pn (a := 99) (ci := 5) (k := 6) (x := bi) rfl rfl (Nat.le_of_ble_eq_true rfl) rfl rfl
  obtain ⟨h5, e5, X5, O5⟩ := X4.pn (a := 99) (ci := 5) (k := 7) (x := sh) rfl rfl (Nat.le_of_ble_eq_true rfl) rfl rfl
  simp only [upd2_2, upd2_eq] at X5
  have e1' : stI h (.ref 101) 0 c0 = some h1 := e1
  have e2' : stI h1 (.ref 101) 1 c1 = some h2 := e2
  have e3' : stI h2 (.ref 101) 2 c2 = some h3 := e3
  refine ⟨h5, ?_, X5, (((O1.trans O2).trans O3).trans O4).trans O5⟩
  unfold s_X5_setCode
  rw [g0, Option.bind_some, e1', Option.bind_some, g1, Option.bind_some, e2', Option.bind_some, g2, Option.bind_some, e3', Option.bind_some, e4, Option.bind_some, e5, Option.bind_some]
theorem renew5_at (X : CW h S V Z D Ln b) : ∃ h', s_X5_renew 99 h = some (.inl none, h') ∧ CW h' (upd2 S 99 (upd (upd (upd (S 99) 6 0) 7 0) 8 0)) (upd2 (upd2 V 101 (upd (upd (upd (V 101) 0 0) 1 0) 2 0)) 102 (filF (V 102) 0 400 (-1))) Z D Ln b ∧ Oc D h h' := by
  obtain ⟨h1, e1, X1, O1⟩ := setCode_at X 0 0 0 0 0
  have g1 : gO h1 (.ref 99) 5 9 = some 102 := gO_of (ltE (by decide)) (X1.1 99 rfl) rfl
  obtain ⟨h2, e2, X2, O2⟩ := X1.fill (a := 102) (n := 400) rfl rfl (-1)
  obtain ⟨h3, e3, X3, O3⟩ := X2.pn (a := 99) (ci := 5) (k := 8) (x := 0) rfl rfl (Nat.le_of_ble_eq_true rfl) rfl rfl
  simp only [upd2_2, upd2_eq] at X3
  have k1 : ∀ {β : Type} {y : Option β}, kO h 99 5 y = y := kO_of (ltE (by decide)) (X.1 99 rfl)
  refine ⟨h3, ?_, X3, (O1.trans O2).trans O3⟩
  unfold s_X5_renew
  rw [k1, cN_of e1, g1, Option.bind_some, cN_of e2, e3, Option.bind_some]
end
