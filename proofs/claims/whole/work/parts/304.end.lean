def R_law : String := "SteeringHouseLaw"
def lw_P (b : Addr) (xs : List Int32) (args : Array Value) (s : State) : Prop := args = #[.ref b] ∧ s.IntsAt b xs ∧ xs.length ≤ 3072 ∧ (Jvm.Cond.and given_1 narrow_1).before args s = true
def lw_Q (_ : Array Value) (s : State) (o : Outcome) (t : State) : Prop := o = .returned (some (.int 1)) ∧ Framed s o t [] 601024 7293034
def lw_Z (below : List Frame) (a : Array Value) (s : State) : State → Prop := fun t => ∃ o, t.status = .running ∧ Ended t below o ∧ lw_Q a s o t
/-- the law's own end, with 1 on the stack, nothing written that was there before, its room as the claim has it -/
theorem lw_ret {p : Program} {l : Launch} {e : Env} {s : State} {m : MethodId} {below : List Frame} {meth : Method} {c : Code} {b : Nat} (hx : p.tables.exec = Jvm.exec) (hb : c.code = code) (hr : meth.sig.returnType = ret) (hlocks : meth.locks = false) {pc : Nat} {H : Heap} {ls : Array Slot} (hdg : decode code pc = .ok (.ireturn, 1)) : W p l e room_1 s m #[Value.ref b] below meth c H [] 601024 7293034 (lw_Z below #[Value.ref b] s) (F0 m pc ls [.int 1]) := by
  intro T hT X
  obtain ⟨fs, hret, hrun, hended, hW, hframe⟩ := X.leave (v := some (.int 1)) (hlocks := hlocks) (fun h => by rw [hr] at h; cases h)
  have hmeth' : T.vm.method? m = some meth := X.method'
  refine ⟨T.setFrames fs, ?_, .returned (some (.int 1)), hrun, hended, rfl, ⟨_, rfl⟩, hW, hframe⟩
  jvm_step X.here [X.here.top, hx, hb, hdg, hmeth', hr, ret, narrow_b1]
  (try refine ⟨rfl, ?_⟩); (try refine ⟨rfl, ?_⟩)
  first | (intro acts; rw [hret _ acts rfl rfl rfl]) | rw [hret _ _ rfl rfl rfl]
  exact Steps.refl _
/-- what holds at the law's entry: the machine, the code, the tables' words (any of lw_tbl by 'hts w (by decide +kernel)'), the script of L ints xs at the cell b, what the Statement gives of the start (any of its parts by flat_of_before) -/
def lw_At (p : Program) (s : State) (m : MethodId) (meth : Method) (c : Code) (b L : Nat) (xs : Nat → Int32) : Prop :=
  p.tables.exec = Jvm.exec ∧ c.code = code ∧ meth.sig.returnType = ret ∧ c.maxLocals = 7 ∧ s.vm.findClass R_law = some m.cls ∧ (∀ w ∈ lw_tbl, w.before #[Value.ref b] s = true) ∧ va_X b L xs s s.heap ∧ b < s.heap.size ∧ meth.locks = false ∧ (Jvm.Cond.and given_1 narrow_1).before #[Value.ref b] s = true
/-- every class of the world, as it lies at the start -/
theorem kn_start {b : Nat} {s : State} (hts : ∀ w ∈ lw_tbl, w.before #[Value.ref b] s = true) : ∃ D : va_G, va_K D vwCl [] s := by
  have h9 : ∀ w ∈ aTB, w.before #[Value.ref b] s = true := fun w hw => hts w (List.mem_filter.mp hw).1
  have key : ∀ k : Nat, ∃ d : ClassId × (Nat → Nat), ∀ q : vw_C, vwCl[k]? = some q → u_Kn s q.1 q.2.1 q.2.2 d.1 d.2 := by
    intro k
    match k with
    | 0 =>
      obtain ⟨c0, i0, h0⟩ := u_known (C := RX0) (T := TX0) (N := 9) (n := 9) h9 wu_0 (h9 _ wj_X0)
      exact ⟨(c0, i0), fun q hq => by cases hq; exact h0⟩
    | 1 =>
      obtain ⟨c0, i0, h0⟩ := u_known (C := RX1) (T := TX1) (N := 14) (n := 14) h9 wu_1 (h9 _ wj_X1)
      exact ⟨(c0, i0), fun q hq => by cases hq; exact h0⟩
    | 2 =>
      obtain ⟨c0, i0, h0⟩ := u_known (C := RX2) (T := TX2) (N := 17) (n := 17) h9 wu_2 (h9 _ wj_X2)
      exact ⟨(c0, i0), fun q hq => by cases hq; exact h0⟩
    | 3 =>
      obtain ⟨c0, i0, h0⟩ := u_known (C := RX3) (T := TX3) (N := 6) (n := 6) h9 wu_3 (h9 _ wj_X3)
      exact ⟨(c0, i0), fun q hq => by cases hq; exact h0⟩
    | 4 =>
      obtain ⟨c0, i0, h0⟩ := u_known (C := RX4) (T := TX4) (N := 6) (n := 6) h9 wu_4 (h9 _ wj_X4)
      exact ⟨(c0, i0), fun q hq => by cases hq; exact h0⟩
    | 5 =>
      obtain ⟨c0, i0, h0⟩ := u_known (C := RX5) (T := TX5) (N := 11) (n := 11) h9 wu_5 (h9 _ wj_X5)
      exact ⟨(c0, i0), fun q hq => by cases hq; exact h0⟩
    | 6 =>
      obtain ⟨c0, i0, h0⟩ := u_known (C := RX6) (T := TX6) (N := 8) (n := 8) h9 wu_6 (h9 _ wj_X6)
      exact ⟨(c0, i0), fun q hq => by cases hq; exact h0⟩
    | 7 =>
      obtain ⟨c0, i0, h0⟩ := u_known (C := RX7) (T := TX7) (N := 14) (n := 14) h9 wu_7 (h9 _ wj_X7)
      exact ⟨(c0, i0), fun q hq => by cases hq; exact h0⟩
    | 8 =>
      obtain ⟨c0, i0, h0⟩ := u_known (C := RX8) (T := TX8) (N := 4) (n := 4) h9 wu_8 (h9 _ wj_X8)
      exact ⟨(c0, i0), fun q hq => by cases hq; exact h0⟩
    | 9 =>
      obtain ⟨c0, i0, h0⟩ := u_known (C := RX9) (T := TX9) (N := 11) (n := 11) h9 wu_9 (h9 _ wj_X9)
      exact ⟨(c0, i0), fun q hq => by cases hq; exact h0⟩
    | 10 =>
      obtain ⟨c0, i0, h0⟩ := u_known (C := RX10) (T := TX10) (N := 12) (n := 12) h9 wu_10 (h9 _ wj_X10)
      exact ⟨(c0, i0), fun q hq => by cases hq; exact h0⟩
    | 11 =>
      obtain ⟨c0, i0, h0⟩ := u_known (C := RX11) (T := TX11) (N := 18) (n := 18) h9 wu_11 (h9 _ wj_X11)
      exact ⟨(c0, i0), fun q hq => by cases hq; exact h0⟩
    | 12 =>
      obtain ⟨c0, i0, h0⟩ := u_known (C := RX12) (T := TX12) (N := 8) (n := 8) h9 wu_12 (h9 _ wj_X12)
      exact ⟨(c0, i0), fun q hq => by cases hq; exact h0⟩
    | 13 =>
      obtain ⟨c0, i0, h0⟩ := u_known (C := RX13) (T := TX13) (N := 14) (n := 14) h9 wu_13 (h9 _ wj_X13)
      exact ⟨(c0, i0), fun q hq => by cases hq; exact h0⟩
    | 14 =>
      obtain ⟨c0, i0, h0⟩ := u_known (C := RX14) (T := TX14) (N := 70) (n := 70) h9 wu_14 (h9 _ wj_X14)
      exact ⟨(c0, i0), fun q hq => by cases hq; exact h0⟩
    | k + 15 => exact ⟨(0, fun _ => 0), fun q hq => by simp [vwCl] at hq⟩
  obtain ⟨f, hf⟩ := Classical.axiomOfChoice key
  exact ⟨(fun k => (f k).1, fun k => (f k).2), fun k q hq => hf k q hq, fun k q h => by simp at h⟩
/-- from the entry, where the plain function answers true: the law comes to its end with true -/
theorem whole_from {p : Program} {e : Env} {s : State} {m : MethodId} {below : List Frame} {meth : Method} {c : Code} (l : Launch) (hl9 : l.stackTraces = false) {b L : Nat} {xs : Nat → Int32} {h' : aH} (hp : s_L_law L xs [] = some (.inl (some (.int 1)), h', 601024, 7293034))
    (C0 : lw_At p s m meth c b L xs) (ht : c.exceptionTable.toList = []) (hnm : meth.name = "law") : W p l e room_1 s m #[Value.ref b] below meth c s.heap [] 0 0 (lw_Z below #[Value.ref b] s) (entryFrame m ([Value.ref b] : List Value).toArray 7) := by
  obtain ⟨hx, hb, hr, hml, hown, hts, hX, hbl, hlocks, hgv⟩ := id C0
  obtain ⟨X, hXs, hXb⟩ := aX_start hts hgv
  obtain ⟨D, hD⟩ := kn_start hts
  have C : CxS p l s m #[Value.ref b] meth c s.heap.size X L xs := ⟨⟨hx, hb, hml, hown, fun w hw => hts w (List.mem_filter.mp hw).1, hlocks, hr, hl9, hXs, ht, hnm⟩, by rw [hXb]; exact hX, by rw [hXb]; exact hbl⟩
  have hl := lv_entry ([.ref b]) (n := 7) (Nat.le_of_ble_eq_true rfl)
  have hs0 : (entryFrame m ([Value.ref b] : List Value).toArray 7) = F0 m 0 (lg_sl ([.ref b]) ++ List.replicate (7 - (lg_sl ([.ref b])).length) Slot.unset).toArray [] := lg_entry_eq _ _ _
  have E := T_L_law (e := e) (below := below) (D := D) (ws0 := []) C hp [] s.heap [] ((lg_sl ([.ref b]) ++ List.replicate (7 - (lg_sl ([.ref b])).length) Slot.unset).toArray) [] aXt.refl ⟨fun k q h => by simp at h, ⟨fun i j p q h => by simp at h, fun k q h => by simp at h⟩, rfl, [], hD, fun i c h => by simp at h⟩ va_S.rf
    ⟨hl.1, hl.2.1, fun i x hi => by
      match i, hi with
      | 0, hi =>
        cases hi
        exact ⟨.ref b, rfl, Or.inr (Or.inl ⟨by omega, by rw [hXb]⟩)⟩
      | i + 1, hi =>
        match i, hi with
        | 0, hi => cases hi
        | 1, hi => cases hi
        | 2, hi => cases hi
        | 3, hi => cases hi
        | 4, hi => cases hi
        | 5, hi => cases hi
        | i + 6, hi => simp at hi⟩ rfl
  rw [hs0]
  intro T hT XT
  obtain ⟨t, a1, o, b1, b2, b3⟩ := E T hT XT
  refine ⟨t, a1, o, b1, b2, ?_⟩
  rcases b3 with ⟨⟨hF, v, v', ws', e1, e2, e3, -⟩, Lc, hE, hfree⟩ | ⟨q, -, E9, ce, Lc, ⟨-, i, ws', e1, -⟩, -⟩
  · cases e1
    obtain ⟨v9, e4, e5⟩ := e3
    cases e4
    have e6 : v9 = .int 1 := e5
    subst e6
    refine ⟨e2, ⟨_, e2⟩, hE.2.1, ?_⟩
    exact hE.2.2.weaken (fun y hy hlt => absurd hlt (Nat.not_lt.mpr (hfree y hy))) (Nat.le_refl _) (Nat.le_refl _)
  · cases e1
