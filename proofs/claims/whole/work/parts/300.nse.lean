def nC : String := "java/util/NoSuchElementException"
def nR : String := "java/lang/RuntimeException"
def nX : String := "java/lang/Exception"
def n13 : ByteArray := ⟨#[0x2a, 0x2b, 0xb7, 0x00, 0x0d, 0xb1]⟩
theorem n13_0 : decode n13 0 = .ok (.aload_n 0, 1) := by decide +kernel
theorem n13_1 : decode n13 1 = .ok (.aload_n 1, 1) := by decide +kernel
theorem n13_2 : decode n13 2 = .ok (.invokespecial 13, 3) := by decide +kernel
theorem n13_5 : decode n13 5 = .ok (.return_, 1) := by decide +kernel
theorem nC_fit : Bundle.fit nC = true := by decide +kernel
theorem nR_fit : Bundle.fit nR = true := by decide +kernel
theorem nX_fit : Bundle.fit nX = true := by decide +kernel
def nAt (own : String) (ic : Nat) : List Cond :=
  Bundle.passSAtoms nC nR 13 n13 ++ Bundle.chainSAtoms nR [nX] ++ Bundle.throwableSAtoms ++ Bundle.throwableAtoms ++
  [.methodLink own ic (Bundle.initS nC), .instantiable nC 6, .selects nC Bundle.tFill0 Bundle.tFill0, .selects nC Bundle.tFill Bundle.tFill,
   .lays nC Bundle.tN "cause" "Ljava/lang/Throwable;", .lays nC Bundle.tN "stackTrace" Bundle.steD, .lays nC Bundle.tN "suppressedExceptions" Bundle.listD, .lays nC Bundle.tN "detailMessage" "Ljava/lang/String;",
   .isRef (.static Bundle.tN "UNASSIGNED_STACK" Bundle.steD), .isRef (.static Bundle.tN "SUPPRESSED_SENTINEL" Bundle.listD),
   .fieldLink Bundle.tN 198 Bundle.tN "backtrace" "Ljava/lang/Object;", .lays Bundle.tN Bundle.tN "backtrace" "Ljava/lang/Object;", .lays nC Bundle.tN "backtrace" "Ljava/lang/Object;"]
def nNo (w : Cond) : Bool := match w with
  | .declares _ => false
  | w => vx_no w
theorem nse1 : ((nAt RX11 268).filter nNo).all (fun w => decide (w ∈ lw_tbl) && goodWord w) = true := by decide +kernel
theorem nse2 : (nAt RX11 268).all (fun w => match w with
  | .declares x => decide (x = Bundle.initS nR) || decide (x = Bundle.initS nX) || decide (x = Bundle.initS Bundle.tN)
  | _ => true) = true := by decide +kernel
theorem nDecl {args : Array Value} {s : State} {x : MethodName} {bytes : ByteArray} {maxL : Nat} {ret : Option FieldType} (h1 : (Cond.instanceMethod x).before args s = true) (h2 : (Cond.code x bytes maxL ret).before args s = true) : (Cond.declares x).before args s = true := by
  obtain ⟨m, meth, hn, hm, hst, -⟩ := Cond.instanceMethod_spec h1
  obtain ⟨meth', c, hm', -, -, -, -, -, -, hsig⟩ := Cond.code_spec hn h2
  cases Option.some.inj (hm.symm.trans hm')
  simp [Cond.before, Cond.holds, Cond.value, hn, hm, hst, hsig]
section NS
variable {p : Program} {l : Launch} {e : Env} {R : Room} {s : State} {m : MethodId} {args : Array Value} {below : List Frame} {meth : Method} {c : Code} {U : State} {locs : List Loc} {cells slots : Nat}
/-- the constructor with a text, and the throw behind it -/
theorem nse_go (X : Stand p l e R s m args below meth c U locs cells slots) (hexec : p.tables.exec = Jvm.exec) (htr : e.platform.stackTraces = false) {own : String} {ic : Nat} (hown : s.vm.findClass own = some m.cls)
    (h : ∀ w ∈ nAt own ic, w.before args s = true) (hlocs : ∀ x ∈ locs, ∀ cell, s.heap[x.base]? = some cell → cell.vm.isStatics = false)
    {a : Addr} {cX : ClassId} {kX : Class} (hfX : s.vm.findClass nC = some cX) (hkX : s.vm.classes[cX]? = some kX) (hcell : U.heap[a]? = some (freshCell cX kX)) (hnew : s.heap.size ≤ a) {msg : Value} (hmsg : msg.isRef = true)
    {g : JFrame} (hg : g.method = m) (hsize : g.locals.size = c.maxLocals) (hlocked : g.locked = none) (hentered : g.entered = []) {rest : List Value} (hstack : g.stack = msg :: .ref a :: .ref a :: rest)
    (hd6 : decode c.code g.pc = .ok (.invokespecial ic, 3)) (hd9 : decode c.code (g.pc + 3) = .ok (.athrow, 1)) (hout : ∀ x ∈ c.exceptionTable.toList, covers x (g.pc + 3) = false)
    (hRf : 5 < R.frames) (hRl : 2 * g.monitorRoom + ((Value.ref a :: rest).map fun v => v.category).sum + 81 ≤ R.locals) (hlocks : meth.locks = false) :
    ∃ t : State, Steps p.tables e below (U.setTop g) t ∧ t.status = .running ∧ Ended t below (.threw a) ∧ s.WarmedH t.vm ∧ s.sameButNew ({ t with vm := s.vm } : State) locs cells slots ∧ ∃ ce, t.heap[a]? = some ce ∧ ce.vm = .none ∧ ce.cls = cX := by
  have hpf := X.admits.platform
  have hpl : e.platform.magicAccessors = ({} : Platform).magicAccessors := by rw [hpf]
  have A : ∀ w, w ∈ nAt own ic → w.holds args s none s [] = true := fun w hw => h w hw
  have howns : e.platform.frameOwnsMonitors = true := by rw [hpf]
  have hfn : e.platform.finalization = false := by rw [hpf]
  obtain ⟨T, Z0, LT, -, Y⟩ := ThrowableC.of_atoms (args := args) howns hfn hpl (fun w hw => h w (by simp [nAt, hw]))
  obtain ⟨Z, M, LZ, LM, hZ⟩ := Init0T.ofS_atoms (args := args) hpl LT Y (fun w hw => h w (by simp [nAt, hw]))
  obtain ⟨P1, Ps, hlen, L1, hL, hm1, hs1, hs2⟩ := Bundle.chainS (args := args) hpl hZ [nX] nR nR_fit (fun n hn => by rw [List.mem_singleton.mp hn]; exact nX_fit) (fun w hw => h w (by simp [nAt, hw]))
  obtain ⟨P0, L0, hm0, hs0⟩ := PassC.ofS_atoms (args := args) (s := s) hpl (X := nC) (Y := nR) (Bundle.fit_spec nC_fit).1 (Bundle.fit_spec nR_fit).2 n13_0 n13_1 n13_2 n13_5 (fun w hw => h w (by simp [nAt, hw]))
  have e01 : P0.sup = P1.m := Option.some.inj (hs0.symm.trans hm1)
  have hf0 : s.vm.findClass nC = some P0.m.cls := findClass_of_methodNamed hm0
  have e02 : cX = P0.m.cls := Option.some.inj (hfX.symm.trans hf0)
  subst e02
  obtain ⟨q1, kq, hq1, hk, hord, -, -, hn6⟩ := Cond.instantiable_spec (A (.instantiable nC 6) (by simp [nAt]))
  cases Option.some.inj (hq1.symm.trans hf0)
  cases Option.some.inj (hkX.symm.trans hk)
  have sel : ∀ (mn : MethodName) (mi : MethodId), s.methodNamed? mn = some mi → mn.cls = Bundle.tN → (Cond.selects nC mn mn).holds args s none s [] = true → s.methodFound? mn.cls mn.name mn.desc = some mi → selectMethod e.platform s.vm P0.m.cls mi = .method mi := by
    intro mn mi h1 _ h2 h3
    obtain ⟨c2, r2, m2, q1, q2, q3, q4, -⟩ := Cond.selects_spec h2
    cases Option.some.inj (q1.symm.trans hf0)
    cases Option.some.inj (q2.symm.trans h3)
    cases Option.some.inj (q3.symm.trans h1)
    rw [Launch.admits_selectMethod X.admits]
    exact q4
  have hsel0 := sel _ _ Y.fill0 rfl (A (.selects nC Bundle.tFill0 Bundle.tFill0) (by simp [nAt])) (State.methodFound?_of_named Y.fill0 (by decide))
  have hselF := sel _ _ Y.fill rfl (A (.selects nC Bundle.tFill Bundle.tFill) (by simp [nAt])) (State.methodFound?_of_named Y.fill (by decide))
  obtain ⟨cs0, hcs0, hst0⟩ := Y.statics
  obtain ⟨u0, hu0⟩ := Cond.staticRefV Y.unassigned LT.unassignedStatic LT.statics hcs0 hst0 (A (.isRef (.static Bundle.tN "UNASSIGNED_STACK" Bundle.steD)) (by simp [nAt]))
  obtain ⟨sen, hsen⟩ := Cond.staticRefV Y.sentinel LT.sentinelStatic LT.statics hcs0 hst0 (A (.isRef (.static Bundle.tN "SUPPRESSED_SENTINEL" Bundle.listD)) (by simp [nAt]))
  obtain ⟨ciB, iB, fB, hkB, hgB, haB, hsB, -, hnB, htB, hffB⟩ := Cond.ownField (t := .object "java/lang/Object") Y.found LT.cls (by decide +kernel) (A (.fieldLink Bundle.tN 198 Bundle.tN "backtrace" "Ljava/lang/Object;") (by simp [nAt])) (A (.lays Bundle.tN Bundle.tN "backtrace" "Ljava/lang/Object;") (by simp [nAt])) e.platform hpl
  obtain ⟨cs, hcs, hcsv, -, hkeep⟩ := X.same.2.2.2.2.2 T.aS cs0 hcs0
  have hcsU : U.heap[T.aS]? = some cs := hcs
  have hoff : ∀ i, (⟨T.aS, i⟩ : Loc) ∉ locs := fun i hm => by
    have z := hlocs _ hm cs0 hcs0
    rw [hst0] at z
    cases z
  have hunk : cs.vm ≠ .unknown := by
    rw [hcsv]
    intro hu
    rw [show cs0.vm = .unknown from hu] at hst0
    cases hst0
  have hneS : T.aS ≠ a := Nat.ne_of_lt (Nat.lt_of_lt_of_le (Array.getElem?_eq_some_iff.mp hcs0).1 hnew)
  obtain ⟨iM, hffM⟩ := Y.msg
  obtain ⟨yC, dC, hdC, hnC⟩ := Cond.laysAt hf0 hk Y.cause (A (.lays nC Bundle.tN "cause" "Ljava/lang/Throwable;") (by simp [nAt]))
  obtain ⟨yS, dS, hdS, hnS⟩ := Cond.laysAt hf0 hk Y.stack (A (.lays nC Bundle.tN "stackTrace" Bundle.steD) (by simp [nAt]))
  obtain ⟨yP, dP, hdP, hnP⟩ := Cond.laysAt hf0 hk Y.supp (A (.lays nC Bundle.tN "suppressedExceptions" Bundle.listD) (by simp [nAt]))
  obtain ⟨yM, dM, hdM, hnM⟩ := Cond.laysAt hf0 hk hffM (A (.lays nC Bundle.tN "detailMessage" "Ljava/lang/String;") (by simp [nAt]))
  obtain ⟨yB, dB, hdB, hnB2⟩ := Cond.laysAt hf0 hk hffB (A (.lays nC Bundle.tN "backtrace" "Ljava/lang/Object;") (by simp [nAt]))
  have b1 := Cond.laysApart hdB hdC hnB2 hnC (by rw [hnB, Y.causeName]; decide)
  have b2 := Cond.laysApart hdB hdS hnB2 hnS (by rw [hnB, Y.stackName]; decide)
  have b3 := Cond.laysApart hdB hdP hnB2 hnP (by rw [hnB, Y.suppName]; decide)
  have hdef := fresh_default (c := P0.m.cls) yB
  rw [htB] at hdef
  have hskip : SkipFacts T e.platform s (fun u => u) u0 ((preparedCellV T.toThrowableT (freshCell P0.m.cls kX) a u0 sen).withEntry U.cur) :=
    ⟨{ ci198 := ciB, i198 := iB, fBack := fB }, ⟨hkB, hgB, haB, hsB⟩, by
      simpa [preparedCellV, Cell.setSlot, Cell.withEntry, Array.getElem?_setIfInBounds, b1, b2, b3, b1.symm, b2.symm, b3.symm, defaultValue] using hdef, fun _ _ => rfl⟩
  obtain ⟨tm, -, -, -, vm1, hnC0, -, -, -, -, -, -, -, hW1, go1⟩ := Steps.initColdS (tb := p.tables) (e := e) (below := below) (s := s) (U := U) X.here hexec X.warmed hpl hown (t := Bundle.initS nC) rfl rfl (Bundle.fit_spec nC_fit).2
    (A (.methodLink own ic (Bundle.initS nC)) (by simp [nAt])) (h (.instanceMethod (Bundle.initS nC)) (by simp [nAt, Bundle.passSAtoms])) (bytes := n13) (maxL := 2) (h (.code (Bundle.initS nC) n13 2 none) (by simp [nAt, Bundle.passSAtoms]))
    (f := g) hg (a := a) (msg := msg) (rest := .ref a :: rest) hstack hd6
  cases Option.some.inj (hnC0.symm.trans hm0)
  have X1 := X.noted hW1
  obtain ⟨vm2, X2, go2⟩ := X1.ctorMessageOffV hexec (g := { g with stack := .ref a :: rest }) hg hsize T LT Z LZ M LM (P0 :: P1 :: Ps)
    (fun P hP => by
      rcases List.mem_cons.mp hP with rfl | hP
      · exact L0
      · rcases List.mem_cons.mp hP with rfl | hP
        · exact L1
        · exact hL P hP) ⟨e01, hs1, hs2⟩ (u0 := u0) (sen := sen) (self := a) hmsg (cell := freshCell P0.m.cls kX) (cellS := cs)
    hcell (fun _ => by simp) (by simp) rfl rfl hsel0 hselF hcsU hneS hunk (by rw [hkeep _ (hoff _)]; exact hu0) (by rw [hkeep _ (hoff _)]; exact hsen)
    (Takes.of_laid hk hord yC (by rw [Y.causeType]; rfl)) (Takes.of_laid hk hord yS (by rw [Y.stackType]; exact fits_refV_array _ u0)) (Takes.of_laid hk hord yP (by rw [Y.suppType]; exact fits_refV_object _ sen))
    (Takes.of_laid hk hord yM (by rw [Y.msgType]; exact fits_refV_object _ ⟨msg, hmsg⟩)) Y.objLocals hskip htr [] hd6
    (by simp only [List.length_cons, hlen, List.length_nil]; omega) (by simp only [List.length_cons, hlen, List.length_nil]; exact hRl)
  obtain ⟨go3, hrun, hend, hW3, hsame⟩ := X2.athrowLeaves hexec (g := { g with stack := .ref a :: rest, pc := g.pc + 3 }) hg hlocked hentered hout (a := a) (rest := rest) rfl hd9 hlocks
  have hlt : a < ((U.setVm vm1).setVm vm2).heap.size := (Array.getElem?_eq_some_iff.mp hcell).1
  have hfin := heapAt_setCell_self (s := (U.setVm vm1).setVm vm2) (plainBareV T.toThrowableT (freshCell P0.m.cls kX) a u0 sen msg) hlt
  refine ⟨_, go1 _ (fun acts => ?_), hrun, hend, hW3, hsame.weaken (fun y hy hlt' => ?_) (Nat.le_refl _) (Nat.le_refl _), _, hfin, rfl, rfl⟩
  · rw [doInvoke_state]
    exact go2 _ go3
  · rcases List.mem_append.mp hy with h1 | h1
    · exact h1
    · exfalso
      have hb : y.base = a := by
        simp only [List.mem_cons, List.not_mem_nil, or_false] at h1
        rcases h1 with rfl | rfl | rfl | rfl | rfl <;> rfl
      rw [hb] at hlt'
      exact Nat.not_lt.mpr hnew hlt'
end NS
theorem aw.grown {D : va_G} {B0 : Nat} {X : Nat → Nat} {h : aH} {ws : va_W} {u U : State} {H H1 : Heap} (hvm : u.vm.Alike U.vm) (w : aw D B0 X h ws u H) (hq : ∀ q : Nat, q < H.size → H1[q]? = H[q]?) : aw D B0 X h ws U H1 := by
  obtain ⟨h1, h2, h3, h4⟩ := aw.moved hvm w
  refine ⟨h1.kept (fun k q hk => hq _ ?_), h2, h3, h4⟩
  have g := h1 k q hk
  obtain ⟨a, ev⟩ := q
  cases ev with
  | inl x => exact (Array.getElem?_eq_some_iff.mp g).1
  | inr x =>
    obtain ⟨_, _, cell, g1, -⟩ := g
    exact (Array.getElem?_eq_some_iff.mp g1).1
section NE
variable {p : Program} {l : Launch} {e : Env} {R : Room} {s : State} {m : MethodId} {args : Array Value} {below : List Frame} {meth : Method} {c : Code} {D : va_G} {B0 : Nat} {X : Nat → Nat} {ws0 : va_W} {r : aR} {h' : aH} {mc ms nL cells slots pc : Nat} {L : List (Option Value)} {st : List Value} {h : aH}
variable {nm : String} {cc : ByteArray} {ret : Option FieldType} {hh : List (Nat × Nat × Nat × Nat)}
theorem ev_throwNSE (C : Cx p l s m args meth c B0 X RX11 nm cc nL ret hh) {ik : Nat} (hk : Cond.classLink RX11 ik nC ∈ aTB) (hini : Cond.initialized nC ∈ aTB)
    (d0 : decode cc pc = .ok (.new ik, 3)) (d3 : decode cc (pc + 3) = .ok (.dup, 1)) (d4 : decode cc (pc + 4) = .ok (.ldc_w 266, 3)) (d7 : decode cc (pc + 7) = .ok (.invokespecial 268, 3)) (d10 : decode cc (pc + 10) = .ok (.athrow, 1))
    (hout : ∀ x ∈ tableOf hh, covers x (pc + 10) = false) (hRf : 6 ≤ R.frames) (hRl : (st.map fun v => v.category).sum + 82 ≤ R.locals) (hc : cells + 1 ≤ R.cells) (hz : slots + 6 ≤ R.slots) (hmc : cells + 1 ≤ mc) (hms : slots + 6 ≤ ms)
    (hr : r = .inr (nC, aE)) (hh9 : h' = h) : Ev p l e R s m args below meth c D B0 X ws0 r h' mc ms nL cells slots pc L st h := by
  intro ws H locs ls mst hx hw hS hl hs T hT XT
  obtain ⟨hexec, hb, hnl, hown, hT9, hlocks, -, hst, hX, htab, -⟩ := C
  obtain ⟨-, -, -, -, ⟨hU, hN⟩, -, -, hstr, -, -⟩ := hX
  have htr : e.platform.stackTraces = false := (show e.platform.stackTraces = l.stackTraces by rw [XT.admits.platform]).trans hst
  have Y := vx_rebase XT (R' := { frames := R.frames, locals := R.locals, cells := 1, slots := 6 }) (Nat.le_refl _) (Nat.le_refl _) hc hz
  obtain ⟨s', hA⟩ : ∃ z, z = (T.setVm s.vm).setFrames (.invoking m args :: below) := ⟨_, rfl⟩
  rw [← hA] at Y
  have hvm : s'.vm = s.vm := by rw [hA]; rfl
  have hhp : s'.heap = H := by rw [hA]; exact hT
  have hW0 : s.WarmedH s'.vm := by rw [hvm]; exact State.WarmedH.refl s
  have up : ∀ w ∈ aTB, w.before args s' = true := fun w hw => word_at hW0 (aTB_good w hw).2 (hT9 w hw)
  have hU' : vx_Zq Bundle.tN "UNASSIGNED_STACK" Bundle.steD (aA B0) s' s'.heap := by rw [hhp]; exact vx_Zq.moved hW0.alike (hU.kept hS.2.1)
  have hN' : vx_Zq Bundle.tN "SUPPRESSED_SENTINEL" Bundle.listD (aA B0) s' s'.heap := by rw [hhp]; exact vx_Zq.moved hW0.alike (hN.kept hS.2.1)
  have hgd : ∀ w ∈ (nAt RX11 268).filter nNo, w.before args s' = true := fun w hw => by
    have q1 := List.all_eq_true.mp nse1 w hw
    simp only [Bool.and_eq_true, decide_eq_true_eq] at q1
    exact up w (aTB_of q1.1 q1.2)
  have hall : ∀ w ∈ nAt RX11 268, w.before args s' = true := vx_own (fun w hw => by
    obtain ⟨hw1, hw2⟩ := List.mem_filter.mp hw
    have q2 := List.all_eq_true.mp nse2 w hw1
    by_cases hd : ∃ x, w = .declares x
    · obtain ⟨x, rfl⟩ := hd
      simp only [Bool.or_eq_true, decide_eq_true_eq] at q2
      rcases q2 with (rfl | rfl) | rfl
      · exact nDecl (hgd (.instanceMethod (Bundle.initS nR)) (by decide +kernel)) (hgd (.code (Bundle.initS nR) Bundle.six 2 none) (by decide +kernel))
      · exact nDecl (hgd (.instanceMethod (Bundle.initS nX)) (by decide +kernel)) (hgd (.code (Bundle.initS nX) Bundle.six 2 none) (by decide +kernel))
      · exact nDecl (hgd (.instanceMethod (Bundle.initS Bundle.tN)) (by decide +kernel)) (hgd (.code (Bundle.initS Bundle.tN) LibCode.Throwable.InitS.code 2 none) (by decide +kernel))
    · refine hgd w (List.mem_filter.mpr ⟨hw1, ?_⟩)
      unfold nNo
      split
      · exact absurd ⟨_, rfl⟩ hd
      · exact hw2) (vx_isRefq hU'.1) (vx_isRefq hN'.1) hU'.2.word hN'.2.word
  have hown' : s'.vm.findClass RX11 = some m.cls := by rw [hvm]; exact hown
  obtain ⟨vm1, cX, kX, hfX, hkX, -, -, X1, st1⟩ := Y.newCold hexec (own := RX11) (C := nC) (index := ik) (n := 6) hown' (up _ hk) (hall _ (by simp [nAt])) (up _ hini) (g := F0 m pc ls mst) rfl (by rw [hb]; exact d0) (Nat.le_refl _) (Nat.le_refl _)
  generalize hT1 : (T.setVm vm1).pushCell { cls := cX, slots := kX.instanceTypes.map defaultValue, vm := .none } = T1 at X1 st1
  have hcat : (Value.ref T.heap.size).category = 1 := rfl
  have hcellA : T1.heap[T.heap.size]? = some (freshCell cX kX) := by rw [← hT1]; exact State.heap_pushCell_size _ _
  have d3' : decode c.code (pc + 3) = .ok (.dup, 1) := by rw [hb]; exact d3
  have hstr' := vk_R.warm hW0 hstr
  have hsum : (mst.map fun v => v.category).sum = (st.map fun v => v.category).sum := hs.cats
  obtain ⟨t, go, hrun, hend, hW, hsame, ce, hce, hcv, hcc⟩ := nse_go X1 hexec htr (own := RX11) (ic := 268) hown' hall (fun x hx => nomatch hx) hfX hkX hcellA (by rw [hhp, hT]; exact Nat.le_refl _) (msg := .ref (X (aE + 9))) rfl
    (g := { method := m, pc := pc + 7, locals := ls, stack := .ref (X (aE + 9)) :: .ref T.heap.size :: .ref T.heap.size :: mst, locked := none }) rfl (hl.1.trans hnl.symm) rfl rfl (rest := mst) rfl
    (by rw [hb]; exact d7) (by rw [hb]; exact d10) (by rw [htab]; exact hout) hRf (by
      simp only [List.map_cons, List.sum_cons, hcat, hsum]
      show 2 * 0 + _ + 81 ≤ _
      omega) hlocks
  obtain ⟨f1, f2⟩ := vx_frame hsame
  rw [hhp] at f1 f2
  have f3 : ∀ q : Nat, q < H.size → t.heap[q]? = H[q]? := fun q hq => f2 q hq (fun z hz => nomatch hz)
  have hWs : s.WarmedH t.vm := State.WarmedH.trans hW0 hW
  have hcl : s.vm.findClass nC = some ce.cls := by
    rw [hcc, ← hvm]
    exact hfX
  have hsm : s.sameButNew ({ t with vm := s.vm } : State) locs mc ms := by
    subst hA
    obtain ⟨e1, e2⟩ := hsame
    rw [State.setFrames_setFrames] at e1
    have h2 : (T.setVm s.vm).sameButNew ({ t with vm := s.vm } : State) [] (0 + 1) (0 + 6) := ⟨e1, e2⟩
    have h3 := XT.same.trans h2
    rw [List.append_nil] at h3
    exact h3.mono hmc hms
  have hF : va_F (aA B0) s t := ⟨Nat.le_trans hS.1 f1, fun q h1 h2 => (f3 q (Nat.lt_of_lt_of_le h1 hS.1)).trans (hS.2.1 q h1 h2)⟩
  refine ⟨t, ?_, .threw T.heap.size, hrun, hend, Or.inr ⟨T.heap.size, rfl, nC, ce, locs, ⟨hF, aE, ws, hr, Or.inr (Or.inr ⟨rfl, _, rfl⟩), hx, by rw [hh9]; exact hw.grown hWs.alike f3⟩, hce, hcv, hcl, hWs, hsm, hS.2.2⟩⟩
  refine st1 _ ?_
  show Steps p.tables e below (T1.setTop { method := m, pc := pc + 3, locals := ls, stack := .ref T.heap.size :: mst, locked := none }) _
  jvm_step X1.here [X1.here.top, hexec, d3', Value.category]
  exact X1.ldcStringW hexec (own := RX11) (text := "no such world") (index := 266) (a := X (aE + 9)) hown' hstr'.1 hstr'.2
    (g := { method := m, pc := pc + 4, locals := ls, stack := .ref T.heap.size :: .ref T.heap.size :: mst, locked := none }) rfl (by rw [hb]; exact d4) _ go
end NE
theorem nInj {r r1 : aR} {h h1 : aH} {a b a1 b1 : Nat} (e : (some (r, h, a, b) : aP) = some (r1, h1, a1, b1)) : r = r1 ∧ h = h1 ∧ a = a1 ∧ b = b1 := by
  have e2 := Prod.mk.inj (Option.some.inj e)
  have e3 := Prod.mk.inj e2.2
  have e4 := Prod.mk.inj e3.2
  exact ⟨e2.1, e3.1, e4.1, e4.2⟩
