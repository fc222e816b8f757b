-- X9_telling
theorem dX9_telling_0 : decode cX9_telling 0 = .ok (.aload_n 0, 1) := by decide +kernel
theorem dX9_telling_1 : decode cX9_telling 1 = .ok (.invokevirtual 88, 3) := by decide +kernel
theorem dX9_telling_4 : decode cX9_telling 4 = .ok (.istore_n 3, 1) := by decide +kernel
theorem dX9_telling_5 : decode cX9_telling 5 = .ok (.iconst (-1), 1) := by decide +kernel
theorem dX9_telling_6 : decode cX9_telling 6 = .ok (.istore 4, 2) := by decide +kernel
theorem dX9_telling_8 : decode cX9_telling 8 = .ok (.iconst (-1), 1) := by decide +kernel
theorem dX9_telling_9 : decode cX9_telling 9 = .ok (.istore 5, 2) := by decide +kernel
theorem dX9_telling_11 : decode cX9_telling 11 = .ok (.iconst 0, 1) := by decide +kernel
theorem dX9_telling_12 : decode cX9_telling 12 = .ok (.istore 6, 2) := by decide +kernel
theorem dX9_telling_14 : decode cX9_telling 14 = .ok (.iload 6, 2) := by decide +kernel
theorem dX9_telling_16 : decode cX9_telling 16 = .ok (.aload_n 0, 1) := by decide +kernel
theorem dX9_telling_17 : decode cX9_telling 17 = .ok (.getfield 30, 3) := by decide +kernel
theorem dX9_telling_20 : decode cX9_telling 20 = .ok (.getfield 92, 3) := by decide +kernel
theorem dX9_telling_23 : decode cX9_telling 23 = .ok (.if_icmp .ge 43, 3) := by decide +kernel
theorem dX9_telling_26 : decode cX9_telling 26 = .ok (.iload_n 2, 1) := by decide +kernel
theorem dX9_telling_27 : decode cX9_telling 27 = .ok (.iload 6, 2) := by decide +kernel
theorem dX9_telling_29 : decode cX9_telling 29 = .ok (.ishr, 1) := by decide +kernel
theorem dX9_telling_30 : decode cX9_telling 30 = .ok (.iconst 1, 1) := by decide +kernel
theorem dX9_telling_31 : decode cX9_telling 31 = .ok (.iand, 1) := by decide +kernel
theorem dX9_telling_32 : decode cX9_telling 32 = .ok (.ifCond .eq 28, 3) := by decide +kernel
theorem dX9_telling_35 : decode cX9_telling 35 = .ok (.aload_n 0, 1) := by decide +kernel
theorem dX9_telling_36 : decode cX9_telling 36 = .ok (.iload_n 1, 1) := by decide +kernel
theorem dX9_telling_37 : decode cX9_telling 37 = .ok (.iload 6, 2) := by decide +kernel
theorem dX9_telling_39 : decode cX9_telling 39 = .ok (.iload_n 3, 1) := by decide +kernel
theorem dX9_telling_40 : decode cX9_telling 40 = .ok (.invokevirtual 94, 3) := by decide +kernel
theorem dX9_telling_43 : decode cX9_telling 43 = .ok (.istore 7, 2) := by decide +kernel
theorem dX9_telling_45 : decode cX9_telling 45 = .ok (.iload 7, 2) := by decide +kernel
theorem dX9_telling_47 : decode cX9_telling 47 = .ok (.iload 5, 2) := by decide +kernel
theorem dX9_telling_49 : decode cX9_telling 49 = .ok (.if_icmp .le 11, 3) := by decide +kernel
theorem dX9_telling_52 : decode cX9_telling 52 = .ok (.iload 7, 2) := by decide +kernel
theorem dX9_telling_54 : decode cX9_telling 54 = .ok (.istore 5, 2) := by decide +kernel
theorem dX9_telling_56 : decode cX9_telling 56 = .ok (.iload 6, 2) := by decide +kernel
theorem dX9_telling_58 : decode cX9_telling 58 = .ok (.istore 4, 2) := by decide +kernel
theorem dX9_telling_60 : decode cX9_telling 60 = .ok (.iinc 6 1, 3) := by decide +kernel
theorem dX9_telling_63 : decode cX9_telling 63 = .ok (.goto (-49), 3) := by decide +kernel
theorem dX9_telling_66 : decode cX9_telling 66 = .ok (.iload 4, 2) := by decide +kernel
theorem dX9_telling_68 : decode cX9_telling 68 = .ok (.ireturn, 1) := by decide +kernel
def s_X9_telling_14_b  (k14 : Nat → Int32 → Int32 → Int32 → Int32 → Int32 → Int32 → aH → aO) (l0 : Nat) (l1 : Int32) (l2 : Int32) (l3 : Int32) (l4 : Int32) (l5 : Int32) (l6 : Int32) (h : aH) : aO :=
  (gO h (.ref l0) 9 0).bind fun x17 => (gI h (.ref x17) 2 13).bind fun x20 => if x20 ≤ l6 then (some (.inl (some (.int l4)), h)) else (if ((l2 >>> (l6 &&& 31)) &&& 1) = 0 then (k14 l0 l1 l2 l3 l4 l5 (l6 + 1) h) else (kO h l0 9 (cI (s_X9_differentLeads l0 l1 l6 l3 h) fun x40 h40 => if x40 ≤ l5 then (k14 l0 l1 l2 l3 l4 l5 (l6 + 1) h40) else (k14 l0 l1 l2 l3 l6 x40 (l6 + 1) h40))))
def s_X9_telling_14  (n : Nat) : Nat → Int32 → Int32 → Int32 → Int32 → Int32 → Int32 → aH → aO := lpF (fun _ _ _ _ _ _ _ _ => none) (s_X9_telling_14_b ) n
def s_X9_telling (o : Nat) (a1 : Int32) (a2 : Int32) (h : aH) : aP :=
  kO h o 9 (dI (s_X9_fitting o h) fun x1 h1 n1 y1 => ck (0 + n1) (0 + y1) (wC (0 + n1) (0 + y1) (s_X9_telling_14 FU o a1 a2 x1 (-1) (-1) 0 h1)))
section
variable {p : Program} {l : Launch} {e : Env} {s : State} {m : MethodId} {args : Array Value} {below : List Frame} {meth : Method} {c : Code} {D : va_G} {B0 : Nat} {X : Nat → Nat} {ws0 : va_W} {r : aR} {h' : aH} {mc ms : Nat}
theorem t_X9_telling_14_b (C : Cx p l s m args meth c B0 X RX9 "telling" cX9_telling 8 (some .int) [])   {k14 : Nat → Int32 → Int32 → Int32 → Int32 → Int32 → Int32 → aH → aO} (K14 : ∀ (l0 : Nat) (l1 : Int32) (l2 : Int32) (l3 : Int32) (l4 : Int32) (l5 : Int32) (l6 : Int32) (h : aH), k14 l0 l1 l2 l3 l4 l5 l6 h = some (r, h') → Ev p l e { frames := 6, cells := mc, slots := ms, locals := 155 } s m args below meth c D B0 X ws0 r h' mc ms 8 mc ms 14 [some (.ref l0), some (.int l1), some (.int l2), some (.int l3), some (.int l4), some (.int l5), some (.int l6), none] [] h) {l0 : Nat} {l1 : Int32} {l2 : Int32} {l3 : Int32} {l4 : Int32} {l5 : Int32} {l6 : Int32} {h : aH} (hs : s_X9_telling_14_b  k14 l0 l1 l2 l3 l4 l5 l6 h = some (r, h')) : Ev p l e { frames := 6, cells := mc, slots := ms, locals := 155 } s m args below meth c D B0 X ws0 r h' mc ms 8 mc ms 14 [some (.ref l0), some (.int l1), some (.int l2), some (.int l3), some (.int l4), some (.int l5), some (.int l6), none] [] h := by
  unfold s_X9_telling_14_b at hs
  refine ev_iload C rfl dX9_telling_14 ?_
  refine ev_aload_n C (x := .ref l0) rfl trivial dX9_telling_16 ?_
  obtain ⟨x17, e17, hs⟩ := aB hs
  refine ev_get C (ci := 9) (k := 0) rfl wu_9 (by decide) wf_X9_30 (gO_F e17) dX9_telling_17 ?_
  obtain ⟨x20, e20, hs⟩ := aB hs
  refine ev_getN C (ci := 2) (k := 13) rfl wu_2 (by decide) wg_X9_92 (gI_F e20) dX9_telling_20 ?_
  refine ev_icmp_ge C (tgt := 66) (by decide) dX9_telling_23 (fun q23 => ?_) (fun q23 => ?_)
  · replace hs := (if_pos q23).symm.trans hs
    refine ev_iload C rfl dX9_telling_66 ?_
    cases hs
    exact ev_iret C rfl rfl (Nat.le_refl _) (Nat.le_refl _) rfl dX9_telling_68
  · replace hs := (if_neg q23).symm.trans hs
    refine ev_iload_n C rfl dX9_telling_26 ?_
    refine ev_iload C rfl dX9_telling_27 ?_
    refine ev_ishr C dX9_telling_29 ?_
    refine ev_iconst C (v := 1) dX9_telling_30 (by decide) ?_
    refine ev_iand C dX9_telling_31 ?_
    refine ev_if_eq C (tgt := 60) (by decide) dX9_telling_32 (fun q32 => ?_) (fun q32 => ?_)
    · replace hs := (if_pos q32).symm.trans hs
      refine ev_iinc C (i := 6) (n := 1) (x := l6) (v := l6 + 1) rfl (congrArg (fun z => l6 + z) (show Int32.ofInt 1 = 1 by decide)) (by decide) dX9_telling_60 ?_
      refine ev_goto C (tgt := 14) (by decide) dX9_telling_63 ?_
      exact (K14 _ _ _ _ _ _ _ _ hs)
    · replace hs := (if_neg q32).symm.trans hs
      refine ev_aload_n C (x := .ref l0) rfl trivial dX9_telling_35 ?_
      refine ev_iload_n C rfl dX9_telling_36 ?_
      refine ev_iload C rfl dX9_telling_37 ?_
      refine ev_iload_n C rfl dX9_telling_39 ?_
      obtain ⟨eo40, hs⟩ := kO_at hs
      obtain ⟨x40, h40, e40, hs⟩ := cI_at hs
      refine ev_callV C (T_X9_differentLeads _ _ _ _ _ _ _ e40) (ci := 9) rfl eo40 wc_X9_differentLeads wm_X9_94 wi_X9_differentLeads ws_X9_differentLeads wz_X9 hy_X9_differentLeads ⟨(Nat.le_of_ble_eq_true rfl), (Nat.le_of_ble_eq_true rfl)⟩ ⟨(Nat.le_refl _), (Nat.le_refl _)⟩ (Nat.le_of_ble_eq_true rfl) rfl dX9_telling_40 ?_
      refine ev_istore C (by decide) dX9_telling_43 ?_
      refine ev_iload C rfl dX9_telling_45 ?_
      refine ev_iload C rfl dX9_telling_47 ?_
      refine ev_icmp_le C (tgt := 60) (by decide) dX9_telling_49 (fun q49 => ?_) (fun q49 => ?_)
      · replace hs := (if_pos q49).symm.trans hs
        refine ev_iinc C (i := 6) (n := 1) (x := l6) (v := l6 + 1) rfl (congrArg (fun z => l6 + z) (show Int32.ofInt 1 = 1 by decide)) (by decide) dX9_telling_60 ?_
        refine ev_goto C (tgt := 14) (by decide) dX9_telling_63 ?_
        exact Ev.keep [true, true, true, true, true, true, true, false] (K14 _ _ _ _ _ _ _ _ hs)
      · replace hs := (if_neg q49).symm.trans hs
        refine ev_iload C rfl dX9_telling_52 ?_
        refine ev_istore C (by decide) dX9_telling_54 ?_
        refine ev_iload C rfl dX9_telling_56 ?_
        refine ev_istore C (by decide) dX9_telling_58 ?_
        refine ev_iinc C (i := 6) (n := 1) (x := l6) (v := l6 + 1) rfl (congrArg (fun z => l6 + z) (show Int32.ofInt 1 = 1 by decide)) (by decide) dX9_telling_60 ?_
        refine ev_goto C (tgt := 14) (by decide) dX9_telling_63 ?_
        exact Ev.keep [true, true, true, true, true, true, true, false] (K14 _ _ _ _ _ _ _ _ hs)
theorem t_X9_telling_14 (C : Cx p l s m args meth c B0 X RX9 "telling" cX9_telling 8 (some .int) [])   : ∀ (n : Nat) {l0 : Nat} {l1 : Int32} {l2 : Int32} {l3 : Int32} {l4 : Int32} {l5 : Int32} {l6 : Int32} {h : aH} (hs : s_X9_telling_14  n l0 l1 l2 l3 l4 l5 l6 h = some (r, h')), Ev p l e { frames := 6, cells := mc, slots := ms, locals := 155 } s m args below meth c D B0 X ws0 r h' mc ms 8 mc ms 14 [some (.ref l0), some (.int l1), some (.int l2), some (.int l3), some (.int l4), some (.int l5), some (.int l6), none] [] h
  | 0, _, _, _, _, _, _, _, _, hs => nomatch hs
  | n + 1, _, _, _, _, _, _, _, _, hs => t_X9_telling_14_b C  (k14 := s_X9_telling_14  n) (fun _ _ _ _ _ _ _ _ hs => t_X9_telling_14 C  n hs) hs
theorem hy_X9_telling : yX9_telling.cls ≠ "java/lang/invoke/MethodHandle" ∧ yX9_telling.cls ≠ "java/lang/invoke/VarHandle" ∧ (parseMethodDescriptor yX9_telling.desc).map (fun d => d.parameters.length) = some 2 := by decide +kernel
theorem T_X9_telling (o : Nat) (a1 : Int32) (a2 : Int32) (h : aH) (r : aR) (h' : aH) (mc ms : Nat) (hs : s_X9_telling o a1 a2 h = some (r, h', mc, ms)) : Mt yX9_telling (Cond.code yX9_telling cX9_telling 8 (some .int) :: aTB) 6 155 mc ms [.ref o, .int a1, .int a2] h r h' := by
  unfold s_X9_telling at hs
  refine Mt_of (k := 5) (by decide) rfl (fun p l e s m args below meth c D B0 X ws0 C => ?_)
  show Ev p l e { frames := 6, cells := mc, slots := ms, locals := 155 } s m args below meth c D B0 X ws0 r h' mc ms 8 0 0 0 [some (.ref o), some (.int a1), some (.int a2), none, none, none, none, none] [] h
  refine ev_aload_n C (x := .ref o) rfl trivial dX9_telling_0 ?_
  obtain ⟨eo1, hs⟩ := kO_at hs
  obtain ⟨x1, h1, n1, y1, e1, hs⟩ := dI_at hs
  obtain ⟨c1, z1, hs⟩ := ck_at hs
  refine ev_callV C (T_X9_fitting _ _ _ _ _ _ e1) (ci := 9) rfl eo1 wc_X9_fitting wm_X9_88 wi_X9_fitting ws_X9_fitting wz_X9 hy_X9_fitting ⟨(Nat.le_of_ble_eq_true rfl), (Nat.le_of_ble_eq_true rfl)⟩ ⟨c1, z1⟩ (Nat.le_of_ble_eq_true rfl) rfl dX9_telling_1 ?_
  obtain ⟨hw9, rfl, rfl⟩ := wC_at hs
  have hs := hw9
  refine ev_istore_n C (by decide) dX9_telling_4 ?_
  refine ev_iconst C (v := (-1)) dX9_telling_5 (by decide) ?_
  refine ev_istore C (by decide) dX9_telling_6 ?_
  refine ev_iconst C (v := (-1)) dX9_telling_8 (by decide) ?_
  refine ev_istore C (by decide) dX9_telling_9 ?_
  refine ev_iconst C (v := 0) dX9_telling_11 (by decide) ?_
  refine ev_istore C (by decide) dX9_telling_12 ?_
  exact (t_X9_telling_14 C  FU hs)
end
-- X10_init
theorem dX10_init_0 : decode cX10_init 0 = .ok (.aload_n 0, 1) := by decide +kernel
theorem dX10_init_1 : decode cX10_init 1 = .ok (.invokespecial 3, 3) := by decide +kernel
theorem dX10_init_4 : decode cX10_init 4 = .ok (.aload_n 0, 1) := by decide +kernel
theorem dX10_init_5 : decode cX10_init 5 = .ok (.bipush 9, 2) := by decide +kernel
theorem dX10_init_7 : decode cX10_init 7 = .ok (.newarray .int, 2) := by decide +kernel
theorem dX10_init_9 : decode cX10_init 9 = .ok (.putfield 9, 3) := by decide +kernel
theorem dX10_init_12 : decode cX10_init 12 = .ok (.aload_n 0, 1) := by decide +kernel
theorem dX10_init_13 : decode cX10_init 13 = .ok (.bipush 13, 2) := by decide +kernel
theorem dX10_init_15 : decode cX10_init 15 = .ok (.newarray .int, 2) := by decide +kernel
theorem dX10_init_17 : decode cX10_init 17 = .ok (.putfield 15, 3) := by decide +kernel
theorem dX10_init_20 : decode cX10_init 20 = .ok (.aload_n 0, 1) := by decide +kernel
theorem dX10_init_21 : decode cX10_init 21 = .ok (.bipush 13, 2) := by decide +kernel
theorem dX10_init_23 : decode cX10_init 23 = .ok (.newarray .int, 2) := by decide +kernel
theorem dX10_init_25 : decode cX10_init 25 = .ok (.putfield 18, 3) := by decide +kernel
theorem dX10_init_28 : decode cX10_init 28 = .ok (.aload_n 0, 1) := by decide +kernel
theorem dX10_init_29 : decode cX10_init 29 = .ok (.iconst 0, 1) := by decide +kernel
theorem dX10_init_30 : decode cX10_init 30 = .ok (.newarray .int, 2) := by decide +kernel
theorem dX10_init_32 : decode cX10_init 32 = .ok (.putfield 21, 3) := by decide +kernel
theorem dX10_init_35 : decode cX10_init 35 = .ok (.aload_n 0, 1) := by decide +kernel
theorem dX10_init_36 : decode cX10_init 36 = .ok (.sipush 400, 3) := by decide +kernel
theorem dX10_init_39 : decode cX10_init 39 = .ok (.newarray .int, 2) := by decide +kernel
theorem dX10_init_41 : decode cX10_init 41 = .ok (.putfield 24, 3) := by decide +kernel
theorem dX10_init_44 : decode cX10_init 44 = .ok (.aload_n 0, 1) := by decide +kernel
theorem dX10_init_45 : decode cX10_init 45 = .ok (.sipush 400, 3) := by decide +kernel
theorem dX10_init_48 : decode cX10_init 48 = .ok (.newarray .int, 2) := by decide +kernel
theorem dX10_init_50 : decode cX10_init 50 = .ok (.putfield 27, 3) := by decide +kernel
theorem dX10_init_53 : decode cX10_init 53 = .ok (.aload_n 0, 1) := by decide +kernel
theorem dX10_init_54 : decode cX10_init 54 = .ok (.bipush 13, 2) := by decide +kernel
theorem dX10_init_56 : decode cX10_init 56 = .ok (.newarray .int, 2) := by decide +kernel
theorem dX10_init_58 : decode cX10_init 58 = .ok (.putfield 30, 3) := by decide +kernel
theorem dX10_init_61 : decode cX10_init 61 = .ok (.aload_n 0, 1) := by decide +kernel
theorem dX10_init_62 : decode cX10_init 62 = .ok (.iconst 0, 1) := by decide +kernel
theorem dX10_init_63 : decode cX10_init 63 = .ok (.newarray .int, 2) := by decide +kernel
theorem dX10_init_65 : decode cX10_init 65 = .ok (.putfield 33, 3) := by decide +kernel
theorem dX10_init_68 : decode cX10_init 68 = .ok (.aload_n 0, 1) := by decide +kernel
theorem dX10_init_69 : decode cX10_init 69 = .ok (.aload_n 1, 1) := by decide +kernel
theorem dX10_init_70 : decode cX10_init 70 = .ok (.putfield 36, 3) := by decide +kernel
theorem dX10_init_73 : decode cX10_init 73 = .ok (.aload_n 0, 1) := by decide +kernel
theorem dX10_init_74 : decode cX10_init 74 = .ok (.aload_n 2, 1) := by decide +kernel
theorem dX10_init_75 : decode cX10_init 75 = .ok (.putfield 40, 3) := by decide +kernel
theorem dX10_init_78 : decode cX10_init 78 = .ok (.return_, 1) := by decide +kernel
def s_X10_init (o : Nat) (a1 : Nat) (a2 : Nat) (h : aH) : aP :=
  bP (nwA .int h 9) fun o7 h7 => ck (0 + 1) (0 + Int32.toNatClampNeg 9) ((pF h7 (.ref o) 10 2 (.ref o7)).bind fun h9 => bP (nwA .int h9 13) fun o15 h15 => ck (0 + 1 + 1) (0 + Int32.toNatClampNeg 9 + Int32.toNatClampNeg 13) ((pF h15 (.ref o) 10 4 (.ref o15)).bind fun h17 => bP (nwA .int h17 13) fun o23 h23 => ck (0 + 1 + 1 + 1) (0 + Int32.toNatClampNeg 9 + Int32.toNatClampNeg 13 + Int32.toNatClampNeg 13) ((pF h23 (.ref o) 10 5 (.ref o23)).bind fun h25 => bP (nwA .int h25 0) fun o30 h30 => ck (0 + 1 + 1 + 1 + 1) (0 + Int32.toNatClampNeg 9 + Int32.toNatClampNeg 13 + Int32.toNatClampNeg 13 + Int32.toNatClampNeg 0) ((pF h30 (.ref o) 10 6 (.ref o30)).bind fun h32 => bP (nwA .int h32 400) fun o39 h39 => ck (0 + 1 + 1 + 1 + 1 + 1) (0 + Int32.toNatClampNeg 9 + Int32.toNatClampNeg 13 + Int32.toNatClampNeg 13 + Int32.toNatClampNeg 0 + Int32.toNatClampNeg 400) ((pF h39 (.ref o) 10 8 (.ref o39)).bind fun h41 => bP (nwA .int h41 400) fun o48 h48 => ck (0 + 1 + 1 + 1 + 1 + 1 + 1) (0 + Int32.toNatClampNeg 9 + Int32.toNatClampNeg 13 + Int32.toNatClampNeg 13 + Int32.toNatClampNeg 0 + Int32.toNatClampNeg 400 + Int32.toNatClampNeg 400) ((pF h48 (.ref o) 10 9 (.ref o48)).bind fun h50 => bP (nwA .int h50 13) fun o56 h56 => ck (0 + 1 + 1 + 1 + 1 + 1 + 1 + 1) (0 + Int32.toNatClampNeg 9 + Int32.toNatClampNeg 13 + Int32.toNatClampNeg 13 + Int32.toNatClampNeg 0 + Int32.toNatClampNeg 400 + Int32.toNatClampNeg 400 + Int32.toNatClampNeg 13) ((pF h56 (.ref o) 10 10 (.ref o56)).bind fun h58 => bP (nwA .int h58 0) fun o63 h63 => ck (0 + 1 + 1 + 1 + 1 + 1 + 1 + 1 + 1) (0 + Int32.toNatClampNeg 9 + Int32.toNatClampNeg 13 + Int32.toNatClampNeg 13 + Int32.toNatClampNeg 0 + Int32.toNatClampNeg 400 + Int32.toNatClampNeg 400 + Int32.toNatClampNeg 13 + Int32.toNatClampNeg 0) (wC (0 + 1 + 1 + 1 + 1 + 1 + 1 + 1 + 1) (0 + Int32.toNatClampNeg 9 + Int32.toNatClampNeg 13 + Int32.toNatClampNeg 13 + Int32.toNatClampNeg 0 + Int32.toNatClampNeg 400 + Int32.toNatClampNeg 400 + Int32.toNatClampNeg 13 + Int32.toNatClampNeg 0) ((pF h63 (.ref o) 10 11 (.ref o63)).bind fun h65 => (pF h65 (.ref o) 10 0 (.ref a1)).bind fun h70 => (pF h70 (.ref o) 10 1 (.ref a2)).bind fun h75 => some (.inl none, h75))))))))))
section
variable {p : Program} {l : Launch} {e : Env} {s : State} {m : MethodId} {args : Array Value} {below : List Frame} {meth : Method} {c : Code} {D : va_G} {B0 : Nat} {X : Nat → Nat} {ws0 : va_W} {r : aR} {h' : aH} {mc ms : Nat}
theorem hy_X10_init : yX10_init.cls ≠ "java/lang/invoke/MethodHandle" ∧ yX10_init.cls ≠ "java/lang/invoke/VarHandle" ∧ (parseMethodDescriptor yX10_init.desc).map (fun d => d.parameters.length) = some 2 := by decide +kernel
theorem T_X10_init (o : Nat) (a1 : Nat) (a2 : Nat) (h : aH) (r : aR) (h' : aH) (mc ms : Nat) (hs : s_X10_init o a1 a2 h = some (r, h', mc, ms)) : Mt yX10_init (Cond.code yX10_init cX10_init 3 none :: aTB) 1 20 mc ms [.ref o, .ref a1, .ref a2] h r h' := by
  unfold s_X10_init at hs
  refine Mt_of (k := 0) (by decide) rfl (fun p l e s m args below meth c D B0 X ws0 C => ?_)
  show Ev p l e { frames := 1, cells := mc, slots := ms, locals := 20 } s m args below meth c D B0 X ws0 r h' mc ms 3 0 0 0 [some (.ref o), some (.ref a1), some (.ref a2)] [] h
  refine ev_aload_n C (x := .ref o) rfl trivial dX10_init_0 ?_
  refine ev_objInit C wm_X10_3 wi_oinit wc_oinit (Nat.le_of_ble_eq_true rfl) (Nat.le_of_ble_eq_true rfl) dX10_init_1 ?_
  refine ev_aload_n C (x := .ref o) rfl trivial dX10_init_4 ?_
  refine ev_bipush C (v := 9) dX10_init_5 (by decide) ?_
  obtain ⟨o7, h7, e7, hs⟩ := bP_at hs
  obtain ⟨c7, z7, hs⟩ := ck_at hs
  refine ev_newa C (atype := .int) (ty := .int) rfl wa_int (fun _ _ => rfl) e7 c7 z7 dX10_init_7 ?_
  obtain ⟨h9, e9, hs⟩ := aB hs
  refine ev_putF C (ci := 10) (k := 2) rfl wu_10 (by decide) tyX10 tyX10_ok nmX10 wf_X10_9 rfl rfl rfl trivial e9 dX10_init_9 ?_
  refine ev_aload_n C (x := .ref o) rfl trivial dX10_init_12 ?_
  refine ev_bipush C (v := 13) dX10_init_13 (by decide) ?_
  obtain ⟨o15, h15, e15, hs⟩ := bP_at hs
  obtain ⟨c15, z15, hs⟩ := ck_at hs
  refine ev_newa C (atype := .int) (ty := .int) rfl wa_int (fun _ _ => rfl) e15 c15 z15 dX10_init_15 ?_
  obtain ⟨h17, e17, hs⟩ := aB hs
  refine ev_putF C (ci := 10) (k := 4) rfl wu_10 (by decide) tyX10 tyX10_ok nmX10 wf_X10_15 rfl rfl rfl trivial e17 dX10_init_17 ?_
  refine ev_aload_n C (x := .ref o) rfl trivial dX10_init_20 ?_
  refine ev_bipush C (v := 13) dX10_init_21 (by decide) ?_
  obtain ⟨o23, h23, e23, hs⟩ := bP_at hs
  obtain ⟨c23, z23, hs⟩ := ck_at hs
  refine ev_newa C (atype := .int) (ty := .int) rfl wa_int (fun _ _ => rfl) e23 c23 z23 dX10_init_23 ?_
  obtain ⟨h25, e25, hs⟩ := aB hs
  refine ev_putF C (ci := 10) (k := 5) rfl wu_10 (by decide) tyX10 tyX10_ok nmX10 wf_X10_18 rfl rfl rfl trivial e25 dX10_init_25 ?_
  refine ev_aload_n C (x := .ref o) rfl trivial dX10_init_28 ?_
  refine ev_iconst C (v := 0) dX10_init_29 (by decide) ?_
  obtain ⟨o30, h30, e30, hs⟩ := bP_at hs
  obtain ⟨c30, z30, hs⟩ := ck_at hs
  refine ev_newa C (atype := .int) (ty := .int) rfl wa_int (fun _ _ => rfl) e30 c30 z30 dX10_init_30 ?_
  obtain ⟨h32, e32, hs⟩ := aB hs
  refine ev_put C (ci := 10) (k := 6) rfl wu_10 (by decide) tyX10 tyX10_ok nmX10 wf_X10_21 rfl trivial e32 dX10_init_32 ?_
  refine ev_aload_n C (x := .ref o) rfl trivial dX10_init_35 ?_
  refine ev_sipush C (v := 400) dX10_init_36 (by decide) ?_
  obtain ⟨o39, h39, e39, hs⟩ := bP_at hs
  obtain ⟨c39, z39, hs⟩ := ck_at hs
  refine ev_newa C (atype := .int) (ty := .int) rfl wa_int (fun _ _ => rfl) e39 c39 z39 dX10_init_39 ?_
  obtain ⟨h41, e41, hs⟩ := aB hs
  refine ev_putF C (ci := 10) (k := 8) rfl wu_10 (by decide) tyX10 tyX10_ok nmX10 wf_X10_24 rfl rfl rfl trivial e41 dX10_init_41 ?_
  refine ev_aload_n C (x := .ref o) rfl trivial dX10_init_44 ?_
  refine ev_sipush C (v := 400) dX10_init_45 (by decide) ?_
  obtain ⟨o48, h48, e48, hs⟩ := bP_at hs
  obtain ⟨c48, z48, hs⟩ := ck_at hs
  refine ev_newa C (atype := .int) (ty := .int) rfl wa_int (fun _ _ => rfl) e48 c48 z48 dX10_init_48 ?_
  obtain ⟨h50, e50, hs⟩ := aB hs
  refine ev_putF C (ci := 10) (k := 9) rfl wu_10 (by decide) tyX10 tyX10_ok nmX10 wf_X10_27 rfl rfl rfl trivial e50 dX10_init_50 ?_
  refine ev_aload_n C (x := .ref o) rfl trivial dX10_init_53 ?_
  refine ev_bipush C (v := 13) dX10_init_54 (by decide) ?_
  obtain ⟨o56, h56, e56, hs⟩ := bP_at hs
  obtain ⟨c56, z56, hs⟩ := ck_at hs
  refine ev_newa C (atype := .int) (ty := .int) rfl wa_int (fun _ _ => rfl) e56 c56 z56 dX10_init_56 ?_
  obtain ⟨h58, e58, hs⟩ := aB hs
  refine ev_putF C (ci := 10) (k := 10) rfl wu_10 (by decide) tyX10 tyX10_ok nmX10 wf_X10_30 rfl rfl rfl trivial e58 dX10_init_58 ?_
  refine ev_aload_n C (x := .ref o) rfl trivial dX10_init_61 ?_
  refine ev_iconst C (v := 0) dX10_init_62 (by decide) ?_
  obtain ⟨o63, h63, e63, hs⟩ := bP_at hs
  obtain ⟨c63, z63, hs⟩ := ck_at hs
  refine ev_newa C (atype := .int) (ty := .int) rfl wa_int (fun _ _ => rfl) e63 c63 z63 dX10_init_63 ?_
  obtain ⟨hw9, rfl, rfl⟩ := wC_at hs
  have hs := hw9
  obtain ⟨h65, e65, hs⟩ := aB hs
  refine ev_put C (ci := 10) (k := 11) rfl wu_10 (by decide) tyX10 tyX10_ok nmX10 wf_X10_33 rfl trivial e65 dX10_init_65 ?_
  refine ev_aload_n C (x := .ref o) rfl trivial dX10_init_68 ?_
  refine ev_aload_n C (x := .ref a1) rfl trivial dX10_init_69 ?_
  obtain ⟨h70, e70, hs⟩ := aB hs
  refine ev_putF C (ci := 10) (k := 0) rfl wu_10 (by decide) tyX10 tyX10_ok nmX10 wf_X10_36 rfl rfl rfl trivial e70 dX10_init_70 ?_
  refine ev_aload_n C (x := .ref o) rfl trivial dX10_init_73 ?_
  refine ev_aload_n C (x := .ref a2) rfl trivial dX10_init_74 ?_
  obtain ⟨h75, e75, hs⟩ := aB hs
  refine ev_putF C (ci := 10) (k := 1) rfl wu_10 (by decide) tyX10 tyX10_ok nmX10 wf_X10_40 rfl rfl rfl trivial e75 dX10_init_75 ?_
  cases hs
  exact ev_vret C rfl rfl (Nat.le_refl _) (Nat.le_refl _) rfl dX10_init_78
end
-- X10_renew
theorem dX10_renew_0 : decode cX10_renew 0 = .ok (.aload_n 0, 1) := by decide +kernel
theorem dX10_renew_1 : decode cX10_renew 1 = .ok (.getfield 15, 3) := by decide +kernel
theorem dX10_renew_4 : decode cX10_renew 4 = .ok (.iconst 0, 1) := by decide +kernel
theorem dX10_renew_5 : decode cX10_renew 5 = .ok (.invokestatic 44, 3) := by decide +kernel
theorem dX10_renew_8 : decode cX10_renew 8 = .ok (.aload_n 0, 1) := by decide +kernel
theorem dX10_renew_9 : decode cX10_renew 9 = .ok (.getfield 18, 3) := by decide +kernel
theorem dX10_renew_12 : decode cX10_renew 12 = .ok (.iconst 0, 1) := by decide +kernel
theorem dX10_renew_13 : decode cX10_renew 13 = .ok (.invokestatic 44, 3) := by decide +kernel
theorem dX10_renew_16 : decode cX10_renew 16 = .ok (.aload_n 0, 1) := by decide +kernel
theorem dX10_renew_17 : decode cX10_renew 17 = .ok (.aload_n 0, 1) := by decide +kernel
theorem dX10_renew_18 : decode cX10_renew 18 = .ok (.getfield 21, 3) := by decide +kernel
theorem dX10_renew_21 : decode cX10_renew 21 = .ok (.aload_n 0, 1) := by decide +kernel
theorem dX10_renew_22 : decode cX10_renew 22 = .ok (.getfield 36, 3) := by decide +kernel
theorem dX10_renew_25 : decode cX10_renew 25 = .ok (.getfield 50, 3) := by decide +kernel
theorem dX10_renew_28 : decode cX10_renew 28 = .ok (.aload_n 0, 1) := by decide +kernel
theorem dX10_renew_29 : decode cX10_renew 29 = .ok (.getfield 36, 3) := by decide +kernel
theorem dX10_renew_32 : decode cX10_renew 32 = .ok (.getfield 56, 3) := by decide +kernel
theorem dX10_renew_35 : decode cX10_renew 35 = .ok (.imul, 1) := by decide +kernel
theorem dX10_renew_36 : decode cX10_renew 36 = .ok (.invokestatic 59, 3) := by decide +kernel
theorem dX10_renew_39 : decode cX10_renew 39 = .ok (.putfield 21, 3) := by decide +kernel
theorem dX10_renew_42 : decode cX10_renew 42 = .ok (.aload_n 0, 1) := by decide +kernel
theorem dX10_renew_43 : decode cX10_renew 43 = .ok (.getfield 21, 3) := by decide +kernel
theorem dX10_renew_46 : decode cX10_renew 46 = .ok (.iconst 0, 1) := by decide +kernel
theorem dX10_renew_47 : decode cX10_renew 47 = .ok (.invokestatic 44, 3) := by decide +kernel
theorem dX10_renew_50 : decode cX10_renew 50 = .ok (.iconst 0, 1) := by decide +kernel
theorem dX10_renew_51 : decode cX10_renew 51 = .ok (.istore_n 1, 1) := by decide +kernel
theorem dX10_renew_52 : decode cX10_renew 52 = .ok (.iload_n 1, 1) := by decide +kernel
theorem dX10_renew_53 : decode cX10_renew 53 = .ok (.aload_n 0, 1) := by decide +kernel
theorem dX10_renew_54 : decode cX10_renew 54 = .ok (.getfield 36, 3) := by decide +kernel
theorem dX10_renew_57 : decode cX10_renew 57 = .ok (.getfield 50, 3) := by decide +kernel
theorem dX10_renew_60 : decode cX10_renew 60 = .ok (.if_icmp .ge 26, 3) := by decide +kernel
theorem dX10_renew_63 : decode cX10_renew 63 = .ok (.aload_n 0, 1) := by decide +kernel
theorem dX10_renew_64 : decode cX10_renew 64 = .ok (.getfield 15, 3) := by decide +kernel
theorem dX10_renew_67 : decode cX10_renew 67 = .ok (.iload_n 1, 1) := by decide +kernel
theorem dX10_renew_68 : decode cX10_renew 68 = .ok (.iconst 5, 1) := by decide +kernel
theorem dX10_renew_69 : decode cX10_renew 69 = .ok (.ishr, 1) := by decide +kernel
theorem dX10_renew_70 : decode cX10_renew 70 = .ok (.dup2, 1) := by decide +kernel
theorem dX10_renew_71 : decode cX10_renew 71 = .ok (.iaload, 1) := by decide +kernel
theorem dX10_renew_72 : decode cX10_renew 72 = .ok (.iconst 1, 1) := by decide +kernel
theorem dX10_renew_73 : decode cX10_renew 73 = .ok (.iload_n 1, 1) := by decide +kernel
theorem dX10_renew_74 : decode cX10_renew 74 = .ok (.bipush 31, 2) := by decide +kernel
theorem dX10_renew_76 : decode cX10_renew 76 = .ok (.iand, 1) := by decide +kernel
theorem dX10_renew_77 : decode cX10_renew 77 = .ok (.ishl, 1) := by decide +kernel
theorem dX10_renew_78 : decode cX10_renew 78 = .ok (.ior, 1) := by decide +kernel
theorem dX10_renew_79 : decode cX10_renew 79 = .ok (.iastore, 1) := by decide +kernel
theorem dX10_renew_80 : decode cX10_renew 80 = .ok (.iinc 1 1, 3) := by decide +kernel
theorem dX10_renew_83 : decode cX10_renew 83 = .ok (.goto (-31), 3) := by decide +kernel
theorem dX10_renew_86 : decode cX10_renew 86 = .ok (.aload_n 0, 1) := by decide +kernel
theorem dX10_renew_87 : decode cX10_renew 87 = .ok (.aload_n 0, 1) := by decide +kernel
theorem dX10_renew_88 : decode cX10_renew 88 = .ok (.getfield 36, 3) := by decide +kernel
theorem dX10_renew_91 : decode cX10_renew 91 = .ok (.getfield 50, 3) := by decide +kernel
theorem dX10_renew_94 : decode cX10_renew 94 = .ok (.putfield 63, 3) := by decide +kernel
theorem dX10_renew_97 : decode cX10_renew 97 = .ok (.aload_n 0, 1) := by decide +kernel
theorem dX10_renew_98 : decode cX10_renew 98 = .ok (.iconst 0, 1) := by decide +kernel
theorem dX10_renew_99 : decode cX10_renew 99 = .ok (.putfield 66, 3) := by decide +kernel
theorem dX10_renew_102 : decode cX10_renew 102 = .ok (.return_, 1) := by decide +kernel
def s_X10_renew_52_b  (k52 : Nat → Int32 → aH → aO) (l0 : Nat) (l1 : Int32) (h : aH) : aO :=
  (gO h (.ref l0) 10 0).bind fun x54 => (gI h (.ref x54) 2 12).bind fun x57 => if x57 ≤ l1 then ((gO h (.ref l0) 10 0).bind fun x88 => (gI h (.ref x88) 2 12).bind fun x91 => (pF h (.ref l0) 10 3 (.int x91)).bind fun h94 => (pZ h94 (.ref l0) 10 7 0).bind fun h99 => some (.inl none, h99)) else ((gO h (.ref l0) 10 4).bind fun x64 => (ldI .int h (.ref x64) (l1 >>> (5 &&& 31))).bind fun x71 => (stI h (.ref x64) (l1 >>> (5 &&& 31)) (x71 ||| (1 <<< ((l1 &&& 31) &&& 31)))).bind fun h79 => k52 l0 (l1 + 1) h79)
def s_X10_renew_52  (n : Nat) : Nat → Int32 → aH → aO := lpF (fun _ _ _ => none) (s_X10_renew_52_b ) n
def s_X10_renew (o : Nat) (h : aH) : aP :=
  (gO h (.ref o) 10 4).bind fun x1 => cN (s_J7_fill_53178 x1 0 h) fun h5 => ck 0 0 ((gO h5 (.ref o) 10 5).bind fun x9 => cN (s_J7_fill_53178 x9 0 h5) fun h13 => ck 0 0 ((gO h13 (.ref o) 10 6).bind fun x18 => (gO h13 (.ref o) 10 0).bind fun x22 => (gI h13 (.ref x22) 2 12).bind fun x25 => (gO h13 (.ref o) 10 0).bind fun x29 => (gI h13 (.ref x29) 2 13).bind fun x32 => dR (s_X11_longEnough x18 (x25 * x32) h13) fun x36 h36 n36 y36 => ck (0 + n36) (0 + y36) (wC (0 + n36) (0 + y36) ((pF h36 (.ref o) 10 6 (.ref x36)).bind fun h39 => (gO h39 (.ref o) 10 6).bind fun x43 => cN (s_J7_fill_53178 x43 0 h39) fun h47 => s_X10_renew_52 FU o 0 h47))))
section
variable {p : Program} {l : Launch} {e : Env} {s : State} {m : MethodId} {args : Array Value} {below : List Frame} {meth : Method} {c : Code} {D : va_G} {B0 : Nat} {X : Nat → Nat} {ws0 : va_W} {r : aR} {h' : aH} {mc ms : Nat}
theorem t_X10_renew_52_b (C : Cx p l s m args meth c B0 X RX10 "renew" cX10_renew 2 none [])   {k52 : Nat → Int32 → aH → aO} (K52 : ∀ (l0 : Nat) (l1 : Int32) (h : aH), k52 l0 l1 h = some (r, h') → Ev p l e { frames := 2, cells := mc, slots := ms, locals := 44 } s m args below meth c D B0 X ws0 r h' mc ms 2 mc ms 52 [some (.ref l0), some (.int l1)] [] h) {l0 : Nat} {l1 : Int32} {h : aH} (hs : s_X10_renew_52_b  k52 l0 l1 h = some (r, h')) : Ev p l e { frames := 2, cells := mc, slots := ms, locals := 44 } s m args below meth c D B0 X ws0 r h' mc ms 2 mc ms 52 [some (.ref l0), some (.int l1)] [] h := by
  unfold s_X10_renew_52_b at hs
  refine ev_iload_n C rfl dX10_renew_52 ?_
  refine ev_aload_n C (x := .ref l0) rfl trivial dX10_renew_53 ?_
  obtain ⟨x54, e54, hs⟩ := aB hs
  refine ev_get C (ci := 10) (k := 0) rfl wu_10 (by decide) wf_X10_36 (gO_F e54) dX10_renew_54 ?_
  obtain ⟨x57, e57, hs⟩ := aB hs
  refine ev_getN C (ci := 2) (k := 12) rfl wu_2 (by decide) wg_X10_50 (gI_F e57) dX10_renew_57 ?_
  refine ev_icmp_ge C (tgt := 86) (by decide) dX10_renew_60 (fun q60 => ?_) (fun q60 => ?_)
  · replace hs := (if_pos q60).symm.trans hs
    refine ev_aload_n C (x := .ref l0) rfl trivial dX10_renew_86 ?_
    refine ev_aload_n C (x := .ref l0) rfl trivial dX10_renew_87 ?_
    obtain ⟨x88, e88, hs⟩ := aB hs
    refine ev_get C (ci := 10) (k := 0) rfl wu_10 (by decide) wf_X10_36 (gO_F e88) dX10_renew_88 ?_
    obtain ⟨x91, e91, hs⟩ := aB hs
    refine ev_getN C (ci := 2) (k := 12) rfl wu_2 (by decide) wg_X10_50 (gI_F e91) dX10_renew_91 ?_
    obtain ⟨h94, e94, hs⟩ := aB hs
    refine ev_put C (ci := 10) (k := 3) rfl wu_10 (by decide) tyX10 tyX10_ok nmX10 wf_X10_63 rfl trivial e94 dX10_renew_94 ?_
    refine ev_aload_n C (x := .ref l0) rfl trivial dX10_renew_97 ?_
    refine ev_iconst C (v := 0) dX10_renew_98 (by decide) ?_
    obtain ⟨h99, e99, hs⟩ := aB hs
    refine ev_put C (ci := 10) (k := 7) rfl wu_10 (by decide) tyX10 tyX10_ok nmX10 wf_X10_66 rfl (pZ_F e99).2 (pZ_F e99).1 dX10_renew_99 ?_
    cases hs
    exact ev_vret C rfl rfl (Nat.le_refl _) (Nat.le_refl _) rfl dX10_renew_102
  · replace hs := (if_neg q60).symm.trans hs
    refine ev_aload_n C (x := .ref l0) rfl trivial dX10_renew_63 ?_
    obtain ⟨x64, e64, hs⟩ := aB hs
    refine ev_get C (ci := 10) (k := 4) rfl wu_10 (by decide) wf_X10_15 (gO_F e64) dX10_renew_64 ?_
    refine ev_iload_n C rfl dX10_renew_67 ?_
    refine ev_iconst C (v := 5) dX10_renew_68 (by decide) ?_
    refine ev_ishr C dX10_renew_69 ?_
    refine ev_dup2 C rfl rfl dX10_renew_70 ?_
    obtain ⟨x71, e71, hs⟩ := aB hs
    refine ev_iald C e71 dX10_renew_71 ?_
    refine ev_iconst C (v := 1) dX10_renew_72 (by decide) ?_
    refine ev_iload_n C rfl dX10_renew_73 ?_
    refine ev_bipush C (v := 31) dX10_renew_74 (by decide) ?_
    refine ev_iand C dX10_renew_76 ?_
    refine ev_ishl C dX10_renew_77 ?_
    refine ev_ior C dX10_renew_78 ?_
    obtain ⟨h79, e79, hs⟩ := aB hs
    refine ev_iast C e79 dX10_renew_79 ?_
    refine ev_iinc C (i := 1) (n := 1) (x := l1) (v := l1 + 1) rfl (congrArg (fun z => l1 + z) (show Int32.ofInt 1 = 1 by decide)) (by decide) dX10_renew_80 ?_
    refine ev_goto C (tgt := 52) (by decide) dX10_renew_83 ?_
    exact (K52 _ _ _ hs)
theorem t_X10_renew_52 (C : Cx p l s m args meth c B0 X RX10 "renew" cX10_renew 2 none [])   : ∀ (n : Nat) {l0 : Nat} {l1 : Int32} {h : aH} (hs : s_X10_renew_52  n l0 l1 h = some (r, h')), Ev p l e { frames := 2, cells := mc, slots := ms, locals := 44 } s m args below meth c D B0 X ws0 r h' mc ms 2 mc ms 52 [some (.ref l0), some (.int l1)] [] h
  | 0, _, _, _, hs => nomatch hs
  | n + 1, _, _, _, hs => t_X10_renew_52_b C  (k52 := s_X10_renew_52  n) (fun _ _ _ hs => t_X10_renew_52 C  n hs) hs
theorem hy_X10_renew : yX10_renew.cls ≠ "java/lang/invoke/MethodHandle" ∧ yX10_renew.cls ≠ "java/lang/invoke/VarHandle" ∧ (parseMethodDescriptor yX10_renew.desc).map (fun d => d.parameters.length) = some 0 := by decide +kernel
theorem T_X10_renew (o : Nat) (h : aH) (r : aR) (h' : aH) (mc ms : Nat) (hs : s_X10_renew o h = some (r, h', mc, ms)) : Mt yX10_renew (Cond.code yX10_renew cX10_renew 2 none :: aTB) 2 44 mc ms [.ref o] h r h' := by
  unfold s_X10_renew at hs
  refine Mt_of (k := 1) (by decide) rfl (fun p l e s m args below meth c D B0 X ws0 C => ?_)
  show Ev p l e { frames := 2, cells := mc, slots := ms, locals := 44 } s m args below meth c D B0 X ws0 r h' mc ms 2 0 0 0 [some (.ref o), none] [] h
  refine ev_aload_n C (x := .ref o) rfl trivial dX10_renew_0 ?_
  obtain ⟨x1, e1, hs⟩ := aB hs
  refine ev_get C (ci := 10) (k := 4) rfl wu_10 (by decide) wf_X10_15 (gO_F e1) dX10_renew_1 ?_
  refine ev_iconst C (v := 0) dX10_renew_4 (by decide) ?_
  obtain ⟨h5, e5, hs⟩ := cN_at hs
  obtain ⟨c5, z5, hs⟩ := ck_at hs
  refine ev_callS C (T_J7_fill_53178 _ _ _ _ _ e5) wc_J7_fill_53178 wm_X10_44 wt_J7_fill_53178 wz_J7 hy_J7_fill_53178 ⟨(Nat.le_of_ble_eq_true rfl), (Nat.le_of_ble_eq_true rfl)⟩ ⟨c5, z5⟩ (Nat.le_of_ble_eq_true rfl) rfl dX10_renew_5 ?_
  refine ev_aload_n C (x := .ref o) rfl trivial dX10_renew_8 ?_
  obtain ⟨x9, e9, hs⟩ := aB hs
  refine ev_get C (ci := 10) (k := 5) rfl wu_10 (by decide) wf_X10_18 (gO_F e9) dX10_renew_9 ?_
  refine ev_iconst C (v := 0) dX10_renew_12 (by decide) ?_
  obtain ⟨h13, e13, hs⟩ := cN_at hs
  obtain ⟨c13, z13, hs⟩ := ck_at hs
  refine ev_callS C (T_J7_fill_53178 _ _ _ _ _ e13) wc_J7_fill_53178 wm_X10_44 wt_J7_fill_53178 wz_J7 hy_J7_fill_53178 ⟨(Nat.le_of_ble_eq_true rfl), (Nat.le_of_ble_eq_true rfl)⟩ ⟨c13, z13⟩ (Nat.le_of_ble_eq_true rfl) rfl dX10_renew_13 ?_
  refine ev_aload_n C (x := .ref o) rfl trivial dX10_renew_16 ?_
  refine ev_aload_n C (x := .ref o) rfl trivial dX10_renew_17 ?_
  obtain ⟨x18, e18, hs⟩ := aB hs
  refine ev_get C (ci := 10) (k := 6) rfl wu_10 (by decide) wf_X10_21 (gO_F e18) dX10_renew_18 ?_
  refine ev_aload_n C (x := .ref o) rfl trivial dX10_renew_21 ?_
  obtain ⟨x22, e22, hs⟩ := aB hs
  refine ev_get C (ci := 10) (k := 0) rfl wu_10 (by decide) wf_X10_36 (gO_F e22) dX10_renew_22 ?_
  obtain ⟨x25, e25, hs⟩ := aB hs
  refine ev_getN C (ci := 2) (k := 12) rfl wu_2 (by decide) wg_X10_50 (gI_F e25) dX10_renew_25 ?_
  refine ev_aload_n C (x := .ref o) rfl trivial dX10_renew_28 ?_
  obtain ⟨x29, e29, hs⟩ := aB hs
  refine ev_get C (ci := 10) (k := 0) rfl wu_10 (by decide) wf_X10_36 (gO_F e29) dX10_renew_29 ?_
  obtain ⟨x32, e32, hs⟩ := aB hs
  refine ev_getN C (ci := 2) (k := 13) rfl wu_2 (by decide) wg_X10_56 (gI_F e32) dX10_renew_32 ?_
  refine ev_imul C dX10_renew_35 ?_
  obtain ⟨x36, h36, n36, y36, e36, hs⟩ := dR_at hs
  obtain ⟨c36, z36, hs⟩ := ck_at hs
  refine ev_callSN C (T_X11_longEnough _ _ _ _ _ _ _ e36) wc_X11_longEnough wn_X10_59 wt_X11_longEnough wz_X11 hy_X11_longEnough ⟨(Nat.le_of_ble_eq_true rfl), (Nat.le_of_ble_eq_true rfl)⟩ ⟨c36, z36⟩ (Nat.le_of_ble_eq_true rfl) rfl dX10_renew_36 ?_
  obtain ⟨hw9, rfl, rfl⟩ := wC_at hs
  have hs := hw9
  obtain ⟨h39, e39, hs⟩ := aB hs
  refine ev_put C (ci := 10) (k := 6) rfl wu_10 (by decide) tyX10 tyX10_ok nmX10 wf_X10_21 rfl trivial e39 dX10_renew_39 ?_
  refine ev_aload_n C (x := .ref o) rfl trivial dX10_renew_42 ?_
  obtain ⟨x43, e43, hs⟩ := aB hs
  refine ev_get C (ci := 10) (k := 6) rfl wu_10 (by decide) wf_X10_21 (gO_F e43) dX10_renew_43 ?_
  refine ev_iconst C (v := 0) dX10_renew_46 (by decide) ?_
  obtain ⟨h47, e47, hs⟩ := cN_at hs
  refine ev_callS C (T_J7_fill_53178 _ _ _ _ _ e47) wc_J7_fill_53178 wm_X10_44 wt_J7_fill_53178 wz_J7 hy_J7_fill_53178 ⟨(Nat.le_of_ble_eq_true rfl), (Nat.le_of_ble_eq_true rfl)⟩ ⟨(Nat.le_refl _), (Nat.le_refl _)⟩ (Nat.le_of_ble_eq_true rfl) rfl dX10_renew_47 ?_
  refine ev_iconst C (v := 0) dX10_renew_50 (by decide) ?_
  refine ev_istore_n C (by decide) dX10_renew_51 ?_
  exact (t_X10_renew_52 C  FU hs)
end
-- X10_markAll
theorem dX10_markAll_0 : decode cX10_markAll 0 = .ok (.iconst 0, 1) := by decide +kernel
theorem dX10_markAll_1 : decode cX10_markAll 1 = .ok (.istore_n 3, 1) := by decide +kernel
theorem dX10_markAll_2 : decode cX10_markAll 2 = .ok (.aload_n 2, 1) := by decide +kernel
theorem dX10_markAll_3 : decode cX10_markAll 3 = .ok (.iconst 0, 1) := by decide +kernel
theorem dX10_markAll_4 : decode cX10_markAll 4 = .ok (.invokestatic 44, 3) := by decide +kernel
theorem dX10_markAll_7 : decode cX10_markAll 7 = .ok (.iconst 0, 1) := by decide +kernel
theorem dX10_markAll_8 : decode cX10_markAll 8 = .ok (.istore 4, 2) := by decide +kernel
theorem dX10_markAll_10 : decode cX10_markAll 10 = .ok (.iload 4, 2) := by decide +kernel
theorem dX10_markAll_12 : decode cX10_markAll 12 = .ok (.aload_n 0, 1) := by decide +kernel
theorem dX10_markAll_13 : decode cX10_markAll 13 = .ok (.getfield 36, 3) := by decide +kernel
theorem dX10_markAll_16 : decode cX10_markAll 16 = .ok (.getfield 50, 3) := by decide +kernel
theorem dX10_markAll_19 : decode cX10_markAll 19 = .ok (.if_icmp .ge 59, 3) := by decide +kernel
theorem dX10_markAll_22 : decode cX10_markAll 22 = .ok (.aload_n 0, 1) := by decide +kernel
theorem dX10_markAll_23 : decode cX10_markAll 23 = .ok (.getfield 36, 3) := by decide +kernel
theorem dX10_markAll_26 : decode cX10_markAll 26 = .ok (.iconst 0, 1) := by decide +kernel
theorem dX10_markAll_27 : decode cX10_markAll 27 = .ok (.iload 4, 2) := by decide +kernel
theorem dX10_markAll_29 : decode cX10_markAll 29 = .ok (.iconst 0, 1) := by decide +kernel
theorem dX10_markAll_30 : decode cX10_markAll 30 = .ok (.aload_n 0, 1) := by decide +kernel
theorem dX10_markAll_31 : decode cX10_markAll 31 = .ok (.getfield 9, 3) := by decide +kernel
theorem dX10_markAll_34 : decode cX10_markAll 34 = .ok (.invokevirtual 74, 3) := by decide +kernel
theorem dX10_markAll_37 : decode cX10_markAll 37 = .ok (.aload_n 1, 1) := by decide +kernel
theorem dX10_markAll_38 : decode cX10_markAll 38 = .ok (.iconst 0, 1) := by decide +kernel
theorem dX10_markAll_39 : decode cX10_markAll 39 = .ok (.aload_n 1, 1) := by decide +kernel
theorem dX10_markAll_40 : decode cX10_markAll 40 = .ok (.getfield 78, 3) := by decide +kernel
theorem dX10_markAll_43 : decode cX10_markAll 43 = .ok (.aload_n 0, 1) := by decide +kernel
theorem dX10_markAll_44 : decode cX10_markAll 44 = .ok (.getfield 9, 3) := by decide +kernel
theorem dX10_markAll_47 : decode cX10_markAll 47 = .ok (.invokevirtual 83, 3) := by decide +kernel
theorem dX10_markAll_50 : decode cX10_markAll 50 = .ok (.ifCond .eq 22, 3) := by decide +kernel
theorem dX10_markAll_53 : decode cX10_markAll 53 = .ok (.aload_n 2, 1) := by decide +kernel
theorem dX10_markAll_54 : decode cX10_markAll 54 = .ok (.iload 4, 2) := by decide +kernel
theorem dX10_markAll_56 : decode cX10_markAll 56 = .ok (.iconst 5, 1) := by decide +kernel
theorem dX10_markAll_57 : decode cX10_markAll 57 = .ok (.ishr, 1) := by decide +kernel
theorem dX10_markAll_58 : decode cX10_markAll 58 = .ok (.dup2, 1) := by decide +kernel
theorem dX10_markAll_59 : decode cX10_markAll 59 = .ok (.iaload, 1) := by decide +kernel
theorem dX10_markAll_60 : decode cX10_markAll 60 = .ok (.iconst 1, 1) := by decide +kernel
theorem dX10_markAll_61 : decode cX10_markAll 61 = .ok (.iload 4, 2) := by decide +kernel
theorem dX10_markAll_63 : decode cX10_markAll 63 = .ok (.bipush 31, 2) := by decide +kernel
theorem dX10_markAll_65 : decode cX10_markAll 65 = .ok (.iand, 1) := by decide +kernel
theorem dX10_markAll_66 : decode cX10_markAll 66 = .ok (.ishl, 1) := by decide +kernel
theorem dX10_markAll_67 : decode cX10_markAll 67 = .ok (.ior, 1) := by decide +kernel
theorem dX10_markAll_68 : decode cX10_markAll 68 = .ok (.iastore, 1) := by decide +kernel
theorem dX10_markAll_69 : decode cX10_markAll 69 = .ok (.iinc 3 1, 3) := by decide +kernel
theorem dX10_markAll_72 : decode cX10_markAll 72 = .ok (.iinc 4 1, 3) := by decide +kernel
theorem dX10_markAll_75 : decode cX10_markAll 75 = .ok (.goto (-65), 3) := by decide +kernel
theorem dX10_markAll_78 : decode cX10_markAll 78 = .ok (.iload_n 3, 1) := by decide +kernel
theorem dX10_markAll_79 : decode cX10_markAll 79 = .ok (.ireturn, 1) := by decide +kernel
def s_X10_markAll_10_b  (k10 : Nat → Nat → Nat → Int32 → Int32 → aH → aO) (l0 : Nat) (l1 : Nat) (l2 : Nat) (l3 : Int32) (l4 : Int32) (h : aH) : aO :=
  (gO h (.ref l0) 10 0).bind fun x13 => (gI h (.ref x13) 2 12).bind fun x16 => if x16 ≤ l4 then (some (.inl (some (.int l3)), h)) else ((gO h (.ref l0) 10 0).bind fun x23 => (gO h (.ref l0) 10 2).bind fun x31 => kO h x23 2 (cN (s_X2_spread x23 0 l4 0 x31 h) fun h34 => (gI h34 (.ref l1) 0 4).bind fun x40 => (gO h34 (.ref l0) 10 2).bind fun x44 => kO h34 l1 0 (cI (s_X0_allHold l1 0 x40 x44 h34) fun x47 h47 => if x47 = 0 then (k10 l0 l1 l2 l3 (l4 + 1) h47) else ((ldI .int h47 (.ref l2) (l4 >>> (5 &&& 31))).bind fun x59 => (stI h47 (.ref l2) (l4 >>> (5 &&& 31)) (x59 ||| (1 <<< ((l4 &&& 31) &&& 31)))).bind fun h68 => k10 l0 l1 l2 (l3 + 1) (l4 + 1) h68))))
def s_X10_markAll_10  (n : Nat) : Nat → Nat → Nat → Int32 → Int32 → aH → aO := lpF (fun _ _ _ _ _ _ => none) (s_X10_markAll_10_b ) n
def s_X10_markAll (o : Nat) (a1 : Nat) (a2 : Nat) (h : aH) : aO :=
  cN (s_J7_fill_53178 a2 0 h) fun h4 => s_X10_markAll_10 FU o a1 a2 0 0 h4
section
variable {p : Program} {l : Launch} {e : Env} {s : State} {m : MethodId} {args : Array Value} {below : List Frame} {meth : Method} {c : Code} {D : va_G} {B0 : Nat} {X : Nat → Nat} {ws0 : va_W} {r : aR} {h' : aH} {mc ms : Nat}
theorem t_X10_markAll_10_b (C : Cx p l s m args meth c B0 X RX10 "markAll" cX10_markAll 5 (some .int) [])   {k10 : Nat → Nat → Nat → Int32 → Int32 → aH → aO} (K10 : ∀ (l0 : Nat) (l1 : Nat) (l2 : Nat) (l3 : Int32) (l4 : Int32) (h : aH), k10 l0 l1 l2 l3 l4 h = some (r, h') → Ev p l e { frames := 2, cells := mc, slots := ms, locals := 55 } s m args below meth c D B0 X ws0 r h' mc ms 5 mc ms 10 [some (.ref l0), some (.ref l1), some (.ref l2), some (.int l3), some (.int l4)] [] h) {l0 : Nat} {l1 : Nat} {l2 : Nat} {l3 : Int32} {l4 : Int32} {h : aH} (hs : s_X10_markAll_10_b  k10 l0 l1 l2 l3 l4 h = some (r, h')) : Ev p l e { frames := 2, cells := mc, slots := ms, locals := 55 } s m args below meth c D B0 X ws0 r h' mc ms 5 mc ms 10 [some (.ref l0), some (.ref l1), some (.ref l2), some (.int l3), some (.int l4)] [] h := by
  unfold s_X10_markAll_10_b at hs
  refine ev_iload C rfl dX10_markAll_10 ?_
  refine ev_aload_n C (x := .ref l0) rfl trivial dX10_markAll_12 ?_
  obtain ⟨x13, e13, hs⟩ := aB hs
  refine ev_get C (ci := 10) (k := 0) rfl wu_10 (by decide) wf_X10_36 (gO_F e13) dX10_markAll_13 ?_
  obtain ⟨x16, e16, hs⟩ := aB hs
  refine ev_getN C (ci := 2) (k := 12) rfl wu_2 (by decide) wg_X10_50 (gI_F e16) dX10_markAll_16 ?_
  refine ev_icmp_ge C (tgt := 78) (by decide) dX10_markAll_19 (fun q19 => ?_) (fun q19 => ?_)
  · replace hs := (if_pos q19).symm.trans hs
    refine ev_iload_n C rfl dX10_markAll_78 ?_
    cases hs
    exact ev_iret C rfl rfl (Nat.le_refl _) (Nat.le_refl _) rfl dX10_markAll_79
  · replace hs := (if_neg q19).symm.trans hs
    refine ev_aload_n C (x := .ref l0) rfl trivial dX10_markAll_22 ?_
    obtain ⟨x23, e23, hs⟩ := aB hs
    refine ev_get C (ci := 10) (k := 0) rfl wu_10 (by decide) wf_X10_36 (gO_F e23) dX10_markAll_23 ?_
    refine ev_iconst C (v := 0) dX10_markAll_26 (by decide) ?_
    refine ev_iload C rfl dX10_markAll_27 ?_
    refine ev_iconst C (v := 0) dX10_markAll_29 (by decide) ?_
    refine ev_aload_n C (x := .ref l0) rfl trivial dX10_markAll_30 ?_
    obtain ⟨x31, e31, hs⟩ := aB hs
    refine ev_get C (ci := 10) (k := 2) rfl wu_10 (by decide) wf_X10_9 (gO_F e31) dX10_markAll_31 ?_
    obtain ⟨eo34, hs⟩ := kO_at hs
    obtain ⟨h34, e34, hs⟩ := cN_at hs
    refine ev_callVN C (T_X2_spread _ _ _ _ _ _ _ _ e34) (ci := 2) rfl eo34 wc_X2_spread wn_X10_74 wi_X2_spread ws_X2_spread wz_X2 hy_X2_spread ⟨(Nat.le_of_ble_eq_true rfl), (Nat.le_of_ble_eq_true rfl)⟩ ⟨(Nat.le_refl _), (Nat.le_refl _)⟩ (Nat.le_of_ble_eq_true rfl) rfl dX10_markAll_34 ?_
    refine ev_aload_n C (x := .ref l1) rfl trivial dX10_markAll_37 ?_
    refine ev_iconst C (v := 0) dX10_markAll_38 (by decide) ?_
    refine ev_aload_n C (x := .ref l1) rfl trivial dX10_markAll_39 ?_
    obtain ⟨x40, e40, hs⟩ := aB hs
    refine ev_getN C (ci := 0) (k := 4) rfl wu_0 (by decide) wg_X10_78 (gI_F e40) dX10_markAll_40 ?_
    refine ev_aload_n C (x := .ref l0) rfl trivial dX10_markAll_43 ?_
    obtain ⟨x44, e44, hs⟩ := aB hs
    refine ev_get C (ci := 10) (k := 2) rfl wu_10 (by decide) wf_X10_9 (gO_F e44) dX10_markAll_44 ?_
    obtain ⟨eo47, hs⟩ := kO_at hs
    obtain ⟨x47, h47, e47, hs⟩ := cI_at hs
    refine ev_callVN C (T_X0_allHold _ _ _ _ _ _ _ e47) (ci := 0) rfl eo47 wc_X0_allHold wn_X10_83 wi_X0_allHold ws_X0_allHold wz_X0 hy_X0_allHold ⟨(Nat.le_of_ble_eq_true rfl), (Nat.le_of_ble_eq_true rfl)⟩ ⟨(Nat.le_refl _), (Nat.le_refl _)⟩ (Nat.le_of_ble_eq_true rfl) rfl dX10_markAll_47 ?_
    refine ev_if_eq C (tgt := 72) (by decide) dX10_markAll_50 (fun q50 => ?_) (fun q50 => ?_)
    · replace hs := (if_pos q50).symm.trans hs
      refine ev_iinc C (i := 4) (n := 1) (x := l4) (v := l4 + 1) rfl (congrArg (fun z => l4 + z) (show Int32.ofInt 1 = 1 by decide)) (by decide) dX10_markAll_72 ?_
      refine ev_goto C (tgt := 10) (by decide) dX10_markAll_75 ?_
      exact (K10 _ _ _ _ _ _ hs)
    · replace hs := (if_neg q50).symm.trans hs
      refine ev_aload_n C (x := .ref l2) rfl trivial dX10_markAll_53 ?_
      refine ev_iload C rfl dX10_markAll_54 ?_
      refine ev_iconst C (v := 5) dX10_markAll_56 (by decide) ?_
      refine ev_ishr C dX10_markAll_57 ?_
      refine ev_dup2 C rfl rfl dX10_markAll_58 ?_
      obtain ⟨x59, e59, hs⟩ := aB hs
      refine ev_iald C e59 dX10_markAll_59 ?_
      refine ev_iconst C (v := 1) dX10_markAll_60 (by decide) ?_
      refine ev_iload C rfl dX10_markAll_61 ?_
      refine ev_bipush C (v := 31) dX10_markAll_63 (by decide) ?_
      refine ev_iand C dX10_markAll_65 ?_
      refine ev_ishl C dX10_markAll_66 ?_
      refine ev_ior C dX10_markAll_67 ?_
      obtain ⟨h68, e68, hs⟩ := aB hs
      refine ev_iast C e68 dX10_markAll_68 ?_
      refine ev_iinc C (i := 3) (n := 1) (x := l3) (v := l3 + 1) rfl (congrArg (fun z => l3 + z) (show Int32.ofInt 1 = 1 by decide)) (by decide) dX10_markAll_69 ?_
      refine ev_iinc C (i := 4) (n := 1) (x := l4) (v := l4 + 1) rfl (congrArg (fun z => l4 + z) (show Int32.ofInt 1 = 1 by decide)) (by decide) dX10_markAll_72 ?_
      refine ev_goto C (tgt := 10) (by decide) dX10_markAll_75 ?_
      exact (K10 _ _ _ _ _ _ hs)
theorem t_X10_markAll_10 (C : Cx p l s m args meth c B0 X RX10 "markAll" cX10_markAll 5 (some .int) [])   : ∀ (n : Nat) {l0 : Nat} {l1 : Nat} {l2 : Nat} {l3 : Int32} {l4 : Int32} {h : aH} (hs : s_X10_markAll_10  n l0 l1 l2 l3 l4 h = some (r, h')), Ev p l e { frames := 2, cells := mc, slots := ms, locals := 55 } s m args below meth c D B0 X ws0 r h' mc ms 5 mc ms 10 [some (.ref l0), some (.ref l1), some (.ref l2), some (.int l3), some (.int l4)] [] h
  | 0, _, _, _, _, _, _, hs => nomatch hs
  | n + 1, _, _, _, _, _, _, hs => t_X10_markAll_10_b C  (k10 := s_X10_markAll_10  n) (fun _ _ _ _ _ _ hs => t_X10_markAll_10 C  n hs) hs
theorem hy_X10_markAll : yX10_markAll.cls ≠ "java/lang/invoke/MethodHandle" ∧ yX10_markAll.cls ≠ "java/lang/invoke/VarHandle" ∧ (parseMethodDescriptor yX10_markAll.desc).map (fun d => d.parameters.length) = some 2 := by decide +kernel
theorem T_X10_markAll (o : Nat) (a1 : Nat) (a2 : Nat) (h : aH) (r : aR) (h' : aH) (hs : s_X10_markAll o a1 a2 h = some (r, h')) : Mt yX10_markAll (Cond.code yX10_markAll cX10_markAll 5 (some .int) :: aTB) 2 55 0 0 [.ref o, .ref a1, .ref a2] h r h' := by
  unfold s_X10_markAll at hs
  refine Mt_of (k := 2) (by decide) rfl (fun p l e s m args below meth c D B0 X ws0 C => ?_)
  show Ev p l e { frames := 2, cells := 0, slots := 0, locals := 55 } s m args below meth c D B0 X ws0 r h' 0 0 5 0 0 0 [some (.ref o), some (.ref a1), some (.ref a2), none, none] [] h
  refine ev_iconst C (v := 0) dX10_markAll_0 (by decide) ?_
  refine ev_istore_n C (by decide) dX10_markAll_1 ?_
  refine ev_aload_n C (x := .ref a2) rfl trivial dX10_markAll_2 ?_
  refine ev_iconst C (v := 0) dX10_markAll_3 (by decide) ?_
  obtain ⟨h4, e4, hs⟩ := cN_at hs
  refine ev_callS C (T_J7_fill_53178 _ _ _ _ _ e4) wc_J7_fill_53178 wm_X10_44 wt_J7_fill_53178 wz_J7 hy_J7_fill_53178 ⟨(Nat.le_of_ble_eq_true rfl), (Nat.le_of_ble_eq_true rfl)⟩ ⟨(Nat.le_refl _), (Nat.le_refl _)⟩ (Nat.le_of_ble_eq_true rfl) rfl dX10_markAll_4 ?_
  refine ev_iconst C (v := 0) dX10_markAll_7 (by decide) ?_
  refine ev_istore C (by decide) dX10_markAll_8 ?_
  exact (t_X10_markAll_10 C  FU hs)
end
-- X10_setGood
theorem dX10_setGood_0 : decode cX10_setGood 0 = .ok (.aload_n 0, 1) := by decide +kernel
theorem dX10_setGood_1 : decode cX10_setGood 1 = .ok (.aload_n 0, 1) := by decide +kernel
theorem dX10_setGood_2 : decode cX10_setGood 2 = .ok (.aload_n 1, 1) := by decide +kernel
theorem dX10_setGood_3 : decode cX10_setGood 3 = .ok (.aload_n 0, 1) := by decide +kernel
theorem dX10_setGood_4 : decode cX10_setGood 4 = .ok (.getfield 15, 3) := by decide +kernel
theorem dX10_setGood_7 : decode cX10_setGood 7 = .ok (.invokevirtual 70, 3) := by decide +kernel
theorem dX10_setGood_10 : decode cX10_setGood 10 = .ok (.putfield 63, 3) := by decide +kernel
theorem dX10_setGood_13 : decode cX10_setGood 13 = .ok (.aload_n 0, 1) := by decide +kernel
theorem dX10_setGood_14 : decode cX10_setGood 14 = .ok (.iconst 0, 1) := by decide +kernel
theorem dX10_setGood_15 : decode cX10_setGood 15 = .ok (.putfield 66, 3) := by decide +kernel
theorem dX10_setGood_18 : decode cX10_setGood 18 = .ok (.return_, 1) := by decide +kernel
def s_X10_setGood (o : Nat) (a1 : Nat) (h : aH) : aO :=
  (gO h (.ref o) 10 4).bind fun x4 => kO h o 10 (cI (s_X10_markAll o a1 x4 h) fun x7 h7 => (pF h7 (.ref o) 10 3 (.int x7)).bind fun h10 => (pZ h10 (.ref o) 10 7 0).bind fun h15 => some (.inl none, h15))
section
variable {p : Program} {l : Launch} {e : Env} {s : State} {m : MethodId} {args : Array Value} {below : List Frame} {meth : Method} {c : Code} {D : va_G} {B0 : Nat} {X : Nat → Nat} {ws0 : va_W} {r : aR} {h' : aH} {mc ms : Nat}
theorem hy_X10_setGood : yX10_setGood.cls ≠ "java/lang/invoke/MethodHandle" ∧ yX10_setGood.cls ≠ "java/lang/invoke/VarHandle" ∧ (parseMethodDescriptor yX10_setGood.desc).map (fun d => d.parameters.length) = some 1 := by decide +kernel
theorem T_X10_setGood (o : Nat) (a1 : Nat) (h : aH) (r : aR) (h' : aH) (hs : s_X10_setGood o a1 h = some (r, h')) : Mt yX10_setGood (Cond.code yX10_setGood cX10_setGood 2 none :: aTB) 3 79 0 0 [.ref o, .ref a1] h r h' := by
  unfold s_X10_setGood at hs
  refine Mt_of (k := 0) (by decide) rfl (fun p l e s m args below meth c D B0 X ws0 C => ?_)
  show Ev p l e { frames := 3, cells := 0, slots := 0, locals := 79 } s m args below meth c D B0 X ws0 r h' 0 0 2 0 0 0 [some (.ref o), some (.ref a1)] [] h
  refine ev_aload_n C (x := .ref o) rfl trivial dX10_setGood_0 ?_
  refine ev_aload_n C (x := .ref o) rfl trivial dX10_setGood_1 ?_
  refine ev_aload_n C (x := .ref a1) rfl trivial dX10_setGood_2 ?_
  refine ev_aload_n C (x := .ref o) rfl trivial dX10_setGood_3 ?_
  obtain ⟨x4, e4, hs⟩ := aB hs
  refine ev_get C (ci := 10) (k := 4) rfl wu_10 (by decide) wf_X10_15 (gO_F e4) dX10_setGood_4 ?_
  obtain ⟨eo7, hs⟩ := kO_at hs
  obtain ⟨x7, h7, e7, hs⟩ := cI_at hs
  refine ev_callV C (T_X10_markAll _ _ _ _ _ _ e7) (ci := 10) rfl eo7 wc_X10_markAll wm_X10_70 wi_X10_markAll ws_X10_markAll wz_X10 hy_X10_markAll ⟨(Nat.le_of_ble_eq_true rfl), (Nat.le_of_ble_eq_true rfl)⟩ ⟨(Nat.le_refl _), (Nat.le_refl _)⟩ (Nat.le_of_ble_eq_true rfl) rfl dX10_setGood_7 ?_
  obtain ⟨h10, e10, hs⟩ := aB hs
  refine ev_put C (ci := 10) (k := 3) rfl wu_10 (by decide) tyX10 tyX10_ok nmX10 wf_X10_63 rfl trivial e10 dX10_setGood_10 ?_
  refine ev_aload_n C (x := .ref o) rfl trivial dX10_setGood_13 ?_
  refine ev_iconst C (v := 0) dX10_setGood_14 (by decide) ?_
  obtain ⟨h15, e15, hs⟩ := aB hs
  refine ev_put C (ci := 10) (k := 7) rfl wu_10 (by decide) tyX10 tyX10_ok nmX10 wf_X10_66 rfl (pZ_F e15).2 (pZ_F e15).1 dX10_setGood_15 ?_
  cases hs
  exact ev_vret C rfl rfl (Nat.le_refl _) (Nat.le_refl _) rfl dX10_setGood_18
end
-- X10_setGoal
theorem dX10_setGoal_0 : decode cX10_setGoal 0 = .ok (.aload_n 0, 1) := by decide +kernel
theorem dX10_setGoal_1 : decode cX10_setGoal 1 = .ok (.iconst 0, 1) := by decide +kernel
theorem dX10_setGoal_2 : decode cX10_setGoal 2 = .ok (.putfield 66, 3) := by decide +kernel
theorem dX10_setGoal_5 : decode cX10_setGoal 5 = .ok (.aload_n 0, 1) := by decide +kernel
theorem dX10_setGoal_6 : decode cX10_setGoal 6 = .ok (.aload_n 1, 1) := by decide +kernel
theorem dX10_setGoal_7 : decode cX10_setGoal 7 = .ok (.aload_n 0, 1) := by decide +kernel
theorem dX10_setGoal_8 : decode cX10_setGoal 8 = .ok (.getfield 18, 3) := by decide +kernel
theorem dX10_setGoal_11 : decode cX10_setGoal 11 = .ok (.invokevirtual 70, 3) := by decide +kernel
theorem dX10_setGoal_14 : decode cX10_setGoal 14 = .ok (.ireturn, 1) := by decide +kernel
def s_X10_setGoal (o : Nat) (a1 : Nat) (h : aH) : aO :=
  (pZ h (.ref o) 10 7 0).bind fun h2 => (gO h2 (.ref o) 10 5).bind fun x8 => kO h2 o 10 (cI (s_X10_markAll o a1 x8 h2) fun x11 h11 => some (.inl (some (.int x11)), h11))
section
variable {p : Program} {l : Launch} {e : Env} {s : State} {m : MethodId} {args : Array Value} {below : List Frame} {meth : Method} {c : Code} {D : va_G} {B0 : Nat} {X : Nat → Nat} {ws0 : va_W} {r : aR} {h' : aH} {mc ms : Nat}
theorem hy_X10_setGoal : yX10_setGoal.cls ≠ "java/lang/invoke/MethodHandle" ∧ yX10_setGoal.cls ≠ "java/lang/invoke/VarHandle" ∧ (parseMethodDescriptor yX10_setGoal.desc).map (fun d => d.parameters.length) = some 1 := by decide +kernel
theorem T_X10_setGoal (o : Nat) (a1 : Nat) (h : aH) (r : aR) (h' : aH) (hs : s_X10_setGoal o a1 h = some (r, h')) : Mt yX10_setGoal (Cond.code yX10_setGoal cX10_setGoal 2 (some .int) :: aTB) 3 79 0 0 [.ref o, .ref a1] h r h' := by
  unfold s_X10_setGoal at hs
  refine Mt_of (k := 0) (by decide) rfl (fun p l e s m args below meth c D B0 X ws0 C => ?_)
  show Ev p l e { frames := 3, cells := 0, slots := 0, locals := 79 } s m args below meth c D B0 X ws0 r h' 0 0 2 0 0 0 [some (.ref o), some (.ref a1)] [] h
  refine ev_aload_n C (x := .ref o) rfl trivial dX10_setGoal_0 ?_
  refine ev_iconst C (v := 0) dX10_setGoal_1 (by decide) ?_
  obtain ⟨h2, e2, hs⟩ := aB hs
  refine ev_put C (ci := 10) (k := 7) rfl wu_10 (by decide) tyX10 tyX10_ok nmX10 wf_X10_66 rfl (pZ_F e2).2 (pZ_F e2).1 dX10_setGoal_2 ?_
  refine ev_aload_n C (x := .ref o) rfl trivial dX10_setGoal_5 ?_
  refine ev_aload_n C (x := .ref a1) rfl trivial dX10_setGoal_6 ?_
  refine ev_aload_n C (x := .ref o) rfl trivial dX10_setGoal_7 ?_
  obtain ⟨x8, e8, hs⟩ := aB hs
  refine ev_get C (ci := 10) (k := 5) rfl wu_10 (by decide) wf_X10_18 (gO_F e8) dX10_setGoal_8 ?_
  obtain ⟨eo11, hs⟩ := kO_at hs
  obtain ⟨x11, h11, e11, hs⟩ := cI_at hs
  refine ev_callV C (T_X10_markAll _ _ _ _ _ _ e11) (ci := 10) rfl eo11 wc_X10_markAll wm_X10_70 wi_X10_markAll ws_X10_markAll wz_X10 hy_X10_markAll ⟨(Nat.le_of_ble_eq_true rfl), (Nat.le_of_ble_eq_true rfl)⟩ ⟨(Nat.le_refl _), (Nat.le_refl _)⟩ (Nat.le_of_ble_eq_true rfl) rfl dX10_setGoal_11 ?_
  cases hs
  exact ev_iret C rfl rfl (Nat.le_refl _) (Nat.le_refl _) rfl dX10_setGoal_14
end
-- X10_setCosts
theorem dX10_setCosts_0 : decode cX10_setCosts 0 = .ok (.iconst 0, 1) := by decide +kernel
theorem dX10_setCosts_1 : decode cX10_setCosts 1 = .ok (.istore_n 2, 1) := by decide +kernel
theorem dX10_setCosts_2 : decode cX10_setCosts 2 = .ok (.iload_n 2, 1) := by decide +kernel
theorem dX10_setCosts_3 : decode cX10_setCosts 3 = .ok (.aload_n 0, 1) := by decide +kernel
theorem dX10_setCosts_4 : decode cX10_setCosts 4 = .ok (.getfield 36, 3) := by decide +kernel
theorem dX10_setCosts_7 : decode cX10_setCosts 7 = .ok (.getfield 56, 3) := by decide +kernel
theorem dX10_setCosts_10 : decode cX10_setCosts 10 = .ok (.if_icmp .ge 99, 3) := by decide +kernel
theorem dX10_setCosts_13 : decode cX10_setCosts 13 = .ok (.aload_n 0, 1) := by decide +kernel
theorem dX10_setCosts_14 : decode cX10_setCosts 14 = .ok (.getfield 36, 3) := by decide +kernel
theorem dX10_setCosts_17 : decode cX10_setCosts 17 = .ok (.iconst 1, 1) := by decide +kernel
theorem dX10_setCosts_18 : decode cX10_setCosts 18 = .ok (.iload_n 2, 1) := by decide +kernel
theorem dX10_setCosts_19 : decode cX10_setCosts 19 = .ok (.iconst 0, 1) := by decide +kernel
theorem dX10_setCosts_20 : decode cX10_setCosts 20 = .ok (.aload_n 0, 1) := by decide +kernel
theorem dX10_setCosts_21 : decode cX10_setCosts 21 = .ok (.getfield 9, 3) := by decide +kernel
theorem dX10_setCosts_24 : decode cX10_setCosts 24 = .ok (.invokevirtual 74, 3) := by decide +kernel
theorem dX10_setCosts_27 : decode cX10_setCosts 27 = .ok (.iconst 0, 1) := by decide +kernel
theorem dX10_setCosts_28 : decode cX10_setCosts 28 = .ok (.istore_n 3, 1) := by decide +kernel
theorem dX10_setCosts_29 : decode cX10_setCosts 29 = .ok (.iload_n 3, 1) := by decide +kernel
theorem dX10_setCosts_30 : decode cX10_setCosts 30 = .ok (.aload_n 0, 1) := by decide +kernel
theorem dX10_setCosts_31 : decode cX10_setCosts 31 = .ok (.getfield 36, 3) := by decide +kernel
theorem dX10_setCosts_34 : decode cX10_setCosts 34 = .ok (.getfield 50, 3) := by decide +kernel
theorem dX10_setCosts_37 : decode cX10_setCosts 37 = .ok (.if_icmp .ge 66, 3) := by decide +kernel
theorem dX10_setCosts_40 : decode cX10_setCosts 40 = .ok (.aload_n 0, 1) := by decide +kernel
theorem dX10_setCosts_41 : decode cX10_setCosts 41 = .ok (.getfield 36, 3) := by decide +kernel
theorem dX10_setCosts_44 : decode cX10_setCosts 44 = .ok (.iconst 0, 1) := by decide +kernel
theorem dX10_setCosts_45 : decode cX10_setCosts 45 = .ok (.iload_n 3, 1) := by decide +kernel
theorem dX10_setCosts_46 : decode cX10_setCosts 46 = .ok (.iconst 0, 1) := by decide +kernel
theorem dX10_setCosts_47 : decode cX10_setCosts 47 = .ok (.aload_n 0, 1) := by decide +kernel
theorem dX10_setCosts_48 : decode cX10_setCosts 48 = .ok (.getfield 9, 3) := by decide +kernel
theorem dX10_setCosts_51 : decode cX10_setCosts 51 = .ok (.invokevirtual 74, 3) := by decide +kernel
theorem dX10_setCosts_54 : decode cX10_setCosts 54 = .ok (.aload_n 1, 1) := by decide +kernel
theorem dX10_setCosts_55 : decode cX10_setCosts 55 = .ok (.iconst 0, 1) := by decide +kernel
theorem dX10_setCosts_56 : decode cX10_setCosts 56 = .ok (.aload_n 1, 1) := by decide +kernel
theorem dX10_setCosts_57 : decode cX10_setCosts 57 = .ok (.getfield 87, 3) := by decide +kernel
theorem dX10_setCosts_60 : decode cX10_setCosts 60 = .ok (.aload_n 0, 1) := by decide +kernel
theorem dX10_setCosts_61 : decode cX10_setCosts 61 = .ok (.getfield 9, 3) := by decide +kernel
theorem dX10_setCosts_64 : decode cX10_setCosts 64 = .ok (.invokevirtual 90, 3) := by decide +kernel
theorem dX10_setCosts_67 : decode cX10_setCosts 67 = .ok (.istore 4, 2) := by decide +kernel
theorem dX10_setCosts_69 : decode cX10_setCosts 69 = .ok (.aload_n 0, 1) := by decide +kernel
theorem dX10_setCosts_70 : decode cX10_setCosts 70 = .ok (.getfield 21, 3) := by decide +kernel
theorem dX10_setCosts_73 : decode cX10_setCosts 73 = .ok (.iload_n 3, 1) := by decide +kernel
theorem dX10_setCosts_74 : decode cX10_setCosts 74 = .ok (.aload_n 0, 1) := by decide +kernel
theorem dX10_setCosts_75 : decode cX10_setCosts 75 = .ok (.getfield 36, 3) := by decide +kernel
theorem dX10_setCosts_78 : decode cX10_setCosts 78 = .ok (.getfield 56, 3) := by decide +kernel
theorem dX10_setCosts_81 : decode cX10_setCosts 81 = .ok (.imul, 1) := by decide +kernel
theorem dX10_setCosts_82 : decode cX10_setCosts 82 = .ok (.iload_n 2, 1) := by decide +kernel
theorem dX10_setCosts_83 : decode cX10_setCosts 83 = .ok (.iadd, 1) := by decide +kernel
theorem dX10_setCosts_84 : decode cX10_setCosts 84 = .ok (.iconst 0, 1) := by decide +kernel
theorem dX10_setCosts_85 : decode cX10_setCosts 85 = .ok (.sipush 1000, 3) := by decide +kernel
theorem dX10_setCosts_88 : decode cX10_setCosts 88 = .ok (.iload 4, 2) := by decide +kernel
theorem dX10_setCosts_90 : decode cX10_setCosts 90 = .ok (.invokestatic 94, 3) := by decide +kernel
theorem dX10_setCosts_93 : decode cX10_setCosts 93 = .ok (.invokestatic 100, 3) := by decide +kernel
theorem dX10_setCosts_96 : decode cX10_setCosts 96 = .ok (.iastore, 1) := by decide +kernel
theorem dX10_setCosts_97 : decode cX10_setCosts 97 = .ok (.iinc 3 1, 3) := by decide +kernel
theorem dX10_setCosts_100 : decode cX10_setCosts 100 = .ok (.goto (-71), 3) := by decide +kernel
theorem dX10_setCosts_103 : decode cX10_setCosts 103 = .ok (.iinc 2 1, 3) := by decide +kernel
theorem dX10_setCosts_106 : decode cX10_setCosts 106 = .ok (.goto (-104), 3) := by decide +kernel
theorem dX10_setCosts_109 : decode cX10_setCosts 109 = .ok (.return_, 1) := by decide +kernel
def s_X10_setCosts_29_b (k2 : Nat → Nat → Int32 → aH → aO) (k29 : Nat → Nat → Int32 → Int32 → aH → aO) (l0 : Nat) (l1 : Nat) (l2 : Int32) (l3 : Int32) (h : aH) : aO :=
  (gO h (.ref l0) 10 0).bind fun x31 => (gI h (.ref x31) 2 12).bind fun x34 => if x34 ≤ l3 then (k2 l0 l1 (l2 + 1) h) else ((gO h (.ref l0) 10 0).bind fun x41 => (gO h (.ref l0) 10 2).bind fun x48 => kO h x41 2 (cN (s_X2_spread x41 0 l3 0 x48 h) fun h51 => (gI h51 (.ref l1) 0 0).bind fun x57 => (gO h51 (.ref l0) 10 2).bind fun x61 => kO h51 l1 0 (cI (s_X0_sumOf l1 0 x57 x61 h51) fun x64 h64 => (gO h64 (.ref l0) 10 6).bind fun x70 => (gO h64 (.ref l0) 10 0).bind fun x75 => (gI h64 (.ref x75) 2 13).bind fun x78 => (stI h64 (.ref x70) ((l3 * x78) + l2) (jmax 0 (jmin 1000 x64))).bind fun h96 => k29 l0 l1 l2 (l3 + 1) h96)))
def s_X10_setCosts_29 (k2 : Nat → Nat → Int32 → aH → aO) (n : Nat) : Nat → Nat → Int32 → Int32 → aH → aO := lpF (fun _ _ _ _ _ => none) (s_X10_setCosts_29_b k2) n
def s_X10_setCosts_2_b  (k2 : Nat → Nat → Int32 → aH → aO) (l0 : Nat) (l1 : Nat) (l2 : Int32) (h : aH) : aO :=
  (gO h (.ref l0) 10 0).bind fun x4 => (gI h (.ref x4) 2 13).bind fun x7 => if x7 ≤ l2 then (some (.inl none, h)) else ((gO h (.ref l0) 10 0).bind fun x14 => (gO h (.ref l0) 10 2).bind fun x21 => kO h x14 2 (cN (s_X2_spread x14 1 l2 0 x21 h) fun h24 => s_X10_setCosts_29 k2 FU l0 l1 l2 0 h24))
def s_X10_setCosts_2  (n : Nat) : Nat → Nat → Int32 → aH → aO := lpF (fun _ _ _ _ => none) (s_X10_setCosts_2_b ) n
def s_X10_setCosts (o : Nat) (a1 : Nat) (h : aH) : aO :=
  s_X10_setCosts_2 FU o a1 0 h
section
variable {p : Program} {l : Launch} {e : Env} {s : State} {m : MethodId} {args : Array Value} {below : List Frame} {meth : Method} {c : Code} {D : va_G} {B0 : Nat} {X : Nat → Nat} {ws0 : va_W} {r : aR} {h' : aH} {mc ms : Nat}
theorem t_X10_setCosts_29_b (C : Cx p l s m args meth c B0 X RX10 "setCosts" cX10_setCosts 5 none []) {k2 : Nat → Nat → Int32 → aH → aO} (K2 : ∀ (l0 : Nat) (l1 : Nat) (l2 : Int32) (h : aH), k2 l0 l1 l2 h = some (r, h') → Ev p l e { frames := 2, cells := mc, slots := ms, locals := 50 } s m args below meth c D B0 X ws0 r h' mc ms 5 mc ms 2 [some (.ref l0), some (.ref l1), some (.int l2), none, none] [] h) {k29 : Nat → Nat → Int32 → Int32 → aH → aO} (K29 : ∀ (l0 : Nat) (l1 : Nat) (l2 : Int32) (l3 : Int32) (h : aH), k29 l0 l1 l2 l3 h = some (r, h') → Ev p l e { frames := 2, cells := mc, slots := ms, locals := 50 } s m args below meth c D B0 X ws0 r h' mc ms 5 mc ms 29 [some (.ref l0), some (.ref l1), some (.int l2), some (.int l3), none] [] h) {l0 : Nat} {l1 : Nat} {l2 : Int32} {l3 : Int32} {h : aH} (hs : s_X10_setCosts_29_b k2 k29 l0 l1 l2 l3 h = some (r, h')) : Ev p l e { frames := 2, cells := mc, slots := ms, locals := 50 } s m args below meth c D B0 X ws0 r h' mc ms 5 mc ms 29 [some (.ref l0), some (.ref l1), some (.int l2), some (.int l3), none] [] h := by
  unfold s_X10_setCosts_29_b at hs
  refine ev_iload_n C rfl dX10_setCosts_29 ?_
  refine ev_aload_n C (x := .ref l0) rfl trivial dX10_setCosts_30 ?_
  obtain ⟨x31, e31, hs⟩ := aB hs
  refine ev_get C (ci := 10) (k := 0) rfl wu_10 (by decide) wf_X10_36 (gO_F e31) dX10_setCosts_31 ?_
  obtain ⟨x34, e34, hs⟩ := aB hs
  refine ev_getN C (ci := 2) (k := 12) rfl wu_2 (by decide) wg_X10_50 (gI_F e34) dX10_setCosts_34 ?_
  refine ev_icmp_ge C (tgt := 103) (by decide) dX10_setCosts_37 (fun q37 => ?_) (fun q37 => ?_)
  · replace hs := (if_pos q37).symm.trans hs
    refine ev_iinc C (i := 2) (n := 1) (x := l2) (v := l2 + 1) rfl (congrArg (fun z => l2 + z) (show Int32.ofInt 1 = 1 by decide)) (by decide) dX10_setCosts_103 ?_
    refine ev_goto C (tgt := 2) (by decide) dX10_setCosts_106 ?_
    exact Ev.keep [true, true, true, false, true] (K2 _ _ _ _ hs)
  · replace hs := (if_neg q37).symm.trans hs
    refine ev_aload_n C (x := .ref l0) rfl trivial dX10_setCosts_40 ?_
    obtain ⟨x41, e41, hs⟩ := aB hs
    refine ev_get C (ci := 10) (k := 0) rfl wu_10 (by decide) wf_X10_36 (gO_F e41) dX10_setCosts_41 ?_
    refine ev_iconst C (v := 0) dX10_setCosts_44 (by decide) ?_
    refine ev_iload_n C rfl dX10_setCosts_45 ?_
    refine ev_iconst C (v := 0) dX10_setCosts_46 (by decide) ?_
    refine ev_aload_n C (x := .ref l0) rfl trivial dX10_setCosts_47 ?_
    obtain ⟨x48, e48, hs⟩ := aB hs
    refine ev_get C (ci := 10) (k := 2) rfl wu_10 (by decide) wf_X10_9 (gO_F e48) dX10_setCosts_48 ?_
    obtain ⟨eo51, hs⟩ := kO_at hs
    obtain ⟨h51, e51, hs⟩ := cN_at hs
    refine ev_callVN C (T_X2_spread _ _ _ _ _ _ _ _ e51) (ci := 2) rfl eo51 wc_X2_spread wn_X10_74 wi_X2_spread ws_X2_spread wz_X2 hy_X2_spread ⟨(Nat.le_of_ble_eq_true rfl), (Nat.le_of_ble_eq_true rfl)⟩ ⟨(Nat.le_refl _), (Nat.le_refl _)⟩ (Nat.le_of_ble_eq_true rfl) rfl dX10_setCosts_51 ?_
    refine ev_aload_n C (x := .ref l1) rfl trivial dX10_setCosts_54 ?_
    refine ev_iconst C (v := 0) dX10_setCosts_55 (by decide) ?_
    refine ev_aload_n C (x := .ref l1) rfl trivial dX10_setCosts_56 ?_
    obtain ⟨x57, e57, hs⟩ := aB hs
    refine ev_getN C (ci := 0) (k := 0) rfl wu_0 (by decide) wg_X10_87 (gI_F e57) dX10_setCosts_57 ?_
    refine ev_aload_n C (x := .ref l0) rfl trivial dX10_setCosts_60 ?_
    obtain ⟨x61, e61, hs⟩ := aB hs
    refine ev_get C (ci := 10) (k := 2) rfl wu_10 (by decide) wf_X10_9 (gO_F e61) dX10_setCosts_61 ?_
    obtain ⟨eo64, hs⟩ := kO_at hs
    obtain ⟨x64, h64, e64, hs⟩ := cI_at hs
    refine ev_callVN C (T_X0_sumOf _ _ _ _ _ _ _ e64) (ci := 0) rfl eo64 wc_X0_sumOf wn_X10_90 wi_X0_sumOf ws_X0_sumOf wz_X0 hy_X0_sumOf ⟨(Nat.le_of_ble_eq_true rfl), (Nat.le_of_ble_eq_true rfl)⟩ ⟨(Nat.le_refl _), (Nat.le_refl _)⟩ (Nat.le_of_ble_eq_true rfl) rfl dX10_setCosts_64 ?_
    refine ev_istore C (by decide) dX10_setCosts_67 ?_
    refine ev_aload_n C (x := .ref l0) rfl trivial dX10_setCosts_69 ?_
    obtain ⟨x70, e70, hs⟩ := aB hs
    refine ev_get C (ci := 10) (k := 6) rfl wu_10 (by decide) wf_X10_21 (gO_F e70) dX10_setCosts_70 ?_
    refine ev_iload_n C rfl dX10_setCosts_73 ?_
    refine ev_aload_n C (x := .ref l0) rfl trivial dX10_setCosts_74 ?_
    obtain ⟨x75, e75, hs⟩ := aB hs
    refine ev_get C (ci := 10) (k := 0) rfl wu_10 (by decide) wf_X10_36 (gO_F e75) dX10_setCosts_75 ?_
    obtain ⟨x78, e78, hs⟩ := aB hs
    refine ev_getN C (ci := 2) (k := 13) rfl wu_2 (by decide) wg_X10_56 (gI_F e78) dX10_setCosts_78 ?_
    refine ev_imul C dX10_setCosts_81 ?_
    refine ev_iload_n C rfl dX10_setCosts_82 ?_
    refine ev_iadd C dX10_setCosts_83 ?_
    refine ev_iconst C (v := 0) dX10_setCosts_84 (by decide) ?_
    refine ev_sipush C (v := 1000) dX10_setCosts_85 (by decide) ?_
    refine ev_iload C rfl dX10_setCosts_88 ?_
    refine ev_mmin C wm_X10_94 wt_mmin wz_J9 wc_mmin (Nat.le_of_ble_eq_true rfl) (Nat.le_of_ble_eq_true rfl) (Nat.le_refl _) (Nat.le_refl _) dX10_setCosts_90 ?_
    refine ev_mmax C wm_X10_100 wt_mmax wz_J9 wc_mmax (Nat.le_of_ble_eq_true rfl) (Nat.le_of_ble_eq_true rfl) (Nat.le_refl _) (Nat.le_refl _) dX10_setCosts_93 ?_
    obtain ⟨h96, e96, hs⟩ := aB hs
    refine ev_iast C e96 dX10_setCosts_96 ?_
    refine ev_iinc C (i := 3) (n := 1) (x := l3) (v := l3 + 1) rfl (congrArg (fun z => l3 + z) (show Int32.ofInt 1 = 1 by decide)) (by decide) dX10_setCosts_97 ?_
    refine ev_goto C (tgt := 29) (by decide) dX10_setCosts_100 ?_
    exact Ev.keep [true, true, true, true, false] (K29 _ _ _ _ _ hs)
theorem t_X10_setCosts_29 (C : Cx p l s m args meth c B0 X RX10 "setCosts" cX10_setCosts 5 none []) {k2 : Nat → Nat → Int32 → aH → aO} (K2 : ∀ (l0 : Nat) (l1 : Nat) (l2 : Int32) (h : aH), k2 l0 l1 l2 h = some (r, h') → Ev p l e { frames := 2, cells := mc, slots := ms, locals := 50 } s m args below meth c D B0 X ws0 r h' mc ms 5 mc ms 2 [some (.ref l0), some (.ref l1), some (.int l2), none, none] [] h) : ∀ (n : Nat) {l0 : Nat} {l1 : Nat} {l2 : Int32} {l3 : Int32} {h : aH} (hs : s_X10_setCosts_29 k2 n l0 l1 l2 l3 h = some (r, h')), Ev p l e { frames := 2, cells := mc, slots := ms, locals := 50 } s m args below meth c D B0 X ws0 r h' mc ms 5 mc ms 29 [some (.ref l0), some (.ref l1), some (.int l2), some (.int l3), none] [] h
  | 0, _, _, _, _, _, hs => nomatch hs
  | n + 1, _, _, _, _, _, hs => t_X10_setCosts_29_b C K2 (k29 := s_X10_setCosts_29 k2 n) (fun _ _ _ _ _ hs => t_X10_setCosts_29 C K2 n hs) hs
theorem t_X10_setCosts_2_b (C : Cx p l s m args meth c B0 X RX10 "setCosts" cX10_setCosts 5 none [])   {k2 : Nat → Nat → Int32 → aH → aO} (K2 : ∀ (l0 : Nat) (l1 : Nat) (l2 : Int32) (h : aH), k2 l0 l1 l2 h = some (r, h') → Ev p l e { frames := 2, cells := mc, slots := ms, locals := 50 } s m args below meth c D B0 X ws0 r h' mc ms 5 mc ms 2 [some (.ref l0), some (.ref l1), some (.int l2), none, none] [] h) {l0 : Nat} {l1 : Nat} {l2 : Int32} {h : aH} (hs : s_X10_setCosts_2_b  k2 l0 l1 l2 h = some (r, h')) : Ev p l e { frames := 2, cells := mc, slots := ms, locals := 50 } s m args below meth c D B0 X ws0 r h' mc ms 5 mc ms 2 [some (.ref l0), some (.ref l1), some (.int l2), none, none] [] h := by
  unfold s_X10_setCosts_2_b at hs
  refine ev_iload_n C rfl dX10_setCosts_2 ?_
  refine ev_aload_n C (x := .ref l0) rfl trivial dX10_setCosts_3 ?_
  obtain ⟨x4, e4, hs⟩ := aB hs
  refine ev_get C (ci := 10) (k := 0) rfl wu_10 (by decide) wf_X10_36 (gO_F e4) dX10_setCosts_4 ?_
  obtain ⟨x7, e7, hs⟩ := aB hs
  refine ev_getN C (ci := 2) (k := 13) rfl wu_2 (by decide) wg_X10_56 (gI_F e7) dX10_setCosts_7 ?_
  refine ev_icmp_ge C (tgt := 109) (by decide) dX10_setCosts_10 (fun q10 => ?_) (fun q10 => ?_)
  · replace hs := (if_pos q10).symm.trans hs
    cases hs
    exact ev_vret C rfl rfl (Nat.le_refl _) (Nat.le_refl _) rfl dX10_setCosts_109
  · replace hs := (if_neg q10).symm.trans hs
    refine ev_aload_n C (x := .ref l0) rfl trivial dX10_setCosts_13 ?_
    obtain ⟨x14, e14, hs⟩ := aB hs
    refine ev_get C (ci := 10) (k := 0) rfl wu_10 (by decide) wf_X10_36 (gO_F e14) dX10_setCosts_14 ?_
    refine ev_iconst C (v := 1) dX10_setCosts_17 (by decide) ?_
    refine ev_iload_n C rfl dX10_setCosts_18 ?_
    refine ev_iconst C (v := 0) dX10_setCosts_19 (by decide) ?_
    refine ev_aload_n C (x := .ref l0) rfl trivial dX10_setCosts_20 ?_
    obtain ⟨x21, e21, hs⟩ := aB hs
    refine ev_get C (ci := 10) (k := 2) rfl wu_10 (by decide) wf_X10_9 (gO_F e21) dX10_setCosts_21 ?_
    obtain ⟨eo24, hs⟩ := kO_at hs
    obtain ⟨h24, e24, hs⟩ := cN_at hs
    refine ev_callVN C (T_X2_spread _ _ _ _ _ _ _ _ e24) (ci := 2) rfl eo24 wc_X2_spread wn_X10_74 wi_X2_spread ws_X2_spread wz_X2 hy_X2_spread ⟨(Nat.le_of_ble_eq_true rfl), (Nat.le_of_ble_eq_true rfl)⟩ ⟨(Nat.le_refl _), (Nat.le_refl _)⟩ (Nat.le_of_ble_eq_true rfl) rfl dX10_setCosts_24 ?_
    refine ev_iconst C (v := 0) dX10_setCosts_27 (by decide) ?_
    refine ev_istore_n C (by decide) dX10_setCosts_28 ?_
    exact (t_X10_setCosts_29 C K2 FU hs)
theorem t_X10_setCosts_2 (C : Cx p l s m args meth c B0 X RX10 "setCosts" cX10_setCosts 5 none [])   : ∀ (n : Nat) {l0 : Nat} {l1 : Nat} {l2 : Int32} {h : aH} (hs : s_X10_setCosts_2  n l0 l1 l2 h = some (r, h')), Ev p l e { frames := 2, cells := mc, slots := ms, locals := 50 } s m args below meth c D B0 X ws0 r h' mc ms 5 mc ms 2 [some (.ref l0), some (.ref l1), some (.int l2), none, none] [] h
  | 0, _, _, _, _, hs => nomatch hs
  | n + 1, _, _, _, _, hs => t_X10_setCosts_2_b C  (k2 := s_X10_setCosts_2  n) (fun _ _ _ _ hs => t_X10_setCosts_2 C  n hs) hs
theorem hy_X10_setCosts : yX10_setCosts.cls ≠ "java/lang/invoke/MethodHandle" ∧ yX10_setCosts.cls ≠ "java/lang/invoke/VarHandle" ∧ (parseMethodDescriptor yX10_setCosts.desc).map (fun d => d.parameters.length) = some 1 := by decide +kernel
theorem T_X10_setCosts (o : Nat) (a1 : Nat) (h : aH) (r : aR) (h' : aH) (hs : s_X10_setCosts o a1 h = some (r, h')) : Mt yX10_setCosts (Cond.code yX10_setCosts cX10_setCosts 5 none :: aTB) 2 50 0 0 [.ref o, .ref a1] h r h' := by
  unfold s_X10_setCosts at hs
  refine Mt_of (k := 3) (by decide) rfl (fun p l e s m args below meth c D B0 X ws0 C => ?_)
  show Ev p l e { frames := 2, cells := 0, slots := 0, locals := 50 } s m args below meth c D B0 X ws0 r h' 0 0 5 0 0 0 [some (.ref o), some (.ref a1), none, none, none] [] h
  refine ev_iconst C (v := 0) dX10_setCosts_0 (by decide) ?_
  refine ev_istore_n C (by decide) dX10_setCosts_1 ?_
  exact (t_X10_setCosts_2 C  FU hs)
end
-- X10_pushIntoDone
theorem dX10_pushIntoDone_0 : decode cX10_pushIntoDone 0 = .ok (.iconst 0, 1) := by decide +kernel
theorem dX10_pushIntoDone_1 : decode cX10_pushIntoDone 1 = .ok (.istore_n 2, 1) := by decide +kernel
theorem dX10_pushIntoDone_2 : decode cX10_pushIntoDone 2 = .ok (.iload_n 2, 1) := by decide +kernel
theorem dX10_pushIntoDone_3 : decode cX10_pushIntoDone 3 = .ok (.aload_n 0, 1) := by decide +kernel
theorem dX10_pushIntoDone_4 : decode cX10_pushIntoDone 4 = .ok (.getfield 36, 3) := by decide +kernel
theorem dX10_pushIntoDone_7 : decode cX10_pushIntoDone 7 = .ok (.getfield 56, 3) := by decide +kernel
theorem dX10_pushIntoDone_10 : decode cX10_pushIntoDone 10 = .ok (.if_icmp .ge 102, 3) := by decide +kernel
theorem dX10_pushIntoDone_13 : decode cX10_pushIntoDone 13 = .ok (.iload_n 1, 1) := by decide +kernel
theorem dX10_pushIntoDone_14 : decode cX10_pushIntoDone 14 = .ok (.aload_n 0, 1) := by decide +kernel
theorem dX10_pushIntoDone_15 : decode cX10_pushIntoDone 15 = .ok (.getfield 36, 3) := by decide +kernel
theorem dX10_pushIntoDone_18 : decode cX10_pushIntoDone 18 = .ok (.getfield 56, 3) := by decide +kernel
theorem dX10_pushIntoDone_21 : decode cX10_pushIntoDone 21 = .ok (.imul, 1) := by decide +kernel
theorem dX10_pushIntoDone_22 : decode cX10_pushIntoDone 22 = .ok (.iload_n 2, 1) := by decide +kernel
theorem dX10_pushIntoDone_23 : decode cX10_pushIntoDone 23 = .ok (.iadd, 1) := by decide +kernel
theorem dX10_pushIntoDone_24 : decode cX10_pushIntoDone 24 = .ok (.istore_n 3, 1) := by decide +kernel
theorem dX10_pushIntoDone_25 : decode cX10_pushIntoDone 25 = .ok (.aload_n 0, 1) := by decide +kernel
theorem dX10_pushIntoDone_26 : decode cX10_pushIntoDone 26 = .ok (.getfield 33, 3) := by decide +kernel
theorem dX10_pushIntoDone_29 : decode cX10_pushIntoDone 29 = .ok (.iload_n 3, 1) := by decide +kernel
theorem dX10_pushIntoDone_30 : decode cX10_pushIntoDone 30 = .ok (.iaload, 1) := by decide +kernel
theorem dX10_pushIntoDone_31 : decode cX10_pushIntoDone 31 = .ok (.istore 4, 2) := by decide +kernel
theorem dX10_pushIntoDone_33 : decode cX10_pushIntoDone 33 = .ok (.iload 4, 2) := by decide +kernel
theorem dX10_pushIntoDone_35 : decode cX10_pushIntoDone 35 = .ok (.aload_n 0, 1) := by decide +kernel
theorem dX10_pushIntoDone_36 : decode cX10_pushIntoDone 36 = .ok (.getfield 40, 3) := by decide +kernel
theorem dX10_pushIntoDone_39 : decode cX10_pushIntoDone 39 = .ok (.getfield 117, 3) := by decide +kernel
theorem dX10_pushIntoDone_42 : decode cX10_pushIntoDone 42 = .ok (.if_icmp .ge 42, 3) := by decide +kernel
theorem dX10_pushIntoDone_45 : decode cX10_pushIntoDone 45 = .ok (.aload_n 0, 1) := by decide +kernel
theorem dX10_pushIntoDone_46 : decode cX10_pushIntoDone 46 = .ok (.getfield 40, 3) := by decide +kernel
theorem dX10_pushIntoDone_49 : decode cX10_pushIntoDone 49 = .ok (.getfield 122, 3) := by decide +kernel
theorem dX10_pushIntoDone_52 : decode cX10_pushIntoDone 52 = .ok (.iload_n 3, 1) := by decide +kernel
theorem dX10_pushIntoDone_53 : decode cX10_pushIntoDone 53 = .ok (.aload_n 0, 1) := by decide +kernel
theorem dX10_pushIntoDone_54 : decode cX10_pushIntoDone 54 = .ok (.getfield 40, 3) := by decide +kernel
theorem dX10_pushIntoDone_57 : decode cX10_pushIntoDone 57 = .ok (.getfield 117, 3) := by decide +kernel
theorem dX10_pushIntoDone_60 : decode cX10_pushIntoDone 60 = .ok (.imul, 1) := by decide +kernel
theorem dX10_pushIntoDone_61 : decode cX10_pushIntoDone 61 = .ok (.iload 4, 2) := by decide +kernel
theorem dX10_pushIntoDone_63 : decode cX10_pushIntoDone 63 = .ok (.iadd, 1) := by decide +kernel
theorem dX10_pushIntoDone_64 : decode cX10_pushIntoDone 64 = .ok (.iaload, 1) := by decide +kernel
theorem dX10_pushIntoDone_65 : decode cX10_pushIntoDone 65 = .ok (.aload_n 0, 1) := by decide +kernel
theorem dX10_pushIntoDone_66 : decode cX10_pushIntoDone 66 = .ok (.getfield 30, 3) := by decide +kernel
theorem dX10_pushIntoDone_69 : decode cX10_pushIntoDone 69 = .ok (.iload 4, 2) := by decide +kernel
theorem dX10_pushIntoDone_71 : decode cX10_pushIntoDone 71 = .ok (.iaload, 1) := by decide +kernel
theorem dX10_pushIntoDone_72 : decode cX10_pushIntoDone 72 = .ok (.iconst (-1), 1) := by decide +kernel
theorem dX10_pushIntoDone_73 : decode cX10_pushIntoDone 73 = .ok (.ixor, 1) := by decide +kernel
theorem dX10_pushIntoDone_74 : decode cX10_pushIntoDone 74 = .ok (.iand, 1) := by decide +kernel
theorem dX10_pushIntoDone_75 : decode cX10_pushIntoDone 75 = .ok (.ifCond .ne 9, 3) := by decide +kernel
theorem dX10_pushIntoDone_78 : decode cX10_pushIntoDone 78 = .ok (.iinc 4 1, 3) := by decide +kernel
theorem dX10_pushIntoDone_81 : decode cX10_pushIntoDone 81 = .ok (.goto (-48), 3) := by decide +kernel
theorem dX10_pushIntoDone_84 : decode cX10_pushIntoDone 84 = .ok (.aload_n 0, 1) := by decide +kernel
theorem dX10_pushIntoDone_85 : decode cX10_pushIntoDone 85 = .ok (.getfield 33, 3) := by decide +kernel
theorem dX10_pushIntoDone_88 : decode cX10_pushIntoDone 88 = .ok (.iload_n 3, 1) := by decide +kernel
theorem dX10_pushIntoDone_89 : decode cX10_pushIntoDone 89 = .ok (.iload 4, 2) := by decide +kernel
theorem dX10_pushIntoDone_91 : decode cX10_pushIntoDone 91 = .ok (.iastore, 1) := by decide +kernel
theorem dX10_pushIntoDone_92 : decode cX10_pushIntoDone 92 = .ok (.iload 4, 2) := by decide +kernel
theorem dX10_pushIntoDone_94 : decode cX10_pushIntoDone 94 = .ok (.aload_n 0, 1) := by decide +kernel
theorem dX10_pushIntoDone_95 : decode cX10_pushIntoDone 95 = .ok (.getfield 40, 3) := by decide +kernel
theorem dX10_pushIntoDone_98 : decode cX10_pushIntoDone 98 = .ok (.getfield 117, 3) := by decide +kernel
theorem dX10_pushIntoDone_101 : decode cX10_pushIntoDone 101 = .ok (.if_icmp .ne 5, 3) := by decide +kernel
theorem dX10_pushIntoDone_104 : decode cX10_pushIntoDone 104 = .ok (.iload_n 2, 1) := by decide +kernel
theorem dX10_pushIntoDone_105 : decode cX10_pushIntoDone 105 = .ok (.ireturn, 1) := by decide +kernel
theorem dX10_pushIntoDone_106 : decode cX10_pushIntoDone 106 = .ok (.iinc 2 1, 3) := by decide +kernel
theorem dX10_pushIntoDone_109 : decode cX10_pushIntoDone 109 = .ok (.goto (-107), 3) := by decide +kernel
theorem dX10_pushIntoDone_112 : decode cX10_pushIntoDone 112 = .ok (.bipush (-2), 2) := by decide +kernel
theorem dX10_pushIntoDone_114 : decode cX10_pushIntoDone 114 = .ok (.ireturn, 1) := by decide +kernel
def s_X10_pushIntoDone_84 (k2 : Nat → Int32 → Int32 → aH → aO) (l0 : Nat) (l1 : Int32) (l2 : Int32) (l3 : Int32) (l4 : Int32) (h : aH) : aO :=
  (gO h (.ref l0) 10 11).bind fun x85 => (stI h (.ref x85) l3 l4).bind fun h91 => (gO h91 (.ref l0) 10 1).bind fun x95 => (gI h91 (.ref x95) 3 3).bind fun x98 => if l4 = x98 then (some (.inl (some (.int l2)), h91)) else (k2 l0 l1 (l2 + 1) h91)
def s_X10_pushIntoDone_33_b (k2 : Nat → Int32 → Int32 → aH → aO) (k33 : Nat → Int32 → Int32 → Int32 → Int32 → aH → aO) (l0 : Nat) (l1 : Int32) (l2 : Int32) (l3 : Int32) (l4 : Int32) (h : aH) : aO :=
  (gO h (.ref l0) 10 1).bind fun x36 => (gI h (.ref x36) 3 3).bind fun x39 => if x39 ≤ l4 then (s_X10_pushIntoDone_84 k2 l0 l1 l2 l3 l4 h) else ((gO h (.ref l0) 10 1).bind fun x46 => (gO h (.ref x46) 3 5).bind fun x49 => (gO h (.ref l0) 10 1).bind fun x54 => (gI h (.ref x54) 3 3).bind fun x57 => (ldI .int h (.ref x49) ((l3 * x57) + l4)).bind fun x64 => (gO h (.ref l0) 10 10).bind fun x66 => (ldI .int h (.ref x66) l4).bind fun x71 => if (x64 &&& (x71 ^^^ (-1))) = 0 then (k33 l0 l1 l2 l3 (l4 + 1) h) else (s_X10_pushIntoDone_84 k2 l0 l1 l2 l3 l4 h))
def s_X10_pushIntoDone_33 (k2 : Nat → Int32 → Int32 → aH → aO) (n : Nat) : Nat → Int32 → Int32 → Int32 → Int32 → aH → aO := lpF (fun _ _ _ _ _ _ => none) (s_X10_pushIntoDone_33_b k2) n
def s_X10_pushIntoDone_2_b  (k2 : Nat → Int32 → Int32 → aH → aO) (l0 : Nat) (l1 : Int32) (l2 : Int32) (h : aH) : aO :=
  (gO h (.ref l0) 10 0).bind fun x4 => (gI h (.ref x4) 2 13).bind fun x7 => if x7 ≤ l2 then (some (.inl (some (.int (-2))), h)) else ((gO h (.ref l0) 10 0).bind fun x15 => (gI h (.ref x15) 2 13).bind fun x18 => (gO h (.ref l0) 10 11).bind fun x26 => (ldI .int h (.ref x26) ((l1 * x18) + l2)).bind fun x30 => s_X10_pushIntoDone_33 k2 FU l0 l1 l2 ((l1 * x18) + l2) x30 h)
def s_X10_pushIntoDone_2  (n : Nat) : Nat → Int32 → Int32 → aH → aO := lpF (fun _ _ _ _ => none) (s_X10_pushIntoDone_2_b ) n
def s_X10_pushIntoDone (o : Nat) (a1 : Int32) (h : aH) : aO :=
  s_X10_pushIntoDone_2 FU o a1 0 h
section
variable {p : Program} {l : Launch} {e : Env} {s : State} {m : MethodId} {args : Array Value} {below : List Frame} {meth : Method} {c : Code} {D : va_G} {B0 : Nat} {X : Nat → Nat} {ws0 : va_W} {r : aR} {h' : aH} {mc ms : Nat}
theorem t_X10_pushIntoDone_84 (C : Cx p l s m args meth c B0 X RX10 "pushIntoDone" cX10_pushIntoDone 5 (some .int) []) {k2 : Nat → Int32 → Int32 → aH → aO} (K2 : ∀ (l0 : Nat) (l1 : Int32) (l2 : Int32) (h : aH), k2 l0 l1 l2 h = some (r, h') → Ev p l e { frames := 0, cells := mc, slots := ms, locals := 0 } s m args below meth c D B0 X ws0 r h' mc ms 5 mc ms 2 [some (.ref l0), some (.int l1), some (.int l2), none, none] [] h) {l0 : Nat} {l1 : Int32} {l2 : Int32} {l3 : Int32} {l4 : Int32} {h : aH} (hs : s_X10_pushIntoDone_84 k2 l0 l1 l2 l3 l4 h = some (r, h')) : Ev p l e { frames := 0, cells := mc, slots := ms, locals := 0 } s m args below meth c D B0 X ws0 r h' mc ms 5 mc ms 84 [some (.ref l0), some (.int l1), some (.int l2), some (.int l3), some (.int l4)] [] h := by
  unfold s_X10_pushIntoDone_84 at hs
  refine ev_aload_n C (x := .ref l0) rfl trivial dX10_pushIntoDone_84 ?_
  obtain ⟨x85, e85, hs⟩ := aB hs
  refine ev_get C (ci := 10) (k := 11) rfl wu_10 (by decide) wf_X10_33 (gO_F e85) dX10_pushIntoDone_85 ?_
  refine ev_iload_n C rfl dX10_pushIntoDone_88 ?_
  refine ev_iload C rfl dX10_pushIntoDone_89 ?_
  obtain ⟨h91, e91, hs⟩ := aB hs
  refine ev_iast C e91 dX10_pushIntoDone_91 ?_
  refine ev_iload C rfl dX10_pushIntoDone_92 ?_
  refine ev_aload_n C (x := .ref l0) rfl trivial dX10_pushIntoDone_94 ?_
  obtain ⟨x95, e95, hs⟩ := aB hs
  refine ev_get C (ci := 10) (k := 1) rfl wu_10 (by decide) wf_X10_40 (gO_F e95) dX10_pushIntoDone_95 ?_
  obtain ⟨x98, e98, hs⟩ := aB hs
  refine ev_getN C (ci := 3) (k := 3) rfl wu_3 (by decide) wg_X10_117 (gI_F e98) dX10_pushIntoDone_98 ?_
  refine ev_icmp_ne C (tgt := 106) (by decide) dX10_pushIntoDone_101 (fun q101 => ?_) (fun q101 => ?_)
  · replace hs := (if_neg q101).symm.trans hs
    refine ev_iinc C (i := 2) (n := 1) (x := l2) (v := l2 + 1) rfl (congrArg (fun z => l2 + z) (show Int32.ofInt 1 = 1 by decide)) (by decide) dX10_pushIntoDone_106 ?_
    refine ev_goto C (tgt := 2) (by decide) dX10_pushIntoDone_109 ?_
    exact Ev.keep [true, true, true, false, false] (K2 _ _ _ _ hs)
  · replace hs := (if_pos q101).symm.trans hs
    refine ev_iload_n C rfl dX10_pushIntoDone_104 ?_
    cases hs
    exact ev_iret C rfl rfl (Nat.le_refl _) (Nat.le_refl _) rfl dX10_pushIntoDone_105
theorem t_X10_pushIntoDone_33_b (C : Cx p l s m args meth c B0 X RX10 "pushIntoDone" cX10_pushIntoDone 5 (some .int) []) {k2 : Nat → Int32 → Int32 → aH → aO} (K2 : ∀ (l0 : Nat) (l1 : Int32) (l2 : Int32) (h : aH), k2 l0 l1 l2 h = some (r, h') → Ev p l e { frames := 0, cells := mc, slots := ms, locals := 0 } s m args below meth c D B0 X ws0 r h' mc ms 5 mc ms 2 [some (.ref l0), some (.int l1), some (.int l2), none, none] [] h) {k33 : Nat → Int32 → Int32 → Int32 → Int32 → aH → aO} (K33 : ∀ (l0 : Nat) (l1 : Int32) (l2 : Int32) (l3 : Int32) (l4 : Int32) (h : aH), k33 l0 l1 l2 l3 l4 h = some (r, h') → Ev p l e { frames := 0, cells := mc, slots := ms, locals := 0 } s m args below meth c D B0 X ws0 r h' mc ms 5 mc ms 33 [some (.ref l0), some (.int l1), some (.int l2), some (.int l3), some (.int l4)] [] h) {l0 : Nat} {l1 : Int32} {l2 : Int32} {l3 : Int32} {l4 : Int32} {h : aH} (hs : s_X10_pushIntoDone_33_b k2 k33 l0 l1 l2 l3 l4 h = some (r, h')) : Ev p l e { frames := 0, cells := mc, slots := ms, locals := 0 } s m args below meth c D B0 X ws0 r h' mc ms 5 mc ms 33 [some (.ref l0), some (.int l1), some (.int l2), some (.int l3), some (.int l4)] [] h := by
  unfold s_X10_pushIntoDone_33_b at hs
  refine ev_iload C rfl dX10_pushIntoDone_33 ?_
  refine ev_aload_n C (x := .ref l0) rfl trivial dX10_pushIntoDone_35 ?_
  obtain ⟨x36, e36, hs⟩ := aB hs
  refine ev_get C (ci := 10) (k := 1) rfl wu_10 (by decide) wf_X10_40 (gO_F e36) dX10_pushIntoDone_36 ?_
  obtain ⟨x39, e39, hs⟩ := aB hs
  refine ev_getN C (ci := 3) (k := 3) rfl wu_3 (by decide) wg_X10_117 (gI_F e39) dX10_pushIntoDone_39 ?_
  refine ev_icmp_ge C (tgt := 84) (by decide) dX10_pushIntoDone_42 (fun q42 => ?_) (fun q42 => ?_)
  · replace hs := (if_pos q42).symm.trans hs
    exact (t_X10_pushIntoDone_84 C K2 hs)
  · replace hs := (if_neg q42).symm.trans hs
    refine ev_aload_n C (x := .ref l0) rfl trivial dX10_pushIntoDone_45 ?_
    obtain ⟨x46, e46, hs⟩ := aB hs
    refine ev_get C (ci := 10) (k := 1) rfl wu_10 (by decide) wf_X10_40 (gO_F e46) dX10_pushIntoDone_46 ?_
    obtain ⟨x49, e49, hs⟩ := aB hs
    refine ev_getN C (ci := 3) (k := 5) rfl wu_3 (by decide) wg_X10_122 (gO_F e49) dX10_pushIntoDone_49 ?_
    refine ev_iload_n C rfl dX10_pushIntoDone_52 ?_
    refine ev_aload_n C (x := .ref l0) rfl trivial dX10_pushIntoDone_53 ?_
    obtain ⟨x54, e54, hs⟩ := aB hs
    refine ev_get C (ci := 10) (k := 1) rfl wu_10 (by decide) wf_X10_40 (gO_F e54) dX10_pushIntoDone_54 ?_
    obtain ⟨x57, e57, hs⟩ := aB hs
    refine ev_getN C (ci := 3) (k := 3) rfl wu_3 (by decide) wg_X10_117 (gI_F e57) dX10_pushIntoDone_57 ?_
    refine ev_imul C dX10_pushIntoDone_60 ?_
    refine ev_iload C rfl dX10_pushIntoDone_61 ?_
    refine ev_iadd C dX10_pushIntoDone_63 ?_
    obtain ⟨x64, e64, hs⟩ := aB hs
    refine ev_iald C e64 dX10_pushIntoDone_64 ?_
    refine ev_aload_n C (x := .ref l0) rfl trivial dX10_pushIntoDone_65 ?_
    obtain ⟨x66, e66, hs⟩ := aB hs
    refine ev_get C (ci := 10) (k := 10) rfl wu_10 (by decide) wf_X10_30 (gO_F e66) dX10_pushIntoDone_66 ?_
    refine ev_iload C rfl dX10_pushIntoDone_69 ?_
    obtain ⟨x71, e71, hs⟩ := aB hs
    refine ev_iald C e71 dX10_pushIntoDone_71 ?_
    refine ev_iconst C (v := (-1)) dX10_pushIntoDone_72 (by decide) ?_
    refine ev_ixor C dX10_pushIntoDone_73 ?_
    refine ev_iand C dX10_pushIntoDone_74 ?_
    refine ev_if_ne C (tgt := 84) (by decide) dX10_pushIntoDone_75 (fun q75 => ?_) (fun q75 => ?_)
    · replace hs := (if_neg q75).symm.trans hs
      exact (t_X10_pushIntoDone_84 C K2 hs)
    · replace hs := (if_pos q75).symm.trans hs
      refine ev_iinc C (i := 4) (n := 1) (x := l4) (v := l4 + 1) rfl (congrArg (fun z => l4 + z) (show Int32.ofInt 1 = 1 by decide)) (by decide) dX10_pushIntoDone_78 ?_
      refine ev_goto C (tgt := 33) (by decide) dX10_pushIntoDone_81 ?_
      exact (K33 _ _ _ _ _ _ hs)
theorem t_X10_pushIntoDone_33 (C : Cx p l s m args meth c B0 X RX10 "pushIntoDone" cX10_pushIntoDone 5 (some .int) []) {k2 : Nat → Int32 → Int32 → aH → aO} (K2 : ∀ (l0 : Nat) (l1 : Int32) (l2 : Int32) (h : aH), k2 l0 l1 l2 h = some (r, h') → Ev p l e { frames := 0, cells := mc, slots := ms, locals := 0 } s m args below meth c D B0 X ws0 r h' mc ms 5 mc ms 2 [some (.ref l0), some (.int l1), some (.int l2), none, none] [] h) : ∀ (n : Nat) {l0 : Nat} {l1 : Int32} {l2 : Int32} {l3 : Int32} {l4 : Int32} {h : aH} (hs : s_X10_pushIntoDone_33 k2 n l0 l1 l2 l3 l4 h = some (r, h')), Ev p l e { frames := 0, cells := mc, slots := ms, locals := 0 } s m args below meth c D B0 X ws0 r h' mc ms 5 mc ms 33 [some (.ref l0), some (.int l1), some (.int l2), some (.int l3), some (.int l4)] [] h
  | 0, _, _, _, _, _, _, hs => nomatch hs
  | n + 1, _, _, _, _, _, _, hs => t_X10_pushIntoDone_33_b C K2 (k33 := s_X10_pushIntoDone_33 k2 n) (fun _ _ _ _ _ _ hs => t_X10_pushIntoDone_33 C K2 n hs) hs
theorem t_X10_pushIntoDone_2_b (C : Cx p l s m args meth c B0 X RX10 "pushIntoDone" cX10_pushIntoDone 5 (some .int) [])   {k2 : Nat → Int32 → Int32 → aH → aO} (K2 : ∀ (l0 : Nat) (l1 : Int32) (l2 : Int32) (h : aH), k2 l0 l1 l2 h = some (r, h') → Ev p l e { frames := 0, cells := mc, slots := ms, locals := 0 } s m args below meth c D B0 X ws0 r h' mc ms 5 mc ms 2 [some (.ref l0), some (.int l1), some (.int l2), none, none] [] h) {l0 : Nat} {l1 : Int32} {l2 : Int32} {h : aH} (hs : s_X10_pushIntoDone_2_b  k2 l0 l1 l2 h = some (r, h')) : Ev p l e { frames := 0, cells := mc, slots := ms, locals := 0 } s m args below meth c D B0 X ws0 r h' mc ms 5 mc ms 2 [some (.ref l0), some (.int l1), some (.int l2), none, none] [] h := by
  unfold s_X10_pushIntoDone_2_b at hs
  refine ev_iload_n C rfl dX10_pushIntoDone_2 ?_
  refine ev_aload_n C (x := .ref l0) rfl trivial dX10_pushIntoDone_3 ?_
  obtain ⟨x4, e4, hs⟩ := aB hs
  refine ev_get C (ci := 10) (k := 0) rfl wu_10 (by decide) wf_X10_36 (gO_F e4) dX10_pushIntoDone_4 ?_
  obtain ⟨x7, e7, hs⟩ := aB hs
  refine ev_getN C (ci := 2) (k := 13) rfl wu_2 (by decide) wg_X10_56 (gI_F e7) dX10_pushIntoDone_7 ?_
  refine ev_icmp_ge C (tgt := 112) (by decide) dX10_pushIntoDone_10 (fun q10 => ?_) (fun q10 => ?_)
  · replace hs := (if_pos q10).symm.trans hs
    refine ev_bipush C (v := (-2)) dX10_pushIntoDone_112 (by decide) ?_
    cases hs
    exact ev_iret C rfl rfl (Nat.le_refl _) (Nat.le_refl _) rfl dX10_pushIntoDone_114
  · replace hs := (if_neg q10).symm.trans hs
    refine ev_iload_n C rfl dX10_pushIntoDone_13 ?_
    refine ev_aload_n C (x := .ref l0) rfl trivial dX10_pushIntoDone_14 ?_
    obtain ⟨x15, e15, hs⟩ := aB hs
    refine ev_get C (ci := 10) (k := 0) rfl wu_10 (by decide) wf_X10_36 (gO_F e15) dX10_pushIntoDone_15 ?_
    obtain ⟨x18, e18, hs⟩ := aB hs
    refine ev_getN C (ci := 2) (k := 13) rfl wu_2 (by decide) wg_X10_56 (gI_F e18) dX10_pushIntoDone_18 ?_
    refine ev_imul C dX10_pushIntoDone_21 ?_
    refine ev_iload_n C rfl dX10_pushIntoDone_22 ?_
    refine ev_iadd C dX10_pushIntoDone_23 ?_
    refine ev_istore_n C (by decide) dX10_pushIntoDone_24 ?_
    refine ev_aload_n C (x := .ref l0) rfl trivial dX10_pushIntoDone_25 ?_
    obtain ⟨x26, e26, hs⟩ := aB hs
    refine ev_get C (ci := 10) (k := 11) rfl wu_10 (by decide) wf_X10_33 (gO_F e26) dX10_pushIntoDone_26 ?_
    refine ev_iload_n C rfl dX10_pushIntoDone_29 ?_
    obtain ⟨x30, e30, hs⟩ := aB hs
    refine ev_iald C e30 dX10_pushIntoDone_30 ?_
    refine ev_istore C (by decide) dX10_pushIntoDone_31 ?_
    exact (t_X10_pushIntoDone_33 C K2 FU hs)
theorem t_X10_pushIntoDone_2 (C : Cx p l s m args meth c B0 X RX10 "pushIntoDone" cX10_pushIntoDone 5 (some .int) [])   : ∀ (n : Nat) {l0 : Nat} {l1 : Int32} {l2 : Int32} {h : aH} (hs : s_X10_pushIntoDone_2  n l0 l1 l2 h = some (r, h')), Ev p l e { frames := 0, cells := mc, slots := ms, locals := 0 } s m args below meth c D B0 X ws0 r h' mc ms 5 mc ms 2 [some (.ref l0), some (.int l1), some (.int l2), none, none] [] h
  | 0, _, _, _, _, hs => nomatch hs
  | n + 1, _, _, _, _, hs => t_X10_pushIntoDone_2_b C  (k2 := s_X10_pushIntoDone_2  n) (fun _ _ _ _ hs => t_X10_pushIntoDone_2 C  n hs) hs
theorem hy_X10_pushIntoDone : yX10_pushIntoDone.cls ≠ "java/lang/invoke/MethodHandle" ∧ yX10_pushIntoDone.cls ≠ "java/lang/invoke/VarHandle" ∧ (parseMethodDescriptor yX10_pushIntoDone.desc).map (fun d => d.parameters.length) = some 1 := by decide +kernel
theorem T_X10_pushIntoDone (o : Nat) (a1 : Int32) (h : aH) (r : aR) (h' : aH) (hs : s_X10_pushIntoDone o a1 h = some (r, h')) : Mt yX10_pushIntoDone (Cond.code yX10_pushIntoDone cX10_pushIntoDone 5 (some .int) :: aTB) 0 0 0 0 [.ref o, .int a1] h r h' := by
  unfold s_X10_pushIntoDone at hs
  refine Mt_of (k := 3) (by decide) rfl (fun p l e s m args below meth c D B0 X ws0 C => ?_)
  show Ev p l e { frames := 0, cells := 0, slots := 0, locals := 0 } s m args below meth c D B0 X ws0 r h' 0 0 5 0 0 0 [some (.ref o), some (.int a1), none, none, none] [] h
  refine ev_iconst C (v := 0) dX10_pushIntoDone_0 (by decide) ?_
  refine ev_istore_n C (by decide) dX10_pushIntoDone_1 ?_
  exact (t_X10_pushIntoDone_2 C  FU hs)
end
-- X10_reachRound
theorem dX10_reachRound_0 : decode cX10_reachRound 0 = .ok (.iconst 0, 1) := by decide +kernel
theorem dX10_reachRound_1 : decode cX10_reachRound 1 = .ok (.istore_n 2, 1) := by decide +kernel
theorem dX10_reachRound_2 : decode cX10_reachRound 2 = .ok (.iload_n 2, 1) := by decide +kernel
theorem dX10_reachRound_3 : decode cX10_reachRound 3 = .ok (.aload_n 0, 1) := by decide +kernel
theorem dX10_reachRound_4 : decode cX10_reachRound 4 = .ok (.getfield 36, 3) := by decide +kernel
theorem dX10_reachRound_7 : decode cX10_reachRound 7 = .ok (.getfield 50, 3) := by decide +kernel
theorem dX10_reachRound_10 : decode cX10_reachRound 10 = .ok (.if_icmp .ge 60, 3) := by decide +kernel
theorem dX10_reachRound_13 : decode cX10_reachRound 13 = .ok (.aload_n 0, 1) := by decide +kernel
theorem dX10_reachRound_14 : decode cX10_reachRound 14 = .ok (.getfield 24, 3) := by decide +kernel
theorem dX10_reachRound_17 : decode cX10_reachRound 17 = .ok (.iload_n 2, 1) := by decide +kernel
theorem dX10_reachRound_18 : decode cX10_reachRound 18 = .ok (.iaload, 1) := by decide +kernel
theorem dX10_reachRound_19 : decode cX10_reachRound 19 = .ok (.bipush (-2), 2) := by decide +kernel
theorem dX10_reachRound_21 : decode cX10_reachRound 21 = .ok (.if_icmp .ne 43, 3) := by decide +kernel
theorem dX10_reachRound_24 : decode cX10_reachRound 24 = .ok (.aload_n 0, 1) := by decide +kernel
theorem dX10_reachRound_25 : decode cX10_reachRound 25 = .ok (.iload_n 2, 1) := by decide +kernel
theorem dX10_reachRound_26 : decode cX10_reachRound 26 = .ok (.invokevirtual 103, 3) := by decide +kernel
theorem dX10_reachRound_29 : decode cX10_reachRound 29 = .ok (.ifCond .eq 35, 3) := by decide +kernel
theorem dX10_reachRound_32 : decode cX10_reachRound 32 = .ok (.aload_n 0, 1) := by decide +kernel
theorem dX10_reachRound_33 : decode cX10_reachRound 33 = .ok (.getfield 27, 3) := by decide +kernel
theorem dX10_reachRound_36 : decode cX10_reachRound 36 = .ok (.iload_n 2, 1) := by decide +kernel
theorem dX10_reachRound_37 : decode cX10_reachRound 37 = .ok (.aload_n 0, 1) := by decide +kernel
theorem dX10_reachRound_38 : decode cX10_reachRound 38 = .ok (.iload_n 2, 1) := by decide +kernel
theorem dX10_reachRound_39 : decode cX10_reachRound 39 = .ok (.invokevirtual 113, 3) := by decide +kernel
theorem dX10_reachRound_42 : decode cX10_reachRound 42 = .ok (.iastore, 1) := by decide +kernel
theorem dX10_reachRound_43 : decode cX10_reachRound 43 = .ok (.aload_n 0, 1) := by decide +kernel
theorem dX10_reachRound_44 : decode cX10_reachRound 44 = .ok (.getfield 24, 3) := by decide +kernel
theorem dX10_reachRound_47 : decode cX10_reachRound 47 = .ok (.iload_n 2, 1) := by decide +kernel
theorem dX10_reachRound_48 : decode cX10_reachRound 48 = .ok (.aload_n 0, 1) := by decide +kernel
theorem dX10_reachRound_49 : decode cX10_reachRound 49 = .ok (.getfield 27, 3) := by decide +kernel
theorem dX10_reachRound_52 : decode cX10_reachRound 52 = .ok (.iload_n 2, 1) := by decide +kernel
theorem dX10_reachRound_53 : decode cX10_reachRound 53 = .ok (.iaload, 1) := by decide +kernel
theorem dX10_reachRound_54 : decode cX10_reachRound 54 = .ok (.ifCond .ge 8, 3) := by decide +kernel
theorem dX10_reachRound_57 : decode cX10_reachRound 57 = .ok (.bipush (-2), 2) := by decide +kernel
theorem dX10_reachRound_59 : decode cX10_reachRound 59 = .ok (.goto 4, 3) := by decide +kernel
theorem dX10_reachRound_62 : decode cX10_reachRound 62 = .ok (.iload_n 1, 1) := by decide +kernel
theorem dX10_reachRound_63 : decode cX10_reachRound 63 = .ok (.iastore, 1) := by decide +kernel
theorem dX10_reachRound_64 : decode cX10_reachRound 64 = .ok (.iinc 2 1, 3) := by decide +kernel
theorem dX10_reachRound_67 : decode cX10_reachRound 67 = .ok (.goto (-65), 3) := by decide +kernel
theorem dX10_reachRound_70 : decode cX10_reachRound 70 = .ok (.iconst 0, 1) := by decide +kernel
theorem dX10_reachRound_71 : decode cX10_reachRound 71 = .ok (.istore_n 2, 1) := by decide +kernel
theorem dX10_reachRound_72 : decode cX10_reachRound 72 = .ok (.iconst 0, 1) := by decide +kernel
theorem dX10_reachRound_73 : decode cX10_reachRound 73 = .ok (.istore_n 3, 1) := by decide +kernel
theorem dX10_reachRound_74 : decode cX10_reachRound 74 = .ok (.iload_n 3, 1) := by decide +kernel
theorem dX10_reachRound_75 : decode cX10_reachRound 75 = .ok (.aload_n 0, 1) := by decide +kernel
theorem dX10_reachRound_76 : decode cX10_reachRound 76 = .ok (.getfield 36, 3) := by decide +kernel
theorem dX10_reachRound_79 : decode cX10_reachRound 79 = .ok (.getfield 50, 3) := by decide +kernel
theorem dX10_reachRound_82 : decode cX10_reachRound 82 = .ok (.if_icmp .ge 38, 3) := by decide +kernel
theorem dX10_reachRound_85 : decode cX10_reachRound 85 = .ok (.aload_n 0, 1) := by decide +kernel
theorem dX10_reachRound_86 : decode cX10_reachRound 86 = .ok (.getfield 24, 3) := by decide +kernel
theorem dX10_reachRound_89 : decode cX10_reachRound 89 = .ok (.iload_n 3, 1) := by decide +kernel
theorem dX10_reachRound_90 : decode cX10_reachRound 90 = .ok (.iaload, 1) := by decide +kernel
theorem dX10_reachRound_91 : decode cX10_reachRound 91 = .ok (.iload_n 1, 1) := by decide +kernel
theorem dX10_reachRound_92 : decode cX10_reachRound 92 = .ok (.if_icmp .ne 22, 3) := by decide +kernel
theorem dX10_reachRound_95 : decode cX10_reachRound 95 = .ok (.aload_n 0, 1) := by decide +kernel
theorem dX10_reachRound_96 : decode cX10_reachRound 96 = .ok (.getfield 30, 3) := by decide +kernel
theorem dX10_reachRound_99 : decode cX10_reachRound 99 = .ok (.iload_n 3, 1) := by decide +kernel
theorem dX10_reachRound_100 : decode cX10_reachRound 100 = .ok (.iconst 5, 1) := by decide +kernel
theorem dX10_reachRound_101 : decode cX10_reachRound 101 = .ok (.ishr, 1) := by decide +kernel
theorem dX10_reachRound_102 : decode cX10_reachRound 102 = .ok (.dup2, 1) := by decide +kernel
theorem dX10_reachRound_103 : decode cX10_reachRound 103 = .ok (.iaload, 1) := by decide +kernel
theorem dX10_reachRound_104 : decode cX10_reachRound 104 = .ok (.iconst 1, 1) := by decide +kernel
theorem dX10_reachRound_105 : decode cX10_reachRound 105 = .ok (.iload_n 3, 1) := by decide +kernel
theorem dX10_reachRound_106 : decode cX10_reachRound 106 = .ok (.bipush 31, 2) := by decide +kernel
theorem dX10_reachRound_108 : decode cX10_reachRound 108 = .ok (.iand, 1) := by decide +kernel
theorem dX10_reachRound_109 : decode cX10_reachRound 109 = .ok (.ishl, 1) := by decide +kernel
theorem dX10_reachRound_110 : decode cX10_reachRound 110 = .ok (.ior, 1) := by decide +kernel
theorem dX10_reachRound_111 : decode cX10_reachRound 111 = .ok (.iastore, 1) := by decide +kernel
theorem dX10_reachRound_112 : decode cX10_reachRound 112 = .ok (.iconst 1, 1) := by decide +kernel
theorem dX10_reachRound_113 : decode cX10_reachRound 113 = .ok (.istore_n 2, 1) := by decide +kernel
theorem dX10_reachRound_114 : decode cX10_reachRound 114 = .ok (.iinc 3 1, 3) := by decide +kernel
theorem dX10_reachRound_117 : decode cX10_reachRound 117 = .ok (.goto (-43), 3) := by decide +kernel
theorem dX10_reachRound_120 : decode cX10_reachRound 120 = .ok (.iload_n 2, 1) := by decide +kernel
theorem dX10_reachRound_121 : decode cX10_reachRound 121 = .ok (.ireturn, 1) := by decide +kernel
def s_X10_reachRound_74_b  (k74 : Nat → Int32 → Int32 → Int32 → aH → aO) (l0 : Nat) (l1 : Int32) (l2 : Int32) (l3 : Int32) (h : aH) : aO :=
  (gO h (.ref l0) 10 0).bind fun x76 => (gI h (.ref x76) 2 12).bind fun x79 => if x79 ≤ l3 then (rtZ l2 h) else ((gO h (.ref l0) 10 8).bind fun x86 => (ldI .int h (.ref x86) l3).bind fun x90 => if x90 = l1 then ((gO h (.ref l0) 10 10).bind fun x96 => (ldI .int h (.ref x96) (l3 >>> (5 &&& 31))).bind fun x103 => (stI h (.ref x96) (l3 >>> (5 &&& 31)) (x103 ||| (1 <<< ((l3 &&& 31) &&& 31)))).bind fun h111 => k74 l0 l1 1 (l3 + 1) h111) else (k74 l0 l1 l2 (l3 + 1) h))
def s_X10_reachRound_74  (n : Nat) : Nat → Int32 → Int32 → Int32 → aH → aO := lpF (fun _ _ _ _ _ => none) (s_X10_reachRound_74_b ) n
def s_X10_reachRound_63 (k2 : Nat → Int32 → Int32 → aH → aO) (l0 : Nat) (l1 : Int32) (l2 : Int32) (s0 : Int32) (s1 : Int32) (s2 : Nat) (h : aH) : aO :=
  (stI h (.ref s2) s1 s0).bind fun h63 => k2 l0 l1 (l2 + 1) h63
def s_X10_reachRound_2_b  (k2 : Nat → Int32 → Int32 → aH → aO) (l0 : Nat) (l1 : Int32) (l2 : Int32) (h : aH) : aO :=
  (gO h (.ref l0) 10 0).bind fun x4 => (gI h (.ref x4) 2 12).bind fun x7 => if x7 ≤ l2 then (s_X10_reachRound_74 FU l0 l1 0 0 h) else ((gO h (.ref l0) 10 8).bind fun x14 => (ldI .int h (.ref x14) l2).bind fun x18 => if x18 = (-2) then (kO h l0 10 (cI (s_X10_isGood l0 l2 h) fun x26 h26 => if x26 = 0 then (k2 l0 l1 (l2 + 1) h26) else ((gO h26 (.ref l0) 10 9).bind fun x33 => kO h26 l0 10 (cI (s_X10_pushIntoDone l0 l2 h26) fun x39 h39 => (stI h39 (.ref x33) l2 x39).bind fun h42 => (gO h42 (.ref l0) 10 8).bind fun x44 => (gO h42 (.ref l0) 10 9).bind fun x49 => (ldI .int h42 (.ref x49) l2).bind fun x53 => if 0 ≤ x53 then (s_X10_reachRound_63 k2 l0 l1 l2 l1 l2 x44 h42) else (s_X10_reachRound_63 k2 l0 l1 l2 (-2) l2 x44 h42))))) else (k2 l0 l1 (l2 + 1) h))
def s_X10_reachRound_2  (n : Nat) : Nat → Int32 → Int32 → aH → aO := lpF (fun _ _ _ _ => none) (s_X10_reachRound_2_b ) n
def s_X10_reachRound (o : Nat) (a1 : Int32) (h : aH) : aO :=
  s_X10_reachRound_2 FU o a1 0 h
section
variable {p : Program} {l : Launch} {e : Env} {s : State} {m : MethodId} {args : Array Value} {below : List Frame} {meth : Method} {c : Code} {D : va_G} {B0 : Nat} {X : Nat → Nat} {ws0 : va_W} {r : aR} {h' : aH} {mc ms : Nat}
theorem t_X10_reachRound_74_b (C : Cx p l s m args meth c B0 X RX10 "reachRound" cX10_reachRound 4 (some .boolean) [])   {k74 : Nat → Int32 → Int32 → Int32 → aH → aO} (K74 : ∀ (l0 : Nat) (l1 : Int32) (l2 : Int32) (l3 : Int32) (h : aH), k74 l0 l1 l2 l3 h = some (r, h') → Ev p l e { frames := 1, cells := mc, slots := ms, locals := 24 } s m args below meth c D B0 X ws0 r h' mc ms 4 mc ms 74 [some (.ref l0), some (.int l1), some (.int l2), some (.int l3)] [] h) {l0 : Nat} {l1 : Int32} {l2 : Int32} {l3 : Int32} {h : aH} (hs : s_X10_reachRound_74_b  k74 l0 l1 l2 l3 h = some (r, h')) : Ev p l e { frames := 1, cells := mc, slots := ms, locals := 24 } s m args below meth c D B0 X ws0 r h' mc ms 4 mc ms 74 [some (.ref l0), some (.int l1), some (.int l2), some (.int l3)] [] h := by
  unfold s_X10_reachRound_74_b at hs
  refine ev_iload_n C rfl dX10_reachRound_74 ?_
  refine ev_aload_n C (x := .ref l0) rfl trivial dX10_reachRound_75 ?_
  obtain ⟨x76, e76, hs⟩ := aB hs
  refine ev_get C (ci := 10) (k := 0) rfl wu_10 (by decide) wf_X10_36 (gO_F e76) dX10_reachRound_76 ?_
  obtain ⟨x79, e79, hs⟩ := aB hs
  refine ev_getN C (ci := 2) (k := 12) rfl wu_2 (by decide) wg_X10_50 (gI_F e79) dX10_reachRound_79 ?_
  refine ev_icmp_ge C (tgt := 120) (by decide) dX10_reachRound_82 (fun q82 => ?_) (fun q82 => ?_)
  · replace hs := (if_pos q82).symm.trans hs
    refine ev_iload_n C rfl dX10_reachRound_120 ?_
    obtain ⟨hz, rfl, rfl⟩ := rtZ_at hs
    exact ev_zret C rfl hz rfl (Nat.le_refl _) (Nat.le_refl _) rfl dX10_reachRound_121
  · replace hs := (if_neg q82).symm.trans hs
    refine ev_aload_n C (x := .ref l0) rfl trivial dX10_reachRound_85 ?_
    obtain ⟨x86, e86, hs⟩ := aB hs
    refine ev_get C (ci := 10) (k := 8) rfl wu_10 (by decide) wf_X10_24 (gO_F e86) dX10_reachRound_86 ?_
    refine ev_iload_n C rfl dX10_reachRound_89 ?_
    obtain ⟨x90, e90, hs⟩ := aB hs
    refine ev_iald C e90 dX10_reachRound_90 ?_
    refine ev_iload_n C rfl dX10_reachRound_91 ?_
    refine ev_icmp_ne C (tgt := 114) (by decide) dX10_reachRound_92 (fun q92 => ?_) (fun q92 => ?_)
    · replace hs := (if_neg q92).symm.trans hs
      refine ev_iinc C (i := 3) (n := 1) (x := l3) (v := l3 + 1) rfl (congrArg (fun z => l3 + z) (show Int32.ofInt 1 = 1 by decide)) (by decide) dX10_reachRound_114 ?_
      refine ev_goto C (tgt := 74) (by decide) dX10_reachRound_117 ?_
      exact (K74 _ _ _ _ _ hs)
    · replace hs := (if_pos q92).symm.trans hs
      refine ev_aload_n C (x := .ref l0) rfl trivial dX10_reachRound_95 ?_
      obtain ⟨x96, e96, hs⟩ := aB hs
      refine ev_get C (ci := 10) (k := 10) rfl wu_10 (by decide) wf_X10_30 (gO_F e96) dX10_reachRound_96 ?_
      refine ev_iload_n C rfl dX10_reachRound_99 ?_
      refine ev_iconst C (v := 5) dX10_reachRound_100 (by decide) ?_
      refine ev_ishr C dX10_reachRound_101 ?_
      refine ev_dup2 C rfl rfl dX10_reachRound_102 ?_
      obtain ⟨x103, e103, hs⟩ := aB hs
      refine ev_iald C e103 dX10_reachRound_103 ?_
      refine ev_iconst C (v := 1) dX10_reachRound_104 (by decide) ?_
      refine ev_iload_n C rfl dX10_reachRound_105 ?_
      refine ev_bipush C (v := 31) dX10_reachRound_106 (by decide) ?_
      refine ev_iand C dX10_reachRound_108 ?_
      refine ev_ishl C dX10_reachRound_109 ?_
      refine ev_ior C dX10_reachRound_110 ?_
      obtain ⟨h111, e111, hs⟩ := aB hs
      refine ev_iast C e111 dX10_reachRound_111 ?_
      refine ev_iconst C (v := 1) dX10_reachRound_112 (by decide) ?_
      refine ev_istore_n C (by decide) dX10_reachRound_113 ?_
      refine ev_iinc C (i := 3) (n := 1) (x := l3) (v := l3 + 1) rfl (congrArg (fun z => l3 + z) (show Int32.ofInt 1 = 1 by decide)) (by decide) dX10_reachRound_114 ?_
      refine ev_goto C (tgt := 74) (by decide) dX10_reachRound_117 ?_
      exact (K74 _ _ _ _ _ hs)
theorem t_X10_reachRound_74 (C : Cx p l s m args meth c B0 X RX10 "reachRound" cX10_reachRound 4 (some .boolean) [])   : ∀ (n : Nat) {l0 : Nat} {l1 : Int32} {l2 : Int32} {l3 : Int32} {h : aH} (hs : s_X10_reachRound_74  n l0 l1 l2 l3 h = some (r, h')), Ev p l e { frames := 1, cells := mc, slots := ms, locals := 24 } s m args below meth c D B0 X ws0 r h' mc ms 4 mc ms 74 [some (.ref l0), some (.int l1), some (.int l2), some (.int l3)] [] h
  | 0, _, _, _, _, _, hs => nomatch hs
  | n + 1, _, _, _, _, _, hs => t_X10_reachRound_74_b C  (k74 := s_X10_reachRound_74  n) (fun _ _ _ _ _ hs => t_X10_reachRound_74 C  n hs) hs
theorem t_X10_reachRound_63 (C : Cx p l s m args meth c B0 X RX10 "reachRound" cX10_reachRound 4 (some .boolean) []) {k2 : Nat → Int32 → Int32 → aH → aO} (K2 : ∀ (l0 : Nat) (l1 : Int32) (l2 : Int32) (h : aH), k2 l0 l1 l2 h = some (r, h') → Ev p l e { frames := 1, cells := mc, slots := ms, locals := 24 } s m args below meth c D B0 X ws0 r h' mc ms 4 mc ms 2 [some (.ref l0), some (.int l1), some (.int l2), none] [] h) {l0 : Nat} {l1 : Int32} {l2 : Int32} {s0 : Int32} {s1 : Int32} {s2 : Nat} {h : aH} (hs : s_X10_reachRound_63 k2 l0 l1 l2 s0 s1 s2 h = some (r, h')) : Ev p l e { frames := 1, cells := mc, slots := ms, locals := 24 } s m args below meth c D B0 X ws0 r h' mc ms 4 mc ms 63 [some (.ref l0), some (.int l1), some (.int l2), none] [.int s0, .int s1, .ref s2] h := by
  unfold s_X10_reachRound_63 at hs
  obtain ⟨h63, e63, hs⟩ := aB hs
  refine ev_iast C e63 dX10_reachRound_63 ?_
  refine ev_iinc C (i := 2) (n := 1) (x := l2) (v := l2 + 1) rfl (congrArg (fun z => l2 + z) (show Int32.ofInt 1 = 1 by decide)) (by decide) dX10_reachRound_64 ?_
  refine ev_goto C (tgt := 2) (by decide) dX10_reachRound_67 ?_
  exact (K2 _ _ _ _ hs)
theorem t_X10_reachRound_2_b (C : Cx p l s m args meth c B0 X RX10 "reachRound" cX10_reachRound 4 (some .boolean) [])   {k2 : Nat → Int32 → Int32 → aH → aO} (K2 : ∀ (l0 : Nat) (l1 : Int32) (l2 : Int32) (h : aH), k2 l0 l1 l2 h = some (r, h') → Ev p l e { frames := 1, cells := mc, slots := ms, locals := 24 } s m args below meth c D B0 X ws0 r h' mc ms 4 mc ms 2 [some (.ref l0), some (.int l1), some (.int l2), none] [] h) {l0 : Nat} {l1 : Int32} {l2 : Int32} {h : aH} (hs : s_X10_reachRound_2_b  k2 l0 l1 l2 h = some (r, h')) : Ev p l e { frames := 1, cells := mc, slots := ms, locals := 24 } s m args below meth c D B0 X ws0 r h' mc ms 4 mc ms 2 [some (.ref l0), some (.int l1), some (.int l2), none] [] h := by
  unfold s_X10_reachRound_2_b at hs
  refine ev_iload_n C rfl dX10_reachRound_2 ?_
  refine ev_aload_n C (x := .ref l0) rfl trivial dX10_reachRound_3 ?_
  obtain ⟨x4, e4, hs⟩ := aB hs
  refine ev_get C (ci := 10) (k := 0) rfl wu_10 (by decide) wf_X10_36 (gO_F e4) dX10_reachRound_4 ?_
  obtain ⟨x7, e7, hs⟩ := aB hs
  refine ev_getN C (ci := 2) (k := 12) rfl wu_2 (by decide) wg_X10_50 (gI_F e7) dX10_reachRound_7 ?_
  refine ev_icmp_ge C (tgt := 70) (by decide) dX10_reachRound_10 (fun q10 => ?_) (fun q10 => ?_)
  · replace hs := (if_pos q10).symm.trans hs
    refine ev_iconst C (v := 0) dX10_reachRound_70 (by decide) ?_
    refine ev_istore_n C (by decide) dX10_reachRound_71 ?_
    refine ev_iconst C (v := 0) dX10_reachRound_72 (by decide) ?_
    refine ev_istore_n C (by decide) dX10_reachRound_73 ?_
    exact (t_X10_reachRound_74 C  FU hs)
  · replace hs := (if_neg q10).symm.trans hs
    refine ev_aload_n C (x := .ref l0) rfl trivial dX10_reachRound_13 ?_
    obtain ⟨x14, e14, hs⟩ := aB hs
    refine ev_get C (ci := 10) (k := 8) rfl wu_10 (by decide) wf_X10_24 (gO_F e14) dX10_reachRound_14 ?_
    refine ev_iload_n C rfl dX10_reachRound_17 ?_
    obtain ⟨x18, e18, hs⟩ := aB hs
    refine ev_iald C e18 dX10_reachRound_18 ?_
    refine ev_bipush C (v := (-2)) dX10_reachRound_19 (by decide) ?_
    refine ev_icmp_ne C (tgt := 64) (by decide) dX10_reachRound_21 (fun q21 => ?_) (fun q21 => ?_)
    · replace hs := (if_neg q21).symm.trans hs
      refine ev_iinc C (i := 2) (n := 1) (x := l2) (v := l2 + 1) rfl (congrArg (fun z => l2 + z) (show Int32.ofInt 1 = 1 by decide)) (by decide) dX10_reachRound_64 ?_
      refine ev_goto C (tgt := 2) (by decide) dX10_reachRound_67 ?_
      exact (K2 _ _ _ _ hs)
    · replace hs := (if_pos q21).symm.trans hs
      refine ev_aload_n C (x := .ref l0) rfl trivial dX10_reachRound_24 ?_
      refine ev_iload_n C rfl dX10_reachRound_25 ?_
      obtain ⟨eo26, hs⟩ := kO_at hs
      obtain ⟨x26, h26, e26, hs⟩ := cI_at hs
      refine ev_callV C (T_X10_isGood _ _ _ _ _ e26) (ci := 10) rfl eo26 wc_X10_isGood wm_X10_103 wi_X10_isGood ws_X10_isGood wz_X10 hy_X10_isGood ⟨(Nat.le_of_ble_eq_true rfl), (Nat.le_of_ble_eq_true rfl)⟩ ⟨(Nat.le_refl _), (Nat.le_refl _)⟩ (Nat.le_of_ble_eq_true rfl) rfl dX10_reachRound_26 ?_
      refine ev_if_eq C (tgt := 64) (by decide) dX10_reachRound_29 (fun q29 => ?_) (fun q29 => ?_)
      · replace hs := (if_pos q29).symm.trans hs
        refine ev_iinc C (i := 2) (n := 1) (x := l2) (v := l2 + 1) rfl (congrArg (fun z => l2 + z) (show Int32.ofInt 1 = 1 by decide)) (by decide) dX10_reachRound_64 ?_
        refine ev_goto C (tgt := 2) (by decide) dX10_reachRound_67 ?_
        exact (K2 _ _ _ _ hs)
      · replace hs := (if_neg q29).symm.trans hs
        refine ev_aload_n C (x := .ref l0) rfl trivial dX10_reachRound_32 ?_
        obtain ⟨x33, e33, hs⟩ := aB hs
        refine ev_get C (ci := 10) (k := 9) rfl wu_10 (by decide) wf_X10_27 (gO_F e33) dX10_reachRound_33 ?_
        refine ev_iload_n C rfl dX10_reachRound_36 ?_
        refine ev_aload_n C (x := .ref l0) rfl trivial dX10_reachRound_37 ?_
        refine ev_iload_n C rfl dX10_reachRound_38 ?_
        obtain ⟨eo39, hs⟩ := kO_at hs
        obtain ⟨x39, h39, e39, hs⟩ := cI_at hs
        refine ev_callV C (T_X10_pushIntoDone _ _ _ _ _ e39) (ci := 10) rfl eo39 wc_X10_pushIntoDone wm_X10_113 wi_X10_pushIntoDone ws_X10_pushIntoDone wz_X10 hy_X10_pushIntoDone ⟨(Nat.le_of_ble_eq_true rfl), (Nat.le_of_ble_eq_true rfl)⟩ ⟨(Nat.le_refl _), (Nat.le_refl _)⟩ (Nat.le_of_ble_eq_true rfl) rfl dX10_reachRound_39 ?_
        obtain ⟨h42, e42, hs⟩ := aB hs
        refine ev_iast C e42 dX10_reachRound_42 ?_
        refine ev_aload_n C (x := .ref l0) rfl trivial dX10_reachRound_43 ?_
        obtain ⟨x44, e44, hs⟩ := aB hs
        refine ev_get C (ci := 10) (k := 8) rfl wu_10 (by decide) wf_X10_24 (gO_F e44) dX10_reachRound_44 ?_
        refine ev_iload_n C rfl dX10_reachRound_47 ?_
        refine ev_aload_n C (x := .ref l0) rfl trivial dX10_reachRound_48 ?_
        obtain ⟨x49, e49, hs⟩ := aB hs
        refine ev_get C (ci := 10) (k := 9) rfl wu_10 (by decide) wf_X10_27 (gO_F e49) dX10_reachRound_49 ?_
        refine ev_iload_n C rfl dX10_reachRound_52 ?_
        obtain ⟨x53, e53, hs⟩ := aB hs
        refine ev_iald C e53 dX10_reachRound_53 ?_
        refine ev_if_ge C (tgt := 62) (by decide) dX10_reachRound_54 (fun q54 => ?_) (fun q54 => ?_)
        · replace hs := (if_pos q54).symm.trans hs
          refine ev_iload_n C rfl dX10_reachRound_62 ?_
          exact (t_X10_reachRound_63 C K2 hs)
        · replace hs := (if_neg q54).symm.trans hs
          refine ev_bipush C (v := (-2)) dX10_reachRound_57 (by decide) ?_
          refine ev_goto C (tgt := 63) (by decide) dX10_reachRound_59 ?_
          exact (t_X10_reachRound_63 C K2 hs)
theorem t_X10_reachRound_2 (C : Cx p l s m args meth c B0 X RX10 "reachRound" cX10_reachRound 4 (some .boolean) [])   : ∀ (n : Nat) {l0 : Nat} {l1 : Int32} {l2 : Int32} {h : aH} (hs : s_X10_reachRound_2  n l0 l1 l2 h = some (r, h')), Ev p l e { frames := 1, cells := mc, slots := ms, locals := 24 } s m args below meth c D B0 X ws0 r h' mc ms 4 mc ms 2 [some (.ref l0), some (.int l1), some (.int l2), none] [] h
  | 0, _, _, _, _, hs => nomatch hs
  | n + 1, _, _, _, _, hs => t_X10_reachRound_2_b C  (k2 := s_X10_reachRound_2  n) (fun _ _ _ _ hs => t_X10_reachRound_2 C  n hs) hs
theorem hy_X10_reachRound : yX10_reachRound.cls ≠ "java/lang/invoke/MethodHandle" ∧ yX10_reachRound.cls ≠ "java/lang/invoke/VarHandle" ∧ (parseMethodDescriptor yX10_reachRound.desc).map (fun d => d.parameters.length) = some 1 := by decide +kernel
theorem T_X10_reachRound (o : Nat) (a1 : Int32) (h : aH) (r : aR) (h' : aH) (hs : s_X10_reachRound o a1 h = some (r, h')) : Mt yX10_reachRound (Cond.code yX10_reachRound cX10_reachRound 4 (some .boolean) :: aTB) 1 24 0 0 [.ref o, .int a1] h r h' := by
  unfold s_X10_reachRound at hs
  refine Mt_of (k := 2) (by decide) rfl (fun p l e s m args below meth c D B0 X ws0 C => ?_)
  show Ev p l e { frames := 1, cells := 0, slots := 0, locals := 24 } s m args below meth c D B0 X ws0 r h' 0 0 4 0 0 0 [some (.ref o), some (.int a1), none, none] [] h
  refine ev_iconst C (v := 0) dX10_reachRound_0 (by decide) ?_
  refine ev_istore_n C (by decide) dX10_reachRound_1 ?_
  exact (t_X10_reachRound_2 C  FU hs)
end
-- X10_settleReaches
theorem dX10_settleReaches_0 : decode cX10_settleReaches 0 = .ok (.aload_n 0, 1) := by decide +kernel
theorem dX10_settleReaches_1 : decode cX10_settleReaches 1 = .ok (.getfield 66, 3) := by decide +kernel
theorem dX10_settleReaches_4 : decode cX10_settleReaches 4 = .ok (.ifCond .eq 4, 3) := by decide +kernel
theorem dX10_settleReaches_7 : decode cX10_settleReaches 7 = .ok (.return_, 1) := by decide +kernel
theorem dX10_settleReaches_8 : decode cX10_settleReaches 8 = .ok (.aload_n 0, 1) := by decide +kernel
theorem dX10_settleReaches_9 : decode cX10_settleReaches 9 = .ok (.iconst 1, 1) := by decide +kernel
theorem dX10_settleReaches_10 : decode cX10_settleReaches 10 = .ok (.putfield 66, 3) := by decide +kernel
theorem dX10_settleReaches_13 : decode cX10_settleReaches 13 = .ok (.aload_n 0, 1) := by decide +kernel
theorem dX10_settleReaches_14 : decode cX10_settleReaches 14 = .ok (.aload_n 0, 1) := by decide +kernel
theorem dX10_settleReaches_15 : decode cX10_settleReaches 15 = .ok (.getfield 33, 3) := by decide +kernel
theorem dX10_settleReaches_18 : decode cX10_settleReaches 18 = .ok (.aload_n 0, 1) := by decide +kernel
theorem dX10_settleReaches_19 : decode cX10_settleReaches 19 = .ok (.getfield 36, 3) := by decide +kernel
theorem dX10_settleReaches_22 : decode cX10_settleReaches 22 = .ok (.getfield 50, 3) := by decide +kernel
theorem dX10_settleReaches_25 : decode cX10_settleReaches 25 = .ok (.aload_n 0, 1) := by decide +kernel
theorem dX10_settleReaches_26 : decode cX10_settleReaches 26 = .ok (.getfield 36, 3) := by decide +kernel
theorem dX10_settleReaches_29 : decode cX10_settleReaches 29 = .ok (.getfield 56, 3) := by decide +kernel
theorem dX10_settleReaches_32 : decode cX10_settleReaches 32 = .ok (.imul, 1) := by decide +kernel
theorem dX10_settleReaches_33 : decode cX10_settleReaches 33 = .ok (.invokestatic 59, 3) := by decide +kernel
theorem dX10_settleReaches_36 : decode cX10_settleReaches 36 = .ok (.putfield 33, 3) := by decide +kernel
theorem dX10_settleReaches_39 : decode cX10_settleReaches 39 = .ok (.aload_n 0, 1) := by decide +kernel
theorem dX10_settleReaches_40 : decode cX10_settleReaches 40 = .ok (.getfield 33, 3) := by decide +kernel
theorem dX10_settleReaches_43 : decode cX10_settleReaches 43 = .ok (.iconst 0, 1) := by decide +kernel
theorem dX10_settleReaches_44 : decode cX10_settleReaches 44 = .ok (.invokestatic 44, 3) := by decide +kernel
theorem dX10_settleReaches_47 : decode cX10_settleReaches 47 = .ok (.aload_n 0, 1) := by decide +kernel
theorem dX10_settleReaches_48 : decode cX10_settleReaches 48 = .ok (.getfield 27, 3) := by decide +kernel
theorem dX10_settleReaches_51 : decode cX10_settleReaches 51 = .ok (.bipush (-2), 2) := by decide +kernel
theorem dX10_settleReaches_53 : decode cX10_settleReaches 53 = .ok (.invokestatic 44, 3) := by decide +kernel
theorem dX10_settleReaches_56 : decode cX10_settleReaches 56 = .ok (.iconst 0, 1) := by decide +kernel
theorem dX10_settleReaches_57 : decode cX10_settleReaches 57 = .ok (.istore_n 1, 1) := by decide +kernel
theorem dX10_settleReaches_58 : decode cX10_settleReaches 58 = .ok (.iload_n 1, 1) := by decide +kernel
theorem dX10_settleReaches_59 : decode cX10_settleReaches 59 = .ok (.bipush 13, 2) := by decide +kernel
theorem dX10_settleReaches_61 : decode cX10_settleReaches 61 = .ok (.if_icmp .ge 28, 3) := by decide +kernel
theorem dX10_settleReaches_64 : decode cX10_settleReaches 64 = .ok (.aload_n 0, 1) := by decide +kernel
theorem dX10_settleReaches_65 : decode cX10_settleReaches 65 = .ok (.getfield 30, 3) := by decide +kernel
theorem dX10_settleReaches_68 : decode cX10_settleReaches 68 = .ok (.iload_n 1, 1) := by decide +kernel
theorem dX10_settleReaches_69 : decode cX10_settleReaches 69 = .ok (.aload_n 0, 1) := by decide +kernel
theorem dX10_settleReaches_70 : decode cX10_settleReaches 70 = .ok (.getfield 15, 3) := by decide +kernel
theorem dX10_settleReaches_73 : decode cX10_settleReaches 73 = .ok (.iload_n 1, 1) := by decide +kernel
theorem dX10_settleReaches_74 : decode cX10_settleReaches 74 = .ok (.iaload, 1) := by decide +kernel
theorem dX10_settleReaches_75 : decode cX10_settleReaches 75 = .ok (.aload_n 0, 1) := by decide +kernel
theorem dX10_settleReaches_76 : decode cX10_settleReaches 76 = .ok (.getfield 18, 3) := by decide +kernel
theorem dX10_settleReaches_79 : decode cX10_settleReaches 79 = .ok (.iload_n 1, 1) := by decide +kernel
theorem dX10_settleReaches_80 : decode cX10_settleReaches 80 = .ok (.iaload, 1) := by decide +kernel
theorem dX10_settleReaches_81 : decode cX10_settleReaches 81 = .ok (.iand, 1) := by decide +kernel
theorem dX10_settleReaches_82 : decode cX10_settleReaches 82 = .ok (.iastore, 1) := by decide +kernel
theorem dX10_settleReaches_83 : decode cX10_settleReaches 83 = .ok (.iinc 1 1, 3) := by decide +kernel
theorem dX10_settleReaches_86 : decode cX10_settleReaches 86 = .ok (.goto (-28), 3) := by decide +kernel
theorem dX10_settleReaches_89 : decode cX10_settleReaches 89 = .ok (.iconst 0, 1) := by decide +kernel
theorem dX10_settleReaches_90 : decode cX10_settleReaches 90 = .ok (.istore_n 1, 1) := by decide +kernel
theorem dX10_settleReaches_91 : decode cX10_settleReaches 91 = .ok (.iload_n 1, 1) := by decide +kernel
theorem dX10_settleReaches_92 : decode cX10_settleReaches 92 = .ok (.aload_n 0, 1) := by decide +kernel
theorem dX10_settleReaches_93 : decode cX10_settleReaches 93 = .ok (.getfield 36, 3) := by decide +kernel
theorem dX10_settleReaches_96 : decode cX10_settleReaches 96 = .ok (.getfield 50, 3) := by decide +kernel
theorem dX10_settleReaches_99 : decode cX10_settleReaches 99 = .ok (.if_icmp .ge 37, 3) := by decide +kernel
theorem dX10_settleReaches_102 : decode cX10_settleReaches 102 = .ok (.aload_n 0, 1) := by decide +kernel
theorem dX10_settleReaches_103 : decode cX10_settleReaches 103 = .ok (.getfield 24, 3) := by decide +kernel
theorem dX10_settleReaches_106 : decode cX10_settleReaches 106 = .ok (.iload_n 1, 1) := by decide +kernel
theorem dX10_settleReaches_107 : decode cX10_settleReaches 107 = .ok (.aload_n 0, 1) := by decide +kernel
theorem dX10_settleReaches_108 : decode cX10_settleReaches 108 = .ok (.iload_n 1, 1) := by decide +kernel
theorem dX10_settleReaches_109 : decode cX10_settleReaches 109 = .ok (.invokevirtual 103, 3) := by decide +kernel
theorem dX10_settleReaches_112 : decode cX10_settleReaches 112 = .ok (.ifCond .eq 15, 3) := by decide +kernel
theorem dX10_settleReaches_115 : decode cX10_settleReaches 115 = .ok (.aload_n 0, 1) := by decide +kernel
theorem dX10_settleReaches_116 : decode cX10_settleReaches 116 = .ok (.iload_n 1, 1) := by decide +kernel
theorem dX10_settleReaches_117 : decode cX10_settleReaches 117 = .ok (.invokevirtual 107, 3) := by decide +kernel
theorem dX10_settleReaches_120 : decode cX10_settleReaches 120 = .ok (.ifCond .eq 7, 3) := by decide +kernel
theorem dX10_settleReaches_123 : decode cX10_settleReaches 123 = .ok (.iconst 0, 1) := by decide +kernel
theorem dX10_settleReaches_124 : decode cX10_settleReaches 124 = .ok (.goto 5, 3) := by decide +kernel
theorem dX10_settleReaches_127 : decode cX10_settleReaches 127 = .ok (.bipush (-2), 2) := by decide +kernel
theorem dX10_settleReaches_129 : decode cX10_settleReaches 129 = .ok (.iastore, 1) := by decide +kernel
theorem dX10_settleReaches_130 : decode cX10_settleReaches 130 = .ok (.iinc 1 1, 3) := by decide +kernel
theorem dX10_settleReaches_133 : decode cX10_settleReaches 133 = .ok (.goto (-42), 3) := by decide +kernel
theorem dX10_settleReaches_136 : decode cX10_settleReaches 136 = .ok (.iconst 1, 1) := by decide +kernel
theorem dX10_settleReaches_137 : decode cX10_settleReaches 137 = .ok (.istore_n 1, 1) := by decide +kernel
theorem dX10_settleReaches_138 : decode cX10_settleReaches 138 = .ok (.iconst 1, 1) := by decide +kernel
theorem dX10_settleReaches_139 : decode cX10_settleReaches 139 = .ok (.istore_n 2, 1) := by decide +kernel
theorem dX10_settleReaches_140 : decode cX10_settleReaches 140 = .ok (.iload_n 1, 1) := by decide +kernel
theorem dX10_settleReaches_141 : decode cX10_settleReaches 141 = .ok (.ifCond .eq 26, 3) := by decide +kernel
theorem dX10_settleReaches_144 : decode cX10_settleReaches 144 = .ok (.iload_n 2, 1) := by decide +kernel
theorem dX10_settleReaches_145 : decode cX10_settleReaches 145 = .ok (.aload_n 0, 1) := by decide +kernel
theorem dX10_settleReaches_146 : decode cX10_settleReaches 146 = .ok (.getfield 36, 3) := by decide +kernel
theorem dX10_settleReaches_149 : decode cX10_settleReaches 149 = .ok (.getfield 50, 3) := by decide +kernel
theorem dX10_settleReaches_152 : decode cX10_settleReaches 152 = .ok (.if_icmp .gt 15, 3) := by decide +kernel
theorem dX10_settleReaches_155 : decode cX10_settleReaches 155 = .ok (.aload_n 0, 1) := by decide +kernel
theorem dX10_settleReaches_156 : decode cX10_settleReaches 156 = .ok (.iload_n 2, 1) := by decide +kernel
theorem dX10_settleReaches_157 : decode cX10_settleReaches 157 = .ok (.invokevirtual 110, 3) := by decide +kernel
theorem dX10_settleReaches_160 : decode cX10_settleReaches 160 = .ok (.istore_n 1, 1) := by decide +kernel
theorem dX10_settleReaches_161 : decode cX10_settleReaches 161 = .ok (.iinc 2 1, 3) := by decide +kernel
theorem dX10_settleReaches_164 : decode cX10_settleReaches 164 = .ok (.goto (-24), 3) := by decide +kernel
theorem dX10_settleReaches_167 : decode cX10_settleReaches 167 = .ok (.return_, 1) := by decide +kernel
def s_X10_settleReaches_140_b  (k140 : Nat → Int32 → Int32 → aH → aO) (l0 : Nat) (l1 : Int32) (l2 : Int32) (h : aH) : aO :=
  if l1 = 0 then (some (.inl none, h)) else ((gO h (.ref l0) 10 0).bind fun x146 => (gI h (.ref x146) 2 12).bind fun x149 => if x149 < l2 then (some (.inl none, h)) else (kO h l0 10 (cI (s_X10_reachRound l0 l2 h) fun x157 h157 => k140 l0 x157 (l2 + 1) h157)))
def s_X10_settleReaches_140  (n : Nat) : Nat → Int32 → Int32 → aH → aO := lpF (fun _ _ _ _ => none) (s_X10_settleReaches_140_b ) n
def s_X10_settleReaches_129 (k91 : Nat → Int32 → aH → aO) (l0 : Nat) (l1 : Int32) (s0 : Int32) (s1 : Int32) (s2 : Nat) (h : aH) : aO :=
  (stI h (.ref s2) s1 s0).bind fun h129 => k91 l0 (l1 + 1) h129
def s_X10_settleReaches_127 (k91 : Nat → Int32 → aH → aO) (l0 : Nat) (l1 : Int32) (s0 : Int32) (s1 : Nat) (h : aH) : aO :=
  s_X10_settleReaches_129 k91 l0 l1 (-2) s0 s1 h
def s_X10_settleReaches_91_b  (k91 : Nat → Int32 → aH → aO) (l0 : Nat) (l1 : Int32) (h : aH) : aO :=
  (gO h (.ref l0) 10 0).bind fun x93 => (gI h (.ref x93) 2 12).bind fun x96 => if x96 ≤ l1 then (s_X10_settleReaches_140 FU l0 1 1 h) else ((gO h (.ref l0) 10 8).bind fun x103 => kO h l0 10 (cI (s_X10_isGood l0 l1 h) fun x109 h109 => if x109 = 0 then (s_X10_settleReaches_127 k91 l0 l1 l1 x103 h109) else (kO h109 l0 10 (cI (s_X10_isGoal l0 l1 h109) fun x117 h117 => if x117 = 0 then (s_X10_settleReaches_127 k91 l0 l1 l1 x103 h117) else (s_X10_settleReaches_129 k91 l0 l1 0 l1 x103 h117)))))
def s_X10_settleReaches_91  (n : Nat) : Nat → Int32 → aH → aO := lpF (fun _ _ _ => none) (s_X10_settleReaches_91_b ) n
def s_X10_settleReaches_58_b  (k58 : Nat → Int32 → aH → aO) (l0 : Nat) (l1 : Int32) (h : aH) : aO :=
  if 13 ≤ l1 then (s_X10_settleReaches_91 FU l0 0 h) else ((gO h (.ref l0) 10 10).bind fun x65 => (gO h (.ref l0) 10 4).bind fun x70 => (ldI .int h (.ref x70) l1).bind fun x74 => (gO h (.ref l0) 10 5).bind fun x76 => (ldI .int h (.ref x76) l1).bind fun x80 => (stI h (.ref x65) l1 (x74 &&& x80)).bind fun h82 => k58 l0 (l1 + 1) h82)
def s_X10_settleReaches_58  (n : Nat) : Nat → Int32 → aH → aO := lpF (fun _ _ _ => none) (s_X10_settleReaches_58_b ) n
def s_X10_settleReaches (o : Nat) (h : aH) : aP :=
  (gI h (.ref o) 10 7).bind fun x1 => if x1 = 0 then ((pZ h (.ref o) 10 7 1).bind fun h10 => (gO h10 (.ref o) 10 11).bind fun x15 => (gO h10 (.ref o) 10 0).bind fun x19 => (gI h10 (.ref x19) 2 12).bind fun x22 => (gO h10 (.ref o) 10 0).bind fun x26 => (gI h10 (.ref x26) 2 13).bind fun x29 => dR (s_X11_longEnough x15 (x22 * x29) h10) fun x33 h33 n33 y33 => ck (0 + n33) (0 + y33) (wC (0 + n33) (0 + y33) ((pF h33 (.ref o) 10 11 (.ref x33)).bind fun h36 => (gO h36 (.ref o) 10 11).bind fun x40 => cN (s_J7_fill_53178 x40 0 h36) fun h44 => (gO h44 (.ref o) 10 9).bind fun x48 => cN (s_J7_fill_53178 x48 (-2) h44) fun h53 => s_X10_settleReaches_58 FU o 0 h53))) else (wC 0 0 (some (.inl none, h)))
section
variable {p : Program} {l : Launch} {e : Env} {s : State} {m : MethodId} {args : Array Value} {below : List Frame} {meth : Method} {c : Code} {D : va_G} {B0 : Nat} {X : Nat → Nat} {ws0 : va_W} {r : aR} {h' : aH} {mc ms : Nat}
theorem t_X10_settleReaches_140_b (C : Cx p l s m args meth c B0 X RX10 "settleReaches" cX10_settleReaches 3 none [])   {k140 : Nat → Int32 → Int32 → aH → aO} (K140 : ∀ (l0 : Nat) (l1 : Int32) (l2 : Int32) (h : aH), k140 l0 l1 l2 h = some (r, h') → Ev p l e { frames := 2, cells := mc, slots := ms, locals := 47 } s m args below meth c D B0 X ws0 r h' mc ms 3 mc ms 140 [some (.ref l0), some (.int l1), some (.int l2)] [] h) {l0 : Nat} {l1 : Int32} {l2 : Int32} {h : aH} (hs : s_X10_settleReaches_140_b  k140 l0 l1 l2 h = some (r, h')) : Ev p l e { frames := 2, cells := mc, slots := ms, locals := 47 } s m args below meth c D B0 X ws0 r h' mc ms 3 mc ms 140 [some (.ref l0), some (.int l1), some (.int l2)] [] h := by
  unfold s_X10_settleReaches_140_b at hs
  refine ev_iload_n C rfl dX10_settleReaches_140 ?_
  refine ev_if_eq C (tgt := 167) (by decide) dX10_settleReaches_141 (fun q141 => ?_) (fun q141 => ?_)
  · replace hs := (if_pos q141).symm.trans hs
    cases hs
    exact ev_vret C rfl rfl (Nat.le_refl _) (Nat.le_refl _) rfl dX10_settleReaches_167
  · replace hs := (if_neg q141).symm.trans hs
    refine ev_iload_n C rfl dX10_settleReaches_144 ?_
    refine ev_aload_n C (x := .ref l0) rfl trivial dX10_settleReaches_145 ?_
    obtain ⟨x146, e146, hs⟩ := aB hs
    refine ev_get C (ci := 10) (k := 0) rfl wu_10 (by decide) wf_X10_36 (gO_F e146) dX10_settleReaches_146 ?_
    obtain ⟨x149, e149, hs⟩ := aB hs
    refine ev_getN C (ci := 2) (k := 12) rfl wu_2 (by decide) wg_X10_50 (gI_F e149) dX10_settleReaches_149 ?_
    refine ev_icmp_gt C (tgt := 167) (by decide) dX10_settleReaches_152 (fun q152 => ?_) (fun q152 => ?_)
    · replace hs := (if_pos q152).symm.trans hs
      cases hs
      exact ev_vret C rfl rfl (Nat.le_refl _) (Nat.le_refl _) rfl dX10_settleReaches_167
    · replace hs := (if_neg q152).symm.trans hs
      refine ev_aload_n C (x := .ref l0) rfl trivial dX10_settleReaches_155 ?_
      refine ev_iload_n C rfl dX10_settleReaches_156 ?_
      obtain ⟨eo157, hs⟩ := kO_at hs
      obtain ⟨x157, h157, e157, hs⟩ := cI_at hs
      refine ev_callV C (T_X10_reachRound _ _ _ _ _ e157) (ci := 10) rfl eo157 wc_X10_reachRound wm_X10_110 wi_X10_reachRound ws_X10_reachRound wz_X10 hy_X10_reachRound ⟨(Nat.le_of_ble_eq_true rfl), (Nat.le_of_ble_eq_true rfl)⟩ ⟨(Nat.le_refl _), (Nat.le_refl _)⟩ (Nat.le_of_ble_eq_true rfl) rfl dX10_settleReaches_157 ?_
      refine ev_istore_n C (by decide) dX10_settleReaches_160 ?_
      refine ev_iinc C (i := 2) (n := 1) (x := l2) (v := l2 + 1) rfl (congrArg (fun z => l2 + z) (show Int32.ofInt 1 = 1 by decide)) (by decide) dX10_settleReaches_161 ?_
      refine ev_goto C (tgt := 140) (by decide) dX10_settleReaches_164 ?_
      exact (K140 _ _ _ _ hs)
theorem t_X10_settleReaches_140 (C : Cx p l s m args meth c B0 X RX10 "settleReaches" cX10_settleReaches 3 none [])   : ∀ (n : Nat) {l0 : Nat} {l1 : Int32} {l2 : Int32} {h : aH} (hs : s_X10_settleReaches_140  n l0 l1 l2 h = some (r, h')), Ev p l e { frames := 2, cells := mc, slots := ms, locals := 47 } s m args below meth c D B0 X ws0 r h' mc ms 3 mc ms 140 [some (.ref l0), some (.int l1), some (.int l2)] [] h
  | 0, _, _, _, _, hs => nomatch hs
  | n + 1, _, _, _, _, hs => t_X10_settleReaches_140_b C  (k140 := s_X10_settleReaches_140  n) (fun _ _ _ _ hs => t_X10_settleReaches_140 C  n hs) hs
theorem t_X10_settleReaches_129 (C : Cx p l s m args meth c B0 X RX10 "settleReaches" cX10_settleReaches 3 none []) {k91 : Nat → Int32 → aH → aO} (K91 : ∀ (l0 : Nat) (l1 : Int32) (h : aH), k91 l0 l1 h = some (r, h') → Ev p l e { frames := 2, cells := mc, slots := ms, locals := 47 } s m args below meth c D B0 X ws0 r h' mc ms 3 mc ms 91 [some (.ref l0), some (.int l1), none] [] h) {l0 : Nat} {l1 : Int32} {s0 : Int32} {s1 : Int32} {s2 : Nat} {h : aH} (hs : s_X10_settleReaches_129 k91 l0 l1 s0 s1 s2 h = some (r, h')) : Ev p l e { frames := 2, cells := mc, slots := ms, locals := 47 } s m args below meth c D B0 X ws0 r h' mc ms 3 mc ms 129 [some (.ref l0), some (.int l1), none] [.int s0, .int s1, .ref s2] h := by
  unfold s_X10_settleReaches_129 at hs
  obtain ⟨h129, e129, hs⟩ := aB hs
  refine ev_iast C e129 dX10_settleReaches_129 ?_
  refine ev_iinc C (i := 1) (n := 1) (x := l1) (v := l1 + 1) rfl (congrArg (fun z => l1 + z) (show Int32.ofInt 1 = 1 by decide)) (by decide) dX10_settleReaches_130 ?_
  refine ev_goto C (tgt := 91) (by decide) dX10_settleReaches_133 ?_
  exact (K91 _ _ _ hs)
theorem t_X10_settleReaches_127 (C : Cx p l s m args meth c B0 X RX10 "settleReaches" cX10_settleReaches 3 none []) {k91 : Nat → Int32 → aH → aO} (K91 : ∀ (l0 : Nat) (l1 : Int32) (h : aH), k91 l0 l1 h = some (r, h') → Ev p l e { frames := 2, cells := mc, slots := ms, locals := 47 } s m args below meth c D B0 X ws0 r h' mc ms 3 mc ms 91 [some (.ref l0), some (.int l1), none] [] h) {l0 : Nat} {l1 : Int32} {s0 : Int32} {s1 : Nat} {h : aH} (hs : s_X10_settleReaches_127 k91 l0 l1 s0 s1 h = some (r, h')) : Ev p l e { frames := 2, cells := mc, slots := ms, locals := 47 } s m args below meth c D B0 X ws0 r h' mc ms 3 mc ms 127 [some (.ref l0), some (.int l1), none] [.int s0, .ref s1] h := by
  unfold s_X10_settleReaches_127 at hs
  refine ev_bipush C (v := (-2)) dX10_settleReaches_127 (by decide) ?_
  exact (t_X10_settleReaches_129 C K91 hs)
theorem t_X10_settleReaches_91_b (C : Cx p l s m args meth c B0 X RX10 "settleReaches" cX10_settleReaches 3 none [])   {k91 : Nat → Int32 → aH → aO} (K91 : ∀ (l0 : Nat) (l1 : Int32) (h : aH), k91 l0 l1 h = some (r, h') → Ev p l e { frames := 2, cells := mc, slots := ms, locals := 47 } s m args below meth c D B0 X ws0 r h' mc ms 3 mc ms 91 [some (.ref l0), some (.int l1), none] [] h) {l0 : Nat} {l1 : Int32} {h : aH} (hs : s_X10_settleReaches_91_b  k91 l0 l1 h = some (r, h')) : Ev p l e { frames := 2, cells := mc, slots := ms, locals := 47 } s m args below meth c D B0 X ws0 r h' mc ms 3 mc ms 91 [some (.ref l0), some (.int l1), none] [] h := by
  unfold s_X10_settleReaches_91_b at hs
  refine ev_iload_n C rfl dX10_settleReaches_91 ?_
  refine ev_aload_n C (x := .ref l0) rfl trivial dX10_settleReaches_92 ?_
  obtain ⟨x93, e93, hs⟩ := aB hs
  refine ev_get C (ci := 10) (k := 0) rfl wu_10 (by decide) wf_X10_36 (gO_F e93) dX10_settleReaches_93 ?_
  obtain ⟨x96, e96, hs⟩ := aB hs
  refine ev_getN C (ci := 2) (k := 12) rfl wu_2 (by decide) wg_X10_50 (gI_F e96) dX10_settleReaches_96 ?_
  refine ev_icmp_ge C (tgt := 136) (by decide) dX10_settleReaches_99 (fun q99 => ?_) (fun q99 => ?_)
  · replace hs := (if_pos q99).symm.trans hs
    refine ev_iconst C (v := 1) dX10_settleReaches_136 (by decide) ?_
    refine ev_istore_n C (by decide) dX10_settleReaches_137 ?_
    refine ev_iconst C (v := 1) dX10_settleReaches_138 (by decide) ?_
    refine ev_istore_n C (by decide) dX10_settleReaches_139 ?_
    exact (t_X10_settleReaches_140 C  FU hs)
  · replace hs := (if_neg q99).symm.trans hs
    refine ev_aload_n C (x := .ref l0) rfl trivial dX10_settleReaches_102 ?_
    obtain ⟨x103, e103, hs⟩ := aB hs
    refine ev_get C (ci := 10) (k := 8) rfl wu_10 (by decide) wf_X10_24 (gO_F e103) dX10_settleReaches_103 ?_
    refine ev_iload_n C rfl dX10_settleReaches_106 ?_
    refine ev_aload_n C (x := .ref l0) rfl trivial dX10_settleReaches_107 ?_
    refine ev_iload_n C rfl dX10_settleReaches_108 ?_
    obtain ⟨eo109, hs⟩ := kO_at hs
    obtain ⟨x109, h109, e109, hs⟩ := cI_at hs
    refine ev_callV C (T_X10_isGood _ _ _ _ _ e109) (ci := 10) rfl eo109 wc_X10_isGood wm_X10_103 wi_X10_isGood ws_X10_isGood wz_X10 hy_X10_isGood ⟨(Nat.le_of_ble_eq_true rfl), (Nat.le_of_ble_eq_true rfl)⟩ ⟨(Nat.le_refl _), (Nat.le_refl _)⟩ (Nat.le_of_ble_eq_true rfl) rfl dX10_settleReaches_109 ?_
    refine ev_if_eq C (tgt := 127) (by decide) dX10_settleReaches_112 (fun q112 => ?_) (fun q112 => ?_)
    · replace hs := (if_pos q112).symm.trans hs
      exact (t_X10_settleReaches_127 C K91 hs)
    · replace hs := (if_neg q112).symm.trans hs
      refine ev_aload_n C (x := .ref l0) rfl trivial dX10_settleReaches_115 ?_
      refine ev_iload_n C rfl dX10_settleReaches_116 ?_
      obtain ⟨eo117, hs⟩ := kO_at hs
      obtain ⟨x117, h117, e117, hs⟩ := cI_at hs
      refine ev_callV C (T_X10_isGoal _ _ _ _ _ e117) (ci := 10) rfl eo117 wc_X10_isGoal wm_X10_107 wi_X10_isGoal ws_X10_isGoal wz_X10 hy_X10_isGoal ⟨(Nat.le_of_ble_eq_true rfl), (Nat.le_of_ble_eq_true rfl)⟩ ⟨(Nat.le_refl _), (Nat.le_refl _)⟩ (Nat.le_of_ble_eq_true rfl) rfl dX10_settleReaches_117 ?_
      refine ev_if_eq C (tgt := 127) (by decide) dX10_settleReaches_120 (fun q120 => ?_) (fun q120 => ?_)
      · replace hs := (if_pos q120).symm.trans hs
        exact (t_X10_settleReaches_127 C K91 hs)
      · replace hs := (if_neg q120).symm.trans hs
        refine ev_iconst C (v := 0) dX10_settleReaches_123 (by decide) ?_
        refine ev_goto C (tgt := 129) (by decide) dX10_settleReaches_124 ?_
        exact (t_X10_settleReaches_129 C K91 hs)
theorem t_X10_settleReaches_91 (C : Cx p l s m args meth c B0 X RX10 "settleReaches" cX10_settleReaches 3 none [])   : ∀ (n : Nat) {l0 : Nat} {l1 : Int32} {h : aH} (hs : s_X10_settleReaches_91  n l0 l1 h = some (r, h')), Ev p l e { frames := 2, cells := mc, slots := ms, locals := 47 } s m args below meth c D B0 X ws0 r h' mc ms 3 mc ms 91 [some (.ref l0), some (.int l1), none] [] h
  | 0, _, _, _, hs => nomatch hs
  | n + 1, _, _, _, hs => t_X10_settleReaches_91_b C  (k91 := s_X10_settleReaches_91  n) (fun _ _ _ hs => t_X10_settleReaches_91 C  n hs) hs
theorem t_X10_settleReaches_58_b (C : Cx p l s m args meth c B0 X RX10 "settleReaches" cX10_settleReaches 3 none [])   {k58 : Nat → Int32 → aH → aO} (K58 : ∀ (l0 : Nat) (l1 : Int32) (h : aH), k58 l0 l1 h = some (r, h') → Ev p l e { frames := 2, cells := mc, slots := ms, locals := 47 } s m args below meth c D B0 X ws0 r h' mc ms 3 mc ms 58 [some (.ref l0), some (.int l1), none] [] h) {l0 : Nat} {l1 : Int32} {h : aH} (hs : s_X10_settleReaches_58_b  k58 l0 l1 h = some (r, h')) : Ev p l e { frames := 2, cells := mc, slots := ms, locals := 47 } s m args below meth c D B0 X ws0 r h' mc ms 3 mc ms 58 [some (.ref l0), some (.int l1), none] [] h := by
  unfold s_X10_settleReaches_58_b at hs
  refine ev_iload_n C rfl dX10_settleReaches_58 ?_
  refine ev_bipush C (v := 13) dX10_settleReaches_59 (by decide) ?_
  refine ev_icmp_ge C (tgt := 89) (by decide) dX10_settleReaches_61 (fun q61 => ?_) (fun q61 => ?_)
  · replace hs := (if_pos q61).symm.trans hs
    refine ev_iconst C (v := 0) dX10_settleReaches_89 (by decide) ?_
    refine ev_istore_n C (by decide) dX10_settleReaches_90 ?_
    exact (t_X10_settleReaches_91 C  FU hs)
  · replace hs := (if_neg q61).symm.trans hs
    refine ev_aload_n C (x := .ref l0) rfl trivial dX10_settleReaches_64 ?_
    obtain ⟨x65, e65, hs⟩ := aB hs
    refine ev_get C (ci := 10) (k := 10) rfl wu_10 (by decide) wf_X10_30 (gO_F e65) dX10_settleReaches_65 ?_
    refine ev_iload_n C rfl dX10_settleReaches_68 ?_
    refine ev_aload_n C (x := .ref l0) rfl trivial dX10_settleReaches_69 ?_
    obtain ⟨x70, e70, hs⟩ := aB hs
    refine ev_get C (ci := 10) (k := 4) rfl wu_10 (by decide) wf_X10_15 (gO_F e70) dX10_settleReaches_70 ?_
    refine ev_iload_n C rfl dX10_settleReaches_73 ?_
    obtain ⟨x74, e74, hs⟩ := aB hs
    refine ev_iald C e74 dX10_settleReaches_74 ?_
    refine ev_aload_n C (x := .ref l0) rfl trivial dX10_settleReaches_75 ?_
    obtain ⟨x76, e76, hs⟩ := aB hs
    refine ev_get C (ci := 10) (k := 5) rfl wu_10 (by decide) wf_X10_18 (gO_F e76) dX10_settleReaches_76 ?_
    refine ev_iload_n C rfl dX10_settleReaches_79 ?_
    obtain ⟨x80, e80, hs⟩ := aB hs
    refine ev_iald C e80 dX10_settleReaches_80 ?_
    refine ev_iand C dX10_settleReaches_81 ?_
    obtain ⟨h82, e82, hs⟩ := aB hs
    refine ev_iast C e82 dX10_settleReaches_82 ?_
    refine ev_iinc C (i := 1) (n := 1) (x := l1) (v := l1 + 1) rfl (congrArg (fun z => l1 + z) (show Int32.ofInt 1 = 1 by decide)) (by decide) dX10_settleReaches_83 ?_
    refine ev_goto C (tgt := 58) (by decide) dX10_settleReaches_86 ?_
    exact (K58 _ _ _ hs)
theorem t_X10_settleReaches_58 (C : Cx p l s m args meth c B0 X RX10 "settleReaches" cX10_settleReaches 3 none [])   : ∀ (n : Nat) {l0 : Nat} {l1 : Int32} {h : aH} (hs : s_X10_settleReaches_58  n l0 l1 h = some (r, h')), Ev p l e { frames := 2, cells := mc, slots := ms, locals := 47 } s m args below meth c D B0 X ws0 r h' mc ms 3 mc ms 58 [some (.ref l0), some (.int l1), none] [] h
  | 0, _, _, _, hs => nomatch hs
  | n + 1, _, _, _, hs => t_X10_settleReaches_58_b C  (k58 := s_X10_settleReaches_58  n) (fun _ _ _ hs => t_X10_settleReaches_58 C  n hs) hs
theorem hy_X10_settleReaches : yX10_settleReaches.cls ≠ "java/lang/invoke/MethodHandle" ∧ yX10_settleReaches.cls ≠ "java/lang/invoke/VarHandle" ∧ (parseMethodDescriptor yX10_settleReaches.desc).map (fun d => d.parameters.length) = some 0 := by decide +kernel
theorem T_X10_settleReaches (o : Nat) (h : aH) (r : aR) (h' : aH) (mc ms : Nat) (hs : s_X10_settleReaches o h = some (r, h', mc, ms)) : Mt yX10_settleReaches (Cond.code yX10_settleReaches cX10_settleReaches 3 none :: aTB) 2 47 mc ms [.ref o] h r h' := by
  unfold s_X10_settleReaches at hs
  refine Mt_of (k := 2) (by decide) rfl (fun p l e s m args below meth c D B0 X ws0 C => ?_)
  show Ev p l e { frames := 2, cells := mc, slots := ms, locals := 47 } s m args below meth c D B0 X ws0 r h' mc ms 3 0 0 0 [some (.ref o), none, none] [] h
  refine ev_aload_n C (x := .ref o) rfl trivial dX10_settleReaches_0 ?_
  obtain ⟨x1, e1, hs⟩ := aB hs
  refine ev_get C (ci := 10) (k := 7) rfl wu_10 (by decide) wf_X10_66 (gI_F e1) dX10_settleReaches_1 ?_
  refine ev_if_eq C (tgt := 8) (by decide) dX10_settleReaches_4 (fun q4 => ?_) (fun q4 => ?_)
  · replace hs := (if_pos q4).symm.trans hs
    refine ev_aload_n C (x := .ref o) rfl trivial dX10_settleReaches_8 ?_
    refine ev_iconst C (v := 1) dX10_settleReaches_9 (by decide) ?_
    obtain ⟨h10, e10, hs⟩ := aB hs
    refine ev_put C (ci := 10) (k := 7) rfl wu_10 (by decide) tyX10 tyX10_ok nmX10 wf_X10_66 rfl (pZ_F e10).2 (pZ_F e10).1 dX10_settleReaches_10 ?_
    refine ev_aload_n C (x := .ref o) rfl trivial dX10_settleReaches_13 ?_
    refine ev_aload_n C (x := .ref o) rfl trivial dX10_settleReaches_14 ?_
    obtain ⟨x15, e15, hs⟩ := aB hs
    refine ev_get C (ci := 10) (k := 11) rfl wu_10 (by decide) wf_X10_33 (gO_F e15) dX10_settleReaches_15 ?_
    refine ev_aload_n C (x := .ref o) rfl trivial dX10_settleReaches_18 ?_
    obtain ⟨x19, e19, hs⟩ := aB hs
    refine ev_get C (ci := 10) (k := 0) rfl wu_10 (by decide) wf_X10_36 (gO_F e19) dX10_settleReaches_19 ?_
    obtain ⟨x22, e22, hs⟩ := aB hs
    refine ev_getN C (ci := 2) (k := 12) rfl wu_2 (by decide) wg_X10_50 (gI_F e22) dX10_settleReaches_22 ?_
    refine ev_aload_n C (x := .ref o) rfl trivial dX10_settleReaches_25 ?_
    obtain ⟨x26, e26, hs⟩ := aB hs
    refine ev_get C (ci := 10) (k := 0) rfl wu_10 (by decide) wf_X10_36 (gO_F e26) dX10_settleReaches_26 ?_
    obtain ⟨x29, e29, hs⟩ := aB hs
    refine ev_getN C (ci := 2) (k := 13) rfl wu_2 (by decide) wg_X10_56 (gI_F e29) dX10_settleReaches_29 ?_
    refine ev_imul C dX10_settleReaches_32 ?_
    obtain ⟨x33, h33, n33, y33, e33, hs⟩ := dR_at hs
    obtain ⟨c33, z33, hs⟩ := ck_at hs
    refine ev_callSN C (T_X11_longEnough _ _ _ _ _ _ _ e33) wc_X11_longEnough wn_X10_59 wt_X11_longEnough wz_X11 hy_X11_longEnough ⟨(Nat.le_of_ble_eq_true rfl), (Nat.le_of_ble_eq_true rfl)⟩ ⟨c33, z33⟩ (Nat.le_of_ble_eq_true rfl) rfl dX10_settleReaches_33 ?_
    obtain ⟨hw9, rfl, rfl⟩ := wC_at hs
    have hs := hw9
    obtain ⟨h36, e36, hs⟩ := aB hs
    refine ev_put C (ci := 10) (k := 11) rfl wu_10 (by decide) tyX10 tyX10_ok nmX10 wf_X10_33 rfl trivial e36 dX10_settleReaches_36 ?_
    refine ev_aload_n C (x := .ref o) rfl trivial dX10_settleReaches_39 ?_
    obtain ⟨x40, e40, hs⟩ := aB hs
    refine ev_get C (ci := 10) (k := 11) rfl wu_10 (by decide) wf_X10_33 (gO_F e40) dX10_settleReaches_40 ?_
    refine ev_iconst C (v := 0) dX10_settleReaches_43 (by decide) ?_
    obtain ⟨h44, e44, hs⟩ := cN_at hs
    refine ev_callS C (T_J7_fill_53178 _ _ _ _ _ e44) wc_J7_fill_53178 wm_X10_44 wt_J7_fill_53178 wz_J7 hy_J7_fill_53178 ⟨(Nat.le_of_ble_eq_true rfl), (Nat.le_of_ble_eq_true rfl)⟩ ⟨(Nat.le_refl _), (Nat.le_refl _)⟩ (Nat.le_of_ble_eq_true rfl) rfl dX10_settleReaches_44 ?_
    refine ev_aload_n C (x := .ref o) rfl trivial dX10_settleReaches_47 ?_
    obtain ⟨x48, e48, hs⟩ := aB hs
    refine ev_get C (ci := 10) (k := 9) rfl wu_10 (by decide) wf_X10_27 (gO_F e48) dX10_settleReaches_48 ?_
    refine ev_bipush C (v := (-2)) dX10_settleReaches_51 (by decide) ?_
    obtain ⟨h53, e53, hs⟩ := cN_at hs
    refine ev_callS C (T_J7_fill_53178 _ _ _ _ _ e53) wc_J7_fill_53178 wm_X10_44 wt_J7_fill_53178 wz_J7 hy_J7_fill_53178 ⟨(Nat.le_of_ble_eq_true rfl), (Nat.le_of_ble_eq_true rfl)⟩ ⟨(Nat.le_refl _), (Nat.le_refl _)⟩ (Nat.le_of_ble_eq_true rfl) rfl dX10_settleReaches_53 ?_
    refine ev_iconst C (v := 0) dX10_settleReaches_56 (by decide) ?_
    refine ev_istore_n C (by decide) dX10_settleReaches_57 ?_
    exact (t_X10_settleReaches_58 C  FU hs)
  · replace hs := (if_neg q4).symm.trans hs
    obtain ⟨hw9, rfl, rfl⟩ := wC_at hs
    have hs := hw9
    cases hs
    exact ev_vret C rfl rfl (Nat.le_refl _) (Nat.le_refl _) rfl dX10_settleReaches_7
end
-- X11_init
theorem dX11_init_0 : decode cX11_init 0 = .ok (.aload_n 0, 1) := by decide +kernel
theorem dX11_init_1 : decode cX11_init 1 = .ok (.invokespecial 3, 3) := by decide +kernel
theorem dX11_init_4 : decode cX11_init 4 = .ok (.aload_n 0, 1) := by decide +kernel
theorem dX11_init_5 : decode cX11_init 5 = .ok (.sipush 400, 3) := by decide +kernel
theorem dX11_init_8 : decode cX11_init 8 = .ok (.newarray .int, 2) := by decide +kernel
theorem dX11_init_10 : decode cX11_init 10 = .ok (.putfield 9, 3) := by decide +kernel
theorem dX11_init_13 : decode cX11_init 13 = .ok (.aload_n 0, 1) := by decide +kernel
theorem dX11_init_14 : decode cX11_init 14 = .ok (.bipush 9, 2) := by decide +kernel
theorem dX11_init_16 : decode cX11_init 16 = .ok (.newarray .int, 2) := by decide +kernel
theorem dX11_init_18 : decode cX11_init 18 = .ok (.putfield 13, 3) := by decide +kernel
theorem dX11_init_21 : decode cX11_init 21 = .ok (.aload_n 0, 1) := by decide +kernel
theorem dX11_init_22 : decode cX11_init 22 = .ok (.new 16, 3) := by decide +kernel
theorem dX11_init_25 : decode cX11_init 25 = .ok (.dup, 1) := by decide +kernel
theorem dX11_init_26 : decode cX11_init 26 = .ok (.invokespecial 18, 3) := by decide +kernel
theorem dX11_init_29 : decode cX11_init 29 = .ok (.putfield 19, 3) := by decide +kernel
theorem dX11_init_32 : decode cX11_init 32 = .ok (.aload_n 0, 1) := by decide +kernel
theorem dX11_init_33 : decode cX11_init 33 = .ok (.new 16, 3) := by decide +kernel
theorem dX11_init_36 : decode cX11_init 36 = .ok (.dup, 1) := by decide +kernel
theorem dX11_init_37 : decode cX11_init 37 = .ok (.invokespecial 18, 3) := by decide +kernel
theorem dX11_init_40 : decode cX11_init 40 = .ok (.putfield 23, 3) := by decide +kernel
theorem dX11_init_43 : decode cX11_init 43 = .ok (.aload_n 0, 1) := by decide +kernel
theorem dX11_init_44 : decode cX11_init 44 = .ok (.new 26, 3) := by decide +kernel
theorem dX11_init_47 : decode cX11_init 47 = .ok (.dup, 1) := by decide +kernel
theorem dX11_init_48 : decode cX11_init 48 = .ok (.invokespecial 28, 3) := by decide +kernel
theorem dX11_init_51 : decode cX11_init 51 = .ok (.putfield 29, 3) := by decide +kernel
theorem dX11_init_54 : decode cX11_init 54 = .ok (.aload_n 0, 1) := by decide +kernel
theorem dX11_init_55 : decode cX11_init 55 = .ok (.new 33, 3) := by decide +kernel
theorem dX11_init_58 : decode cX11_init 58 = .ok (.dup, 1) := by decide +kernel
theorem dX11_init_59 : decode cX11_init 59 = .ok (.aload_n 0, 1) := by decide +kernel
theorem dX11_init_60 : decode cX11_init 60 = .ok (.getfield 23, 3) := by decide +kernel
theorem dX11_init_63 : decode cX11_init 63 = .ok (.invokespecial 35, 3) := by decide +kernel
theorem dX11_init_66 : decode cX11_init 66 = .ok (.putfield 38, 3) := by decide +kernel
theorem dX11_init_69 : decode cX11_init 69 = .ok (.aload_n 0, 1) := by decide +kernel
theorem dX11_init_70 : decode cX11_init 70 = .ok (.new 42, 3) := by decide +kernel
theorem dX11_init_73 : decode cX11_init 73 = .ok (.dup, 1) := by decide +kernel
theorem dX11_init_74 : decode cX11_init 74 = .ok (.aload_n 0, 1) := by decide +kernel
theorem dX11_init_75 : decode cX11_init 75 = .ok (.getfield 19, 3) := by decide +kernel
theorem dX11_init_78 : decode cX11_init 78 = .ok (.invokespecial 44, 3) := by decide +kernel
theorem dX11_init_81 : decode cX11_init 81 = .ok (.putfield 45, 3) := by decide +kernel
theorem dX11_init_84 : decode cX11_init 84 = .ok (.aload_n 0, 1) := by decide +kernel
theorem dX11_init_85 : decode cX11_init 85 = .ok (.new 49, 3) := by decide +kernel
theorem dX11_init_88 : decode cX11_init 88 = .ok (.dup, 1) := by decide +kernel
theorem dX11_init_89 : decode cX11_init 89 = .ok (.aload_n 0, 1) := by decide +kernel
theorem dX11_init_90 : decode cX11_init 90 = .ok (.getfield 19, 3) := by decide +kernel
theorem dX11_init_93 : decode cX11_init 93 = .ok (.aload_n 0, 1) := by decide +kernel
theorem dX11_init_94 : decode cX11_init 94 = .ok (.getfield 45, 3) := by decide +kernel
theorem dX11_init_97 : decode cX11_init 97 = .ok (.invokespecial 51, 3) := by decide +kernel
theorem dX11_init_100 : decode cX11_init 100 = .ok (.putfield 54, 3) := by decide +kernel
theorem dX11_init_103 : decode cX11_init 103 = .ok (.aload_n 0, 1) := by decide +kernel
theorem dX11_init_104 : decode cX11_init 104 = .ok (.new 58, 3) := by decide +kernel
theorem dX11_init_107 : decode cX11_init 107 = .ok (.dup, 1) := by decide +kernel
theorem dX11_init_108 : decode cX11_init 108 = .ok (.aload_n 0, 1) := by decide +kernel
theorem dX11_init_109 : decode cX11_init 109 = .ok (.getfield 19, 3) := by decide +kernel
theorem dX11_init_112 : decode cX11_init 112 = .ok (.aload_n 0, 1) := by decide +kernel
theorem dX11_init_113 : decode cX11_init 113 = .ok (.getfield 45, 3) := by decide +kernel
theorem dX11_init_116 : decode cX11_init 116 = .ok (.aload_n 0, 1) := by decide +kernel
theorem dX11_init_117 : decode cX11_init 117 = .ok (.getfield 54, 3) := by decide +kernel
theorem dX11_init_120 : decode cX11_init 120 = .ok (.invokespecial 60, 3) := by decide +kernel
theorem dX11_init_123 : decode cX11_init 123 = .ok (.putfield 63, 3) := by decide +kernel
theorem dX11_init_126 : decode cX11_init 126 = .ok (.aload_n 0, 1) := by decide +kernel
theorem dX11_init_127 : decode cX11_init 127 = .ok (.new 67, 3) := by decide +kernel
theorem dX11_init_130 : decode cX11_init 130 = .ok (.dup, 1) := by decide +kernel
theorem dX11_init_131 : decode cX11_init 131 = .ok (.aload_n 0, 1) := by decide +kernel
theorem dX11_init_132 : decode cX11_init 132 = .ok (.getfield 19, 3) := by decide +kernel
theorem dX11_init_135 : decode cX11_init 135 = .ok (.aload_n 0, 1) := by decide +kernel
theorem dX11_init_136 : decode cX11_init 136 = .ok (.getfield 45, 3) := by decide +kernel
theorem dX11_init_139 : decode cX11_init 139 = .ok (.aload_n 0, 1) := by decide +kernel
theorem dX11_init_140 : decode cX11_init 140 = .ok (.getfield 54, 3) := by decide +kernel
theorem dX11_init_143 : decode cX11_init 143 = .ok (.invokespecial 69, 3) := by decide +kernel
theorem dX11_init_146 : decode cX11_init 146 = .ok (.putfield 70, 3) := by decide +kernel
theorem dX11_init_149 : decode cX11_init 149 = .ok (.aload_n 0, 1) := by decide +kernel
theorem dX11_init_150 : decode cX11_init 150 = .ok (.new 74, 3) := by decide +kernel
theorem dX11_init_153 : decode cX11_init 153 = .ok (.dup, 1) := by decide +kernel
theorem dX11_init_154 : decode cX11_init 154 = .ok (.aload_n 0, 1) := by decide +kernel
theorem dX11_init_155 : decode cX11_init 155 = .ok (.getfield 19, 3) := by decide +kernel
theorem dX11_init_158 : decode cX11_init 158 = .ok (.invokespecial 76, 3) := by decide +kernel
theorem dX11_init_161 : decode cX11_init 161 = .ok (.putfield 77, 3) := by decide +kernel
theorem dX11_init_164 : decode cX11_init 164 = .ok (.aload_n 0, 1) := by decide +kernel
theorem dX11_init_165 : decode cX11_init 165 = .ok (.new 81, 3) := by decide +kernel
theorem dX11_init_168 : decode cX11_init 168 = .ok (.dup, 1) := by decide +kernel
theorem dX11_init_169 : decode cX11_init 169 = .ok (.aload_n 0, 1) := by decide +kernel
theorem dX11_init_170 : decode cX11_init 170 = .ok (.getfield 19, 3) := by decide +kernel
theorem dX11_init_173 : decode cX11_init 173 = .ok (.aload_n 0, 1) := by decide +kernel
theorem dX11_init_174 : decode cX11_init 174 = .ok (.getfield 45, 3) := by decide +kernel
theorem dX11_init_177 : decode cX11_init 177 = .ok (.aload_n 0, 1) := by decide +kernel
theorem dX11_init_178 : decode cX11_init 178 = .ok (.getfield 54, 3) := by decide +kernel
theorem dX11_init_181 : decode cX11_init 181 = .ok (.invokespecial 83, 3) := by decide +kernel
theorem dX11_init_184 : decode cX11_init 184 = .ok (.putfield 84, 3) := by decide +kernel
theorem dX11_init_187 : decode cX11_init 187 = .ok (.aload_n 0, 1) := by decide +kernel
theorem dX11_init_188 : decode cX11_init 188 = .ok (.new 88, 3) := by decide +kernel
theorem dX11_init_191 : decode cX11_init 191 = .ok (.dup, 1) := by decide +kernel
theorem dX11_init_192 : decode cX11_init 192 = .ok (.aload_n 0, 1) := by decide +kernel
theorem dX11_init_193 : decode cX11_init 193 = .ok (.getfield 19, 3) := by decide +kernel
theorem dX11_init_196 : decode cX11_init 196 = .ok (.aload_n 0, 1) := by decide +kernel
theorem dX11_init_197 : decode cX11_init 197 = .ok (.getfield 45, 3) := by decide +kernel
theorem dX11_init_200 : decode cX11_init 200 = .ok (.aload_n 0, 1) := by decide +kernel
theorem dX11_init_201 : decode cX11_init 201 = .ok (.getfield 54, 3) := by decide +kernel
theorem dX11_init_204 : decode cX11_init 204 = .ok (.aload_n 0, 1) := by decide +kernel
theorem dX11_init_205 : decode cX11_init 205 = .ok (.getfield 63, 3) := by decide +kernel
theorem dX11_init_208 : decode cX11_init 208 = .ok (.invokespecial 90, 3) := by decide +kernel
theorem dX11_init_211 : decode cX11_init 211 = .ok (.putfield 93, 3) := by decide +kernel
theorem dX11_init_214 : decode cX11_init 214 = .ok (.return_, 1) := by decide +kernel
def s_X11_init (o : Nat) (h : aH) : aP :=
  bP (nwA .int h 400) fun o8 h8 => ck (0 + 1) (0 + Int32.toNatClampNeg 400) ((pF h8 (.ref o) 11 0 (.ref o8)).bind fun h10 => bP (nwA .int h10 9) fun o16 h16 => ck (0 + 1 + 1) (0 + Int32.toNatClampNeg 400 + Int32.toNatClampNeg 9) ((pF h16 (.ref o) 11 6 (.ref o16)).bind fun h18 => bP (nwO dfX2 2 h18) fun o22 h22 => ck (0 + 1 + 1 + 1) (0 + Int32.toNatClampNeg 400 + Int32.toNatClampNeg 9 + 17) (dN (s_X2_init o22 h22) fun h26 n26 y26 => ck (0 + 1 + 1 + 1 + n26) (0 + Int32.toNatClampNeg 400 + Int32.toNatClampNeg 9 + 17 + y26) ((pF h26 (.ref o) 11 7 (.ref o22)).bind fun h29 => bP (nwO dfX2 2 h29) fun o33 h33 => ck (0 + 1 + 1 + 1 + n26 + 1) (0 + Int32.toNatClampNeg 400 + Int32.toNatClampNeg 9 + 17 + y26 + 17) (dN (s_X2_init o33 h33) fun h37 n37 y37 => ck (0 + 1 + 1 + 1 + n26 + 1 + n37) (0 + Int32.toNatClampNeg 400 + Int32.toNatClampNeg 9 + 17 + y26 + 17 + y37) ((pF h37 (.ref o) 11 8 (.ref o33)).bind fun h40 => bP (nwO dfX0 0 h40) fun o44 h44 => ck (0 + 1 + 1 + 1 + n26 + 1 + n37 + 1) (0 + Int32.toNatClampNeg 400 + Int32.toNatClampNeg 9 + 17 + y26 + 17 + y37 + 9) (dN (s_X0_init o44 h44) fun h48 n48 y48 => ck (0 + 1 + 1 + 1 + n26 + 1 + n37 + 1 + n48) (0 + Int32.toNatClampNeg 400 + Int32.toNatClampNeg 9 + 17 + y26 + 17 + y37 + 9 + y48) ((pF h48 (.ref o) 11 9 (.ref o44)).bind fun h51 => bP (nwO dfX6 6 h51) fun o55 h55 => ck (0 + 1 + 1 + 1 + n26 + 1 + n37 + 1 + n48 + 1) (0 + Int32.toNatClampNeg 400 + Int32.toNatClampNeg 9 + 17 + y26 + 17 + y37 + 9 + y48 + 8) ((gO h55 (.ref o) 11 8).bind fun x60 => dN (s_X6_init o55 x60 h55) fun h63 n63 y63 => ck (0 + 1 + 1 + 1 + n26 + 1 + n37 + 1 + n48 + 1 + n63) (0 + Int32.toNatClampNeg 400 + Int32.toNatClampNeg 9 + 17 + y26 + 17 + y37 + 9 + y48 + 8 + y63) ((pF h63 (.ref o) 11 10 (.ref o55)).bind fun h66 => bP (nwO dfX3 3 h66) fun o70 h70 => ck (0 + 1 + 1 + 1 + n26 + 1 + n37 + 1 + n48 + 1 + n63 + 1) (0 + Int32.toNatClampNeg 400 + Int32.toNatClampNeg 9 + 17 + y26 + 17 + y37 + 9 + y48 + 8 + y63 + 6) ((gO h70 (.ref o) 11 7).bind fun x75 => dN (s_X3_init o70 x75 h70) fun h78 n78 y78 => ck (0 + 1 + 1 + 1 + n26 + 1 + n37 + 1 + n48 + 1 + n63 + 1 + n78) (0 + Int32.toNatClampNeg 400 + Int32.toNatClampNeg 9 + 17 + y26 + 17 + y37 + 9 + y48 + 8 + y63 + 6 + y78) ((pF h78 (.ref o) 11 11 (.ref o70)).bind fun h81 => bP (nwO dfX10 10 h81) fun o85 h85 => ck (0 + 1 + 1 + 1 + n26 + 1 + n37 + 1 + n48 + 1 + n63 + 1 + n78 + 1) (0 + Int32.toNatClampNeg 400 + Int32.toNatClampNeg 9 + 17 + y26 + 17 + y37 + 9 + y48 + 8 + y63 + 6 + y78 + 12) ((gO h85 (.ref o) 11 7).bind fun x90 => (gO h85 (.ref o) 11 11).bind fun x94 => dN (s_X10_init o85 x90 x94 h85) fun h97 n97 y97 => ck (0 + 1 + 1 + 1 + n26 + 1 + n37 + 1 + n48 + 1 + n63 + 1 + n78 + 1 + n97) (0 + Int32.toNatClampNeg 400 + Int32.toNatClampNeg 9 + 17 + y26 + 17 + y37 + 9 + y48 + 8 + y63 + 6 + y78 + 12 + y97) ((pF h97 (.ref o) 11 12 (.ref o85)).bind fun h100 => bP (nwO dfX7 7 h100) fun o104 h104 => ck (0 + 1 + 1 + 1 + n26 + 1 + n37 + 1 + n48 + 1 + n63 + 1 + n78 + 1 + n97 + 1) (0 + Int32.toNatClampNeg 400 + Int32.toNatClampNeg 9 + 17 + y26 + 17 + y37 + 9 + y48 + 8 + y63 + 6 + y78 + 12 + y97 + 14) ((gO h104 (.ref o) 11 7).bind fun x109 => (gO h104 (.ref o) 11 11).bind fun x113 => (gO h104 (.ref o) 11 12).bind fun x117 => dN (s_X7_init o104 x109 x113 x117 h104) fun h120 n120 y120 => ck (0 + 1 + 1 + 1 + n26 + 1 + n37 + 1 + n48 + 1 + n63 + 1 + n78 + 1 + n97 + 1 + n120) (0 + Int32.toNatClampNeg 400 + Int32.toNatClampNeg 9 + 17 + y26 + 17 + y37 + 9 + y48 + 8 + y63 + 6 + y78 + 12 + y97 + 14 + y120) ((pF h120 (.ref o) 11 13 (.ref o104)).bind fun h123 => bP (nwO dfX4 4 h123) fun o127 h127 => ck (0 + 1 + 1 + 1 + n26 + 1 + n37 + 1 + n48 + 1 + n63 + 1 + n78 + 1 + n97 + 1 + n120 + 1) (0 + Int32.toNatClampNeg 400 + Int32.toNatClampNeg 9 + 17 + y26 + 17 + y37 + 9 + y48 + 8 + y63 + 6 + y78 + 12 + y97 + 14 + y120 + 6) ((gO h127 (.ref o) 11 7).bind fun x132 => (gO h127 (.ref o) 11 11).bind fun x136 => (gO h127 (.ref o) 11 12).bind fun x140 => dN (s_X4_init o127 x132 x136 x140 h127) fun h143 n143 y143 => ck (0 + 1 + 1 + 1 + n26 + 1 + n37 + 1 + n48 + 1 + n63 + 1 + n78 + 1 + n97 + 1 + n120 + 1 + n143) (0 + Int32.toNatClampNeg 400 + Int32.toNatClampNeg 9 + 17 + y26 + 17 + y37 + 9 + y48 + 8 + y63 + 6 + y78 + 12 + y97 + 14 + y120 + 6 + y143) ((pF h143 (.ref o) 11 14 (.ref o127)).bind fun h146 => bP (nwO dfX1 1 h146) fun o150 h150 => ck (0 + 1 + 1 + 1 + n26 + 1 + n37 + 1 + n48 + 1 + n63 + 1 + n78 + 1 + n97 + 1 + n120 + 1 + n143 + 1) (0 + Int32.toNatClampNeg 400 + Int32.toNatClampNeg 9 + 17 + y26 + 17 + y37 + 9 + y48 + 8 + y63 + 6 + y78 + 12 + y97 + 14 + y120 + 6 + y143 + 14) ((gO h150 (.ref o) 11 7).bind fun x155 => dN (s_X1_init o150 x155 h150) fun h158 n158 y158 => ck (0 + 1 + 1 + 1 + n26 + 1 + n37 + 1 + n48 + 1 + n63 + 1 + n78 + 1 + n97 + 1 + n120 + 1 + n143 + 1 + n158) (0 + Int32.toNatClampNeg 400 + Int32.toNatClampNeg 9 + 17 + y26 + 17 + y37 + 9 + y48 + 8 + y63 + 6 + y78 + 12 + y97 + 14 + y120 + 6 + y143 + 14 + y158) ((pF h158 (.ref o) 11 15 (.ref o150)).bind fun h161 => bP (nwO dfX9 9 h161) fun o165 h165 => ck (0 + 1 + 1 + 1 + n26 + 1 + n37 + 1 + n48 + 1 + n63 + 1 + n78 + 1 + n97 + 1 + n120 + 1 + n143 + 1 + n158 + 1) (0 + Int32.toNatClampNeg 400 + Int32.toNatClampNeg 9 + 17 + y26 + 17 + y37 + 9 + y48 + 8 + y63 + 6 + y78 + 12 + y97 + 14 + y120 + 6 + y143 + 14 + y158 + 11) ((gO h165 (.ref o) 11 7).bind fun x170 => (gO h165 (.ref o) 11 11).bind fun x174 => (gO h165 (.ref o) 11 12).bind fun x178 => dN (s_X9_init o165 x170 x174 x178 h165) fun h181 n181 y181 => ck (0 + 1 + 1 + 1 + n26 + 1 + n37 + 1 + n48 + 1 + n63 + 1 + n78 + 1 + n97 + 1 + n120 + 1 + n143 + 1 + n158 + 1 + n181) (0 + Int32.toNatClampNeg 400 + Int32.toNatClampNeg 9 + 17 + y26 + 17 + y37 + 9 + y48 + 8 + y63 + 6 + y78 + 12 + y97 + 14 + y120 + 6 + y143 + 14 + y158 + 11 + y181) ((pF h181 (.ref o) 11 16 (.ref o165)).bind fun h184 => bP (nwO dfX5 5 h184) fun o188 h188 => ck (0 + 1 + 1 + 1 + n26 + 1 + n37 + 1 + n48 + 1 + n63 + 1 + n78 + 1 + n97 + 1 + n120 + 1 + n143 + 1 + n158 + 1 + n181 + 1) (0 + Int32.toNatClampNeg 400 + Int32.toNatClampNeg 9 + 17 + y26 + 17 + y37 + 9 + y48 + 8 + y63 + 6 + y78 + 12 + y97 + 14 + y120 + 6 + y143 + 14 + y158 + 11 + y181 + 11) ((gO h188 (.ref o) 11 7).bind fun x193 => (gO h188 (.ref o) 11 11).bind fun x197 => (gO h188 (.ref o) 11 12).bind fun x201 => (gO h188 (.ref o) 11 13).bind fun x205 => dN (s_X5_init o188 x193 x197 x201 x205 h188) fun h208 n208 y208 => ck (0 + 1 + 1 + 1 + n26 + 1 + n37 + 1 + n48 + 1 + n63 + 1 + n78 + 1 + n97 + 1 + n120 + 1 + n143 + 1 + n158 + 1 + n181 + 1 + n208) (0 + Int32.toNatClampNeg 400 + Int32.toNatClampNeg 9 + 17 + y26 + 17 + y37 + 9 + y48 + 8 + y63 + 6 + y78 + 12 + y97 + 14 + y120 + 6 + y143 + 14 + y158 + 11 + y181 + 11 + y208) (wC (0 + 1 + 1 + 1 + n26 + 1 + n37 + 1 + n48 + 1 + n63 + 1 + n78 + 1 + n97 + 1 + n120 + 1 + n143 + 1 + n158 + 1 + n181 + 1 + n208) (0 + Int32.toNatClampNeg 400 + Int32.toNatClampNeg 9 + 17 + y26 + 17 + y37 + 9 + y48 + 8 + y63 + 6 + y78 + 12 + y97 + 14 + y120 + 6 + y143 + 14 + y158 + 11 + y181 + 11 + y208) ((pF h208 (.ref o) 11 17 (.ref o188)).bind fun h211 => some (.inl none, h211))))))))))))))))))))))))))
section
variable {p : Program} {l : Launch} {e : Env} {s : State} {m : MethodId} {args : Array Value} {below : List Frame} {meth : Method} {c : Code} {D : va_G} {B0 : Nat} {X : Nat → Nat} {ws0 : va_W} {r : aR} {h' : aH} {mc ms : Nat}
theorem hy_X11_init : yX11_init.cls ≠ "java/lang/invoke/MethodHandle" ∧ yX11_init.cls ≠ "java/lang/invoke/VarHandle" ∧ (parseMethodDescriptor yX11_init.desc).map (fun d => d.parameters.length) = some 0 := by decide +kernel
theorem T_X11_init (o : Nat) (h : aH) (r : aR) (h' : aH) (mc ms : Nat) (hs : s_X11_init o h = some (r, h', mc, ms)) : Mt yX11_init (Cond.code yX11_init cX11_init 1 none :: aTB) 3 61 mc ms [.ref o] h r h' := by
  unfold s_X11_init at hs
  refine Mt_of (k := 0) (by decide) rfl (fun p l e s m args below meth c D B0 X ws0 C => ?_)
  show Ev p l e { frames := 3, cells := mc, slots := ms, locals := 61 } s m args below meth c D B0 X ws0 r h' mc ms 1 0 0 0 [some (.ref o)] [] h
  refine ev_aload_n C (x := .ref o) rfl trivial dX11_init_0 ?_
  refine ev_objInit C wm_X11_3 wi_oinit wc_oinit (Nat.le_of_ble_eq_true rfl) (Nat.le_of_ble_eq_true rfl) dX11_init_1 ?_
  refine ev_aload_n C (x := .ref o) rfl trivial dX11_init_4 ?_
  refine ev_sipush C (v := 400) dX11_init_5 (by decide) ?_
  obtain ⟨o8, h8, e8, hs⟩ := bP_at hs
  obtain ⟨c8, z8, hs⟩ := ck_at hs
  refine ev_newa C (atype := .int) (ty := .int) rfl wa_int (fun _ _ => rfl) e8 c8 z8 dX11_init_8 ?_
  obtain ⟨h10, e10, hs⟩ := aB hs
  refine ev_putF C (ci := 11) (k := 0) rfl wu_11 (by decide) tyX11 tyX11_ok nmX11 wf_X11_9 rfl rfl rfl trivial e10 dX11_init_10 ?_
  refine ev_aload_n C (x := .ref o) rfl trivial dX11_init_13 ?_
  refine ev_bipush C (v := 9) dX11_init_14 (by decide) ?_
  obtain ⟨o16, h16, e16, hs⟩ := bP_at hs
  obtain ⟨c16, z16, hs⟩ := ck_at hs
  refine ev_newa C (atype := .int) (ty := .int) rfl wa_int (fun _ _ => rfl) e16 c16 z16 dX11_init_16 ?_
  obtain ⟨h18, e18, hs⟩ := aB hs
  refine ev_putF C (ci := 11) (k := 6) rfl wu_11 (by decide) tyX11 tyX11_ok nmX11 wf_X11_13 rfl rfl rfl trivial e18 dX11_init_18 ?_
  refine ev_aload_n C (x := .ref o) rfl trivial dX11_init_21 ?_
  obtain ⟨o22, h22, e22, hs⟩ := bP_at hs
  obtain ⟨c22, z22, hs⟩ := ck_at hs
  refine ev_new C (ci := 2) rfl wu_2 tyX2 tyX2_ok wk_X11_16 wj_X2 wz_X2 dfX2_ok dfX2_se e22 c22 z22 dX11_init_22 ?_
  refine ev_dup C rfl dX11_init_25 ?_
  obtain ⟨h26, n26, y26, e26, hs⟩ := dN_at hs
  obtain ⟨c26, z26, hs⟩ := ck_at hs
  refine ev_callIN C (T_X2_init _ _ _ _ _ _ e26) wc_X2_init wn_X11_18 wi_X2_init wz_X2 rfl hy_X2_init ⟨(Nat.le_of_ble_eq_true rfl), (Nat.le_of_ble_eq_true rfl)⟩ ⟨c26, z26⟩ (Nat.le_of_ble_eq_true rfl) rfl dX11_init_26 ?_
  obtain ⟨h29, e29, hs⟩ := aB hs
  refine ev_putF C (ci := 11) (k := 7) rfl wu_11 (by decide) tyX11 tyX11_ok nmX11 wf_X11_19 rfl rfl rfl trivial e29 dX11_init_29 ?_
  refine ev_aload_n C (x := .ref o) rfl trivial dX11_init_32 ?_
  obtain ⟨o33, h33, e33, hs⟩ := bP_at hs
  obtain ⟨c33, z33, hs⟩ := ck_at hs
  refine ev_new C (ci := 2) rfl wu_2 tyX2 tyX2_ok wk_X11_16 wj_X2 wz_X2 dfX2_ok dfX2_se e33 c33 z33 dX11_init_33 ?_
  refine ev_dup C rfl dX11_init_36 ?_
  obtain ⟨h37, n37, y37, e37, hs⟩ := dN_at hs
  obtain ⟨c37, z37, hs⟩ := ck_at hs
  refine ev_callIN C (T_X2_init _ _ _ _ _ _ e37) wc_X2_init wn_X11_18 wi_X2_init wz_X2 rfl hy_X2_init ⟨(Nat.le_of_ble_eq_true rfl), (Nat.le_of_ble_eq_true rfl)⟩ ⟨c37, z37⟩ (Nat.le_of_ble_eq_true rfl) rfl dX11_init_37 ?_
  obtain ⟨h40, e40, hs⟩ := aB hs
  refine ev_putF C (ci := 11) (k := 8) rfl wu_11 (by decide) tyX11 tyX11_ok nmX11 wf_X11_23 rfl rfl rfl trivial e40 dX11_init_40 ?_
  refine ev_aload_n C (x := .ref o) rfl trivial dX11_init_43 ?_
  obtain ⟨o44, h44, e44, hs⟩ := bP_at hs
  obtain ⟨c44, z44, hs⟩ := ck_at hs
  refine ev_new C (ci := 0) rfl wu_0 tyX0 tyX0_ok wk_X11_26 wj_X0 wz_X0 dfX0_ok dfX0_se e44 c44 z44 dX11_init_44 ?_
  refine ev_dup C rfl dX11_init_47 ?_
  obtain ⟨h48, n48, y48, e48, hs⟩ := dN_at hs
  obtain ⟨c48, z48, hs⟩ := ck_at hs
  refine ev_callIN C (T_X0_init _ _ _ _ _ _ e48) wc_X0_init wn_X11_28 wi_X0_init wz_X0 rfl hy_X0_init ⟨(Nat.le_of_ble_eq_true rfl), (Nat.le_of_ble_eq_true rfl)⟩ ⟨c48, z48⟩ (Nat.le_of_ble_eq_true rfl) rfl dX11_init_48 ?_
  obtain ⟨h51, e51, hs⟩ := aB hs
  refine ev_putF C (ci := 11) (k := 9) rfl wu_11 (by decide) tyX11 tyX11_ok nmX11 wf_X11_29 rfl rfl rfl trivial e51 dX11_init_51 ?_
  refine ev_aload_n C (x := .ref o) rfl trivial dX11_init_54 ?_
  obtain ⟨o55, h55, e55, hs⟩ := bP_at hs
  obtain ⟨c55, z55, hs⟩ := ck_at hs
  refine ev_new C (ci := 6) rfl wu_6 tyX6 tyX6_ok wk_X11_33 wj_X6 wz_X6 dfX6_ok dfX6_se e55 c55 z55 dX11_init_55 ?_
  refine ev_dup C rfl dX11_init_58 ?_
  refine ev_aload_n C (x := .ref o) rfl trivial dX11_init_59 ?_
  obtain ⟨x60, e60, hs⟩ := aB hs
  refine ev_get C (ci := 11) (k := 8) rfl wu_11 (by decide) wf_X11_23 (gO_F e60) dX11_init_60 ?_
  obtain ⟨h63, n63, y63, e63, hs⟩ := dN_at hs
  obtain ⟨c63, z63, hs⟩ := ck_at hs
  refine ev_callIN C (T_X6_init _ _ _ _ _ _ _ e63) wc_X6_init wn_X11_35 wi_X6_init wz_X6 rfl hy_X6_init ⟨(Nat.le_of_ble_eq_true rfl), (Nat.le_of_ble_eq_true rfl)⟩ ⟨c63, z63⟩ (Nat.le_of_ble_eq_true rfl) rfl dX11_init_63 ?_
  obtain ⟨h66, e66, hs⟩ := aB hs
  refine ev_putF C (ci := 11) (k := 10) rfl wu_11 (by decide) tyX11 tyX11_ok nmX11 wf_X11_38 rfl rfl rfl trivial e66 dX11_init_66 ?_
  refine ev_aload_n C (x := .ref o) rfl trivial dX11_init_69 ?_
  obtain ⟨o70, h70, e70, hs⟩ := bP_at hs
  obtain ⟨c70, z70, hs⟩ := ck_at hs
  refine ev_new C (ci := 3) rfl wu_3 tyX3 tyX3_ok wk_X11_42 wj_X3 wz_X3 dfX3_ok dfX3_se e70 c70 z70 dX11_init_70 ?_
  refine ev_dup C rfl dX11_init_73 ?_
  refine ev_aload_n C (x := .ref o) rfl trivial dX11_init_74 ?_
  obtain ⟨x75, e75, hs⟩ := aB hs
  refine ev_get C (ci := 11) (k := 7) rfl wu_11 (by decide) wf_X11_19 (gO_F e75) dX11_init_75 ?_
  obtain ⟨h78, n78, y78, e78, hs⟩ := dN_at hs
  obtain ⟨c78, z78, hs⟩ := ck_at hs
  refine ev_callIN C (T_X3_init _ _ _ _ _ _ _ e78) wc_X3_init wn_X11_44 wi_X3_init wz_X3 rfl hy_X3_init ⟨(Nat.le_of_ble_eq_true rfl), (Nat.le_of_ble_eq_true rfl)⟩ ⟨c78, z78⟩ (Nat.le_of_ble_eq_true rfl) rfl dX11_init_78 ?_
  obtain ⟨h81, e81, hs⟩ := aB hs
  refine ev_putF C (ci := 11) (k := 11) rfl wu_11 (by decide) tyX11 tyX11_ok nmX11 wf_X11_45 rfl rfl rfl trivial e81 dX11_init_81 ?_
  refine ev_aload_n C (x := .ref o) rfl trivial dX11_init_84 ?_
  obtain ⟨o85, h85, e85, hs⟩ := bP_at hs
  obtain ⟨c85, z85, hs⟩ := ck_at hs
  refine ev_new C (ci := 10) rfl wu_10 tyX10 tyX10_ok wk_X11_49 wj_X10 wz_X10 dfX10_ok dfX10_se e85 c85 z85 dX11_init_85 ?_
  refine ev_dup C rfl dX11_init_88 ?_
  refine ev_aload_n C (x := .ref o) rfl trivial dX11_init_89 ?_
  obtain ⟨x90, e90, hs⟩ := aB hs
  refine ev_get C (ci := 11) (k := 7) rfl wu_11 (by decide) wf_X11_19 (gO_F e90) dX11_init_90 ?_
  refine ev_aload_n C (x := .ref o) rfl trivial dX11_init_93 ?_
  obtain ⟨x94, e94, hs⟩ := aB hs
  refine ev_get C (ci := 11) (k := 11) rfl wu_11 (by decide) wf_X11_45 (gO_F e94) dX11_init_94 ?_
  obtain ⟨h97, n97, y97, e97, hs⟩ := dN_at hs
  obtain ⟨c97, z97, hs⟩ := ck_at hs
  refine ev_callIN C (T_X10_init _ _ _ _ _ _ _ _ e97) wc_X10_init wn_X11_51 wi_X10_init wz_X10 rfl hy_X10_init ⟨(Nat.le_of_ble_eq_true rfl), (Nat.le_of_ble_eq_true rfl)⟩ ⟨c97, z97⟩ (Nat.le_of_ble_eq_true rfl) rfl dX11_init_97 ?_
  obtain ⟨h100, e100, hs⟩ := aB hs
  refine ev_putF C (ci := 11) (k := 12) rfl wu_11 (by decide) tyX11 tyX11_ok nmX11 wf_X11_54 rfl rfl rfl trivial e100 dX11_init_100 ?_
  refine ev_aload_n C (x := .ref o) rfl trivial dX11_init_103 ?_
  obtain ⟨o104, h104, e104, hs⟩ := bP_at hs
  obtain ⟨c104, z104, hs⟩ := ck_at hs
  refine ev_new C (ci := 7) rfl wu_7 tyX7 tyX7_ok wk_X11_58 wj_X7 wz_X7 dfX7_ok dfX7_se e104 c104 z104 dX11_init_104 ?_
  refine ev_dup C rfl dX11_init_107 ?_
  refine ev_aload_n C (x := .ref o) rfl trivial dX11_init_108 ?_
  obtain ⟨x109, e109, hs⟩ := aB hs
  refine ev_get C (ci := 11) (k := 7) rfl wu_11 (by decide) wf_X11_19 (gO_F e109) dX11_init_109 ?_
  refine ev_aload_n C (x := .ref o) rfl trivial dX11_init_112 ?_
  obtain ⟨x113, e113, hs⟩ := aB hs
  refine ev_get C (ci := 11) (k := 11) rfl wu_11 (by decide) wf_X11_45 (gO_F e113) dX11_init_113 ?_
  refine ev_aload_n C (x := .ref o) rfl trivial dX11_init_116 ?_
  obtain ⟨x117, e117, hs⟩ := aB hs
  refine ev_get C (ci := 11) (k := 12) rfl wu_11 (by decide) wf_X11_54 (gO_F e117) dX11_init_117 ?_
  obtain ⟨h120, n120, y120, e120, hs⟩ := dN_at hs
  obtain ⟨c120, z120, hs⟩ := ck_at hs
  refine ev_callIN C (T_X7_init _ _ _ _ _ _ _ _ _ e120) wc_X7_init wn_X11_60 wi_X7_init wz_X7 rfl hy_X7_init ⟨(Nat.le_of_ble_eq_true rfl), (Nat.le_of_ble_eq_true rfl)⟩ ⟨c120, z120⟩ (Nat.le_of_ble_eq_true rfl) rfl dX11_init_120 ?_
  obtain ⟨h123, e123, hs⟩ := aB hs
  refine ev_putF C (ci := 11) (k := 13) rfl wu_11 (by decide) tyX11 tyX11_ok nmX11 wf_X11_63 rfl rfl rfl trivial e123 dX11_init_123 ?_
  refine ev_aload_n C (x := .ref o) rfl trivial dX11_init_126 ?_
  obtain ⟨o127, h127, e127, hs⟩ := bP_at hs
  obtain ⟨c127, z127, hs⟩ := ck_at hs
  refine ev_new C (ci := 4) rfl wu_4 tyX4 tyX4_ok wk_X11_67 wj_X4 wz_X4 dfX4_ok dfX4_se e127 c127 z127 dX11_init_127 ?_
  refine ev_dup C rfl dX11_init_130 ?_
  refine ev_aload_n C (x := .ref o) rfl trivial dX11_init_131 ?_
  obtain ⟨x132, e132, hs⟩ := aB hs
  refine ev_get C (ci := 11) (k := 7) rfl wu_11 (by decide) wf_X11_19 (gO_F e132) dX11_init_132 ?_
  refine ev_aload_n C (x := .ref o) rfl trivial dX11_init_135 ?_
  obtain ⟨x136, e136, hs⟩ := aB hs
  refine ev_get C (ci := 11) (k := 11) rfl wu_11 (by decide) wf_X11_45 (gO_F e136) dX11_init_136 ?_
  refine ev_aload_n C (x := .ref o) rfl trivial dX11_init_139 ?_
  obtain ⟨x140, e140, hs⟩ := aB hs
  refine ev_get C (ci := 11) (k := 12) rfl wu_11 (by decide) wf_X11_54 (gO_F e140) dX11_init_140 ?_
  obtain ⟨h143, n143, y143, e143, hs⟩ := dN_at hs
  obtain ⟨c143, z143, hs⟩ := ck_at hs
  refine ev_callIN C (T_X4_init _ _ _ _ _ _ _ _ _ e143) wc_X4_init wn_X11_69 wi_X4_init wz_X4 rfl hy_X4_init ⟨(Nat.le_of_ble_eq_true rfl), (Nat.le_of_ble_eq_true rfl)⟩ ⟨c143, z143⟩ (Nat.le_of_ble_eq_true rfl) rfl dX11_init_143 ?_
  obtain ⟨h146, e146, hs⟩ := aB hs
  refine ev_putF C (ci := 11) (k := 14) rfl wu_11 (by decide) tyX11 tyX11_ok nmX11 wf_X11_70 rfl rfl rfl trivial e146 dX11_init_146 ?_
  refine ev_aload_n C (x := .ref o) rfl trivial dX11_init_149 ?_
  obtain ⟨o150, h150, e150, hs⟩ := bP_at hs
  obtain ⟨c150, z150, hs⟩ := ck_at hs
  refine ev_new C (ci := 1) rfl wu_1 tyX1 tyX1_ok wk_X11_74 wj_X1 wz_X1 dfX1_ok dfX1_se e150 c150 z150 dX11_init_150 ?_
  refine ev_dup C rfl dX11_init_153 ?_
  refine ev_aload_n C (x := .ref o) rfl trivial dX11_init_154 ?_
  obtain ⟨x155, e155, hs⟩ := aB hs
  refine ev_get C (ci := 11) (k := 7) rfl wu_11 (by decide) wf_X11_19 (gO_F e155) dX11_init_155 ?_
  obtain ⟨h158, n158, y158, e158, hs⟩ := dN_at hs
  obtain ⟨c158, z158, hs⟩ := ck_at hs
  refine ev_callIN C (T_X1_init _ _ _ _ _ _ _ e158) wc_X1_init wn_X11_76 wi_X1_init wz_X1 rfl hy_X1_init ⟨(Nat.le_of_ble_eq_true rfl), (Nat.le_of_ble_eq_true rfl)⟩ ⟨c158, z158⟩ (Nat.le_of_ble_eq_true rfl) rfl dX11_init_158 ?_
  obtain ⟨h161, e161, hs⟩ := aB hs
  refine ev_putF C (ci := 11) (k := 15) rfl wu_11 (by decide) tyX11 tyX11_ok nmX11 wf_X11_77 rfl rfl rfl trivial e161 dX11_init_161 ?_
  refine ev_aload_n C (x := .ref o) rfl trivial dX11_init_164 ?_
  obtain ⟨o165, h165, e165, hs⟩ := bP_at hs
  obtain ⟨c165, z165, hs⟩ := ck_at hs
  refine ev_new C (ci := 9) rfl wu_9 tyX9 tyX9_ok wk_X11_81 wj_X9 wz_X9 dfX9_ok dfX9_se e165 c165 z165 dX11_init_165 ?_
  refine ev_dup C rfl dX11_init_168 ?_
  refine ev_aload_n C (x := .ref o) rfl trivial dX11_init_169 ?_
  obtain ⟨x170, e170, hs⟩ := aB hs
  refine ev_get C (ci := 11) (k := 7) rfl wu_11 (by decide) wf_X11_19 (gO_F e170) dX11_init_170 ?_
  refine ev_aload_n C (x := .ref o) rfl trivial dX11_init_173 ?_
  obtain ⟨x174, e174, hs⟩ := aB hs
  refine ev_get C (ci := 11) (k := 11) rfl wu_11 (by decide) wf_X11_45 (gO_F e174) dX11_init_174 ?_
  refine ev_aload_n C (x := .ref o) rfl trivial dX11_init_177 ?_
  obtain ⟨x178, e178, hs⟩ := aB hs
  refine ev_get C (ci := 11) (k := 12) rfl wu_11 (by decide) wf_X11_54 (gO_F e178) dX11_init_178 ?_
  obtain ⟨h181, n181, y181, e181, hs⟩ := dN_at hs
  obtain ⟨c181, z181, hs⟩ := ck_at hs
  refine ev_callIN C (T_X9_init _ _ _ _ _ _ _ _ _ e181) wc_X9_init wn_X11_83 wi_X9_init wz_X9 rfl hy_X9_init ⟨(Nat.le_of_ble_eq_true rfl), (Nat.le_of_ble_eq_true rfl)⟩ ⟨c181, z181⟩ (Nat.le_of_ble_eq_true rfl) rfl dX11_init_181 ?_
  obtain ⟨h184, e184, hs⟩ := aB hs
  refine ev_putF C (ci := 11) (k := 16) rfl wu_11 (by decide) tyX11 tyX11_ok nmX11 wf_X11_84 rfl rfl rfl trivial e184 dX11_init_184 ?_
  refine ev_aload_n C (x := .ref o) rfl trivial dX11_init_187 ?_
  obtain ⟨o188, h188, e188, hs⟩ := bP_at hs
  obtain ⟨c188, z188, hs⟩ := ck_at hs
  refine ev_new C (ci := 5) rfl wu_5 tyX5 tyX5_ok wk_X11_88 wj_X5 wz_X5 dfX5_ok dfX5_se e188 c188 z188 dX11_init_188 ?_
  refine ev_dup C rfl dX11_init_191 ?_
  refine ev_aload_n C (x := .ref o) rfl trivial dX11_init_192 ?_
  obtain ⟨x193, e193, hs⟩ := aB hs
  refine ev_get C (ci := 11) (k := 7) rfl wu_11 (by decide) wf_X11_19 (gO_F e193) dX11_init_193 ?_
  refine ev_aload_n C (x := .ref o) rfl trivial dX11_init_196 ?_
  obtain ⟨x197, e197, hs⟩ := aB hs
  refine ev_get C (ci := 11) (k := 11) rfl wu_11 (by decide) wf_X11_45 (gO_F e197) dX11_init_197 ?_
  refine ev_aload_n C (x := .ref o) rfl trivial dX11_init_200 ?_
  obtain ⟨x201, e201, hs⟩ := aB hs
  refine ev_get C (ci := 11) (k := 12) rfl wu_11 (by decide) wf_X11_54 (gO_F e201) dX11_init_201 ?_
  refine ev_aload_n C (x := .ref o) rfl trivial dX11_init_204 ?_
  obtain ⟨x205, e205, hs⟩ := aB hs
  refine ev_get C (ci := 11) (k := 13) rfl wu_11 (by decide) wf_X11_63 (gO_F e205) dX11_init_205 ?_
  obtain ⟨h208, n208, y208, e208, hs⟩ := dN_at hs
  obtain ⟨c208, z208, hs⟩ := ck_at hs
  refine ev_callIN C (T_X5_init _ _ _ _ _ _ _ _ _ _ e208) wc_X5_init wn_X11_90 wi_X5_init wz_X5 rfl hy_X5_init ⟨(Nat.le_of_ble_eq_true rfl), (Nat.le_of_ble_eq_true rfl)⟩ ⟨c208, z208⟩ (Nat.le_of_ble_eq_true rfl) rfl dX11_init_208 ?_
  obtain ⟨hw9, rfl, rfl⟩ := wC_at hs
  have hs := hw9
  obtain ⟨h211, e211, hs⟩ := aB hs
  refine ev_putF C (ci := 11) (k := 17) rfl wu_11 (by decide) tyX11 tyX11_ok nmX11 wf_X11_93 rfl rfl rfl trivial e211 dX11_init_211 ?_
  cases hs
  exact ev_vret C rfl rfl (Nat.le_refl _) (Nat.le_refl _) rfl dX11_init_214
end
-- X11_takeFour
theorem dX11_takeFour_0 : decode cX11_takeFour 0 = .ok (.bipush 24, 2) := by decide +kernel
theorem dX11_takeFour_2 : decode cX11_takeFour 2 = .ok (.istore_n 2, 1) := by decide +kernel
theorem dX11_takeFour_3 : decode cX11_takeFour 3 = .ok (.iload_n 2, 1) := by decide +kernel
theorem dX11_takeFour_4 : decode cX11_takeFour 4 = .ok (.ifCond .lt 45, 3) := by decide +kernel
theorem dX11_takeFour_7 : decode cX11_takeFour 7 = .ok (.aload_n 0, 1) := by decide +kernel
theorem dX11_takeFour_8 : decode cX11_takeFour 8 = .ok (.getfield 97, 3) := by decide +kernel
theorem dX11_takeFour_11 : decode cX11_takeFour 11 = .ok (.sipush 400, 3) := by decide +kernel
theorem dX11_takeFour_14 : decode cX11_takeFour 14 = .ok (.if_icmp .ge 29, 3) := by decide +kernel
theorem dX11_takeFour_17 : decode cX11_takeFour 17 = .ok (.aload_n 0, 1) := by decide +kernel
theorem dX11_takeFour_18 : decode cX11_takeFour 18 = .ok (.getfield 9, 3) := by decide +kernel
theorem dX11_takeFour_21 : decode cX11_takeFour 21 = .ok (.aload_n 0, 1) := by decide +kernel
theorem dX11_takeFour_22 : decode cX11_takeFour 22 = .ok (.getfield 97, 3) := by decide +kernel
theorem dX11_takeFour_25 : decode cX11_takeFour 25 = .ok (.iload_n 1, 1) := by decide +kernel
theorem dX11_takeFour_26 : decode cX11_takeFour 26 = .ok (.iload_n 2, 1) := by decide +kernel
theorem dX11_takeFour_27 : decode cX11_takeFour 27 = .ok (.ishr, 1) := by decide +kernel
theorem dX11_takeFour_28 : decode cX11_takeFour 28 = .ok (.sipush 255, 3) := by decide +kernel
theorem dX11_takeFour_31 : decode cX11_takeFour 31 = .ok (.iand, 1) := by decide +kernel
theorem dX11_takeFour_32 : decode cX11_takeFour 32 = .ok (.iastore, 1) := by decide +kernel
theorem dX11_takeFour_33 : decode cX11_takeFour 33 = .ok (.aload_n 0, 1) := by decide +kernel
theorem dX11_takeFour_34 : decode cX11_takeFour 34 = .ok (.dup, 1) := by decide +kernel
theorem dX11_takeFour_35 : decode cX11_takeFour 35 = .ok (.getfield 97, 3) := by decide +kernel
theorem dX11_takeFour_38 : decode cX11_takeFour 38 = .ok (.iconst 1, 1) := by decide +kernel
theorem dX11_takeFour_39 : decode cX11_takeFour 39 = .ok (.iadd, 1) := by decide +kernel
theorem dX11_takeFour_40 : decode cX11_takeFour 40 = .ok (.putfield 97, 3) := by decide +kernel
theorem dX11_takeFour_43 : decode cX11_takeFour 43 = .ok (.iinc 2 (-8), 3) := by decide +kernel
theorem dX11_takeFour_46 : decode cX11_takeFour 46 = .ok (.goto (-43), 3) := by decide +kernel
theorem dX11_takeFour_49 : decode cX11_takeFour 49 = .ok (.return_, 1) := by decide +kernel
def s_X11_takeFour_3_b  (k3 : Nat → Int32 → Int32 → aH → aO) (l0 : Nat) (l1 : Int32) (l2 : Int32) (h : aH) : aO :=
  if l2 < 0 then (some (.inl none, h)) else ((gI h (.ref l0) 11 1).bind fun x8 => if 400 ≤ x8 then (k3 l0 l1 (l2 + (-8)) h) else ((gO h (.ref l0) 11 0).bind fun x18 => (gI h (.ref l0) 11 1).bind fun x22 => (stI h (.ref x18) x22 ((l1 >>> (l2 &&& 31)) &&& 255)).bind fun h32 => (gI h32 (.ref l0) 11 1).bind fun x35 => (pF h32 (.ref l0) 11 1 (.int (x35 + 1))).bind fun h40 => k3 l0 l1 (l2 + (-8)) h40))
def s_X11_takeFour_3  (n : Nat) : Nat → Int32 → Int32 → aH → aO := lpF (fun _ _ _ _ => none) (s_X11_takeFour_3_b ) n
def s_X11_takeFour (o : Nat) (a1 : Int32) (h : aH) : aO :=
  s_X11_takeFour_3 FU o a1 24 h
section
variable {p : Program} {l : Launch} {e : Env} {s : State} {m : MethodId} {args : Array Value} {below : List Frame} {meth : Method} {c : Code} {D : va_G} {B0 : Nat} {X : Nat → Nat} {ws0 : va_W} {r : aR} {h' : aH} {mc ms : Nat}
theorem t_X11_takeFour_3_b (C : Cx p l s m args meth c B0 X RX11 "takeFour" cX11_takeFour 3 none [])   {k3 : Nat → Int32 → Int32 → aH → aO} (K3 : ∀ (l0 : Nat) (l1 : Int32) (l2 : Int32) (h : aH), k3 l0 l1 l2 h = some (r, h') → Ev p l e { frames := 0, cells := mc, slots := ms, locals := 0 } s m args below meth c D B0 X ws0 r h' mc ms 3 mc ms 3 [some (.ref l0), some (.int l1), some (.int l2)] [] h) {l0 : Nat} {l1 : Int32} {l2 : Int32} {h : aH} (hs : s_X11_takeFour_3_b  k3 l0 l1 l2 h = some (r, h')) : Ev p l e { frames := 0, cells := mc, slots := ms, locals := 0 } s m args below meth c D B0 X ws0 r h' mc ms 3 mc ms 3 [some (.ref l0), some (.int l1), some (.int l2)] [] h := by
  unfold s_X11_takeFour_3_b at hs
  refine ev_iload_n C rfl dX11_takeFour_3 ?_
  refine ev_if_lt C (tgt := 49) (by decide) dX11_takeFour_4 (fun q4 => ?_) (fun q4 => ?_)
  · replace hs := (if_pos q4).symm.trans hs
    cases hs
    exact ev_vret C rfl rfl (Nat.le_refl _) (Nat.le_refl _) rfl dX11_takeFour_49
  · replace hs := (if_neg q4).symm.trans hs
    refine ev_aload_n C (x := .ref l0) rfl trivial dX11_takeFour_7 ?_
    obtain ⟨x8, e8, hs⟩ := aB hs
    refine ev_get C (ci := 11) (k := 1) rfl wu_11 (by decide) wf_X11_97 (gI_F e8) dX11_takeFour_8 ?_
    refine ev_sipush C (v := 400) dX11_takeFour_11 (by decide) ?_
    refine ev_icmp_ge C (tgt := 43) (by decide) dX11_takeFour_14 (fun q14 => ?_) (fun q14 => ?_)
    · replace hs := (if_pos q14).symm.trans hs
      refine ev_iinc C (i := 2) (n := -8) (x := l2) (v := l2 + (-8)) rfl (congrArg (fun z => l2 + z) (show Int32.ofInt (-8) = (-8) by decide)) (by decide) dX11_takeFour_43 ?_
      refine ev_goto C (tgt := 3) (by decide) dX11_takeFour_46 ?_
      exact (K3 _ _ _ _ hs)
    · replace hs := (if_neg q14).symm.trans hs
      refine ev_aload_n C (x := .ref l0) rfl trivial dX11_takeFour_17 ?_
      obtain ⟨x18, e18, hs⟩ := aB hs
      refine ev_get C (ci := 11) (k := 0) rfl wu_11 (by decide) wf_X11_9 (gO_F e18) dX11_takeFour_18 ?_
      refine ev_aload_n C (x := .ref l0) rfl trivial dX11_takeFour_21 ?_
      obtain ⟨x22, e22, hs⟩ := aB hs
      refine ev_get C (ci := 11) (k := 1) rfl wu_11 (by decide) wf_X11_97 (gI_F e22) dX11_takeFour_22 ?_
      refine ev_iload_n C rfl dX11_takeFour_25 ?_
      refine ev_iload_n C rfl dX11_takeFour_26 ?_
      refine ev_ishr C dX11_takeFour_27 ?_
      refine ev_sipush C (v := 255) dX11_takeFour_28 (by decide) ?_
      refine ev_iand C dX11_takeFour_31 ?_
      obtain ⟨h32, e32, hs⟩ := aB hs
      refine ev_iast C e32 dX11_takeFour_32 ?_
      refine ev_aload_n C (x := .ref l0) rfl trivial dX11_takeFour_33 ?_
      refine ev_dup C rfl dX11_takeFour_34 ?_
      obtain ⟨x35, e35, hs⟩ := aB hs
      refine ev_get C (ci := 11) (k := 1) rfl wu_11 (by decide) wf_X11_97 (gI_F e35) dX11_takeFour_35 ?_
      refine ev_iconst C (v := 1) dX11_takeFour_38 (by decide) ?_
      refine ev_iadd C dX11_takeFour_39 ?_
      obtain ⟨h40, e40, hs⟩ := aB hs
      refine ev_put C (ci := 11) (k := 1) rfl wu_11 (by decide) tyX11 tyX11_ok nmX11 wf_X11_97 rfl trivial e40 dX11_takeFour_40 ?_
      refine ev_iinc C (i := 2) (n := -8) (x := l2) (v := l2 + (-8)) rfl (congrArg (fun z => l2 + z) (show Int32.ofInt (-8) = (-8) by decide)) (by decide) dX11_takeFour_43 ?_
      refine ev_goto C (tgt := 3) (by decide) dX11_takeFour_46 ?_
      exact (K3 _ _ _ _ hs)
theorem t_X11_takeFour_3 (C : Cx p l s m args meth c B0 X RX11 "takeFour" cX11_takeFour 3 none [])   : ∀ (n : Nat) {l0 : Nat} {l1 : Int32} {l2 : Int32} {h : aH} (hs : s_X11_takeFour_3  n l0 l1 l2 h = some (r, h')), Ev p l e { frames := 0, cells := mc, slots := ms, locals := 0 } s m args below meth c D B0 X ws0 r h' mc ms 3 mc ms 3 [some (.ref l0), some (.int l1), some (.int l2)] [] h
  | 0, _, _, _, _, hs => nomatch hs
  | n + 1, _, _, _, _, hs => t_X11_takeFour_3_b C  (k3 := s_X11_takeFour_3  n) (fun _ _ _ _ hs => t_X11_takeFour_3 C  n hs) hs
theorem hy_X11_takeFour : yX11_takeFour.cls ≠ "java/lang/invoke/MethodHandle" ∧ yX11_takeFour.cls ≠ "java/lang/invoke/VarHandle" ∧ (parseMethodDescriptor yX11_takeFour.desc).map (fun d => d.parameters.length) = some 1 := by decide +kernel
theorem T_X11_takeFour (o : Nat) (a1 : Int32) (h : aH) (r : aR) (h' : aH) (hs : s_X11_takeFour o a1 h = some (r, h')) : Mt yX11_takeFour (Cond.code yX11_takeFour cX11_takeFour 3 none :: aTB) 0 0 0 0 [.ref o, .int a1] h r h' := by
  unfold s_X11_takeFour at hs
  refine Mt_of (k := 1) (by decide) rfl (fun p l e s m args below meth c D B0 X ws0 C => ?_)
  show Ev p l e { frames := 0, cells := 0, slots := 0, locals := 0 } s m args below meth c D B0 X ws0 r h' 0 0 3 0 0 0 [some (.ref o), some (.int a1), none] [] h
  refine ev_bipush C (v := 24) dX11_takeFour_0 (by decide) ?_
  refine ev_istore_n C (by decide) dX11_takeFour_2 ?_
  exact (t_X11_takeFour_3 C  FU hs)
end
-- X11_feed
theorem dX11_feed_0 : decode cX11_feed 0 = .ok (.aload_n 0, 1) := by decide +kernel
theorem dX11_feed_1 : decode cX11_feed 1 = .ok (.getfield 97, 3) := by decide +kernel
theorem dX11_feed_4 : decode cX11_feed 4 = .ok (.bipush 20, 2) := by decide +kernel
theorem dX11_feed_6 : decode cX11_feed 6 = .ok (.iadd, 1) := by decide +kernel
theorem dX11_feed_7 : decode cX11_feed 7 = .ok (.sipush 400, 3) := by decide +kernel
theorem dX11_feed_10 : decode cX11_feed 10 = .ok (.if_icmp .le 5, 3) := by decide +kernel
theorem dX11_feed_13 : decode cX11_feed 13 = .ok (.iconst (-1), 1) := by decide +kernel
theorem dX11_feed_14 : decode cX11_feed 14 = .ok (.ireturn, 1) := by decide +kernel
theorem dX11_feed_15 : decode cX11_feed 15 = .ok (.aload_n 0, 1) := by decide +kernel
theorem dX11_feed_16 : decode cX11_feed 16 = .ok (.iload_n 1, 1) := by decide +kernel
theorem dX11_feed_17 : decode cX11_feed 17 = .ok (.invokevirtual 101, 3) := by decide +kernel
theorem dX11_feed_20 : decode cX11_feed 20 = .ok (.aload_n 0, 1) := by decide +kernel
theorem dX11_feed_21 : decode cX11_feed 21 = .ok (.iload_n 2, 1) := by decide +kernel
theorem dX11_feed_22 : decode cX11_feed 22 = .ok (.invokevirtual 101, 3) := by decide +kernel
theorem dX11_feed_25 : decode cX11_feed 25 = .ok (.aload_n 0, 1) := by decide +kernel
theorem dX11_feed_26 : decode cX11_feed 26 = .ok (.iload_n 3, 1) := by decide +kernel
theorem dX11_feed_27 : decode cX11_feed 27 = .ok (.invokevirtual 101, 3) := by decide +kernel
theorem dX11_feed_30 : decode cX11_feed 30 = .ok (.aload_n 0, 1) := by decide +kernel
theorem dX11_feed_31 : decode cX11_feed 31 = .ok (.iload 4, 2) := by decide +kernel
theorem dX11_feed_33 : decode cX11_feed 33 = .ok (.invokevirtual 101, 3) := by decide +kernel
theorem dX11_feed_36 : decode cX11_feed 36 = .ok (.aload_n 0, 1) := by decide +kernel
theorem dX11_feed_37 : decode cX11_feed 37 = .ok (.iload 5, 2) := by decide +kernel
theorem dX11_feed_39 : decode cX11_feed 39 = .ok (.invokevirtual 101, 3) := by decide +kernel
theorem dX11_feed_42 : decode cX11_feed 42 = .ok (.aload_n 0, 1) := by decide +kernel
theorem dX11_feed_43 : decode cX11_feed 43 = .ok (.getfield 97, 3) := by decide +kernel
theorem dX11_feed_46 : decode cX11_feed 46 = .ok (.ireturn, 1) := by decide +kernel
def s_X11_feed (o : Nat) (a1 : Int32) (a2 : Int32) (a3 : Int32) (a4 : Int32) (a5 : Int32) (h : aH) : aO :=
  (gI h (.ref o) 11 1).bind fun x1 => if (x1 + 20) ≤ 400 then (kO h o 11 (cN (s_X11_takeFour o a1 h) fun h17 => kO h17 o 11 (cN (s_X11_takeFour o a2 h17) fun h22 => kO h22 o 11 (cN (s_X11_takeFour o a3 h22) fun h27 => kO h27 o 11 (cN (s_X11_takeFour o a4 h27) fun h33 => kO h33 o 11 (cN (s_X11_takeFour o a5 h33) fun h39 => (gI h39 (.ref o) 11 1).bind fun x43 => some (.inl (some (.int x43)), h39))))))) else (some (.inl (some (.int (-1))), h))
section
variable {p : Program} {l : Launch} {e : Env} {s : State} {m : MethodId} {args : Array Value} {below : List Frame} {meth : Method} {c : Code} {D : va_G} {B0 : Nat} {X : Nat → Nat} {ws0 : va_W} {r : aR} {h' : aH} {mc ms : Nat}
theorem hy_X11_feed : yX11_feed.cls ≠ "java/lang/invoke/MethodHandle" ∧ yX11_feed.cls ≠ "java/lang/invoke/VarHandle" ∧ (parseMethodDescriptor yX11_feed.desc).map (fun d => d.parameters.length) = some 5 := by decide +kernel
theorem T_X11_feed (o : Nat) (a1 : Int32) (a2 : Int32) (a3 : Int32) (a4 : Int32) (a5 : Int32) (h : aH) (r : aR) (h' : aH) (hs : s_X11_feed o a1 a2 a3 a4 a5 h = some (r, h')) : Mt yX11_feed (Cond.code yX11_feed cX11_feed 6 (some .int) :: aTB) 1 22 0 0 [.ref o, .int a1, .int a2, .int a3, .int a4, .int a5] h r h' := by
  unfold s_X11_feed at hs
  refine Mt_of (k := 0) (by decide) rfl (fun p l e s m args below meth c D B0 X ws0 C => ?_)
  show Ev p l e { frames := 1, cells := 0, slots := 0, locals := 22 } s m args below meth c D B0 X ws0 r h' 0 0 6 0 0 0 [some (.ref o), some (.int a1), some (.int a2), some (.int a3), some (.int a4), some (.int a5)] [] h
  refine ev_aload_n C (x := .ref o) rfl trivial dX11_feed_0 ?_
  obtain ⟨x1, e1, hs⟩ := aB hs
  refine ev_get C (ci := 11) (k := 1) rfl wu_11 (by decide) wf_X11_97 (gI_F e1) dX11_feed_1 ?_
  refine ev_bipush C (v := 20) dX11_feed_4 (by decide) ?_
  refine ev_iadd C dX11_feed_6 ?_
  refine ev_sipush C (v := 400) dX11_feed_7 (by decide) ?_
  refine ev_icmp_le C (tgt := 15) (by decide) dX11_feed_10 (fun q10 => ?_) (fun q10 => ?_)
  · replace hs := (if_pos q10).symm.trans hs
    refine ev_aload_n C (x := .ref o) rfl trivial dX11_feed_15 ?_
    refine ev_iload_n C rfl dX11_feed_16 ?_
    obtain ⟨eo17, hs⟩ := kO_at hs
    obtain ⟨h17, e17, hs⟩ := cN_at hs
    refine ev_callV C (T_X11_takeFour _ _ _ _ _ e17) (ci := 11) rfl eo17 wc_X11_takeFour wm_X11_101 wi_X11_takeFour ws_X11_takeFour wz_X11 hy_X11_takeFour ⟨(Nat.le_of_ble_eq_true rfl), (Nat.le_of_ble_eq_true rfl)⟩ ⟨(Nat.le_refl _), (Nat.le_refl _)⟩ (Nat.le_of_ble_eq_true rfl) rfl dX11_feed_17 ?_
    refine ev_aload_n C (x := .ref o) rfl trivial dX11_feed_20 ?_
    refine ev_iload_n C rfl dX11_feed_21 ?_
    obtain ⟨eo22, hs⟩ := kO_at hs
    obtain ⟨h22, e22, hs⟩ := cN_at hs
    refine ev_callV C (T_X11_takeFour _ _ _ _ _ e22) (ci := 11) rfl eo22 wc_X11_takeFour wm_X11_101 wi_X11_takeFour ws_X11_takeFour wz_X11 hy_X11_takeFour ⟨(Nat.le_of_ble_eq_true rfl), (Nat.le_of_ble_eq_true rfl)⟩ ⟨(Nat.le_refl _), (Nat.le_refl _)⟩ (Nat.le_of_ble_eq_true rfl) rfl dX11_feed_22 ?_
    refine ev_aload_n C (x := .ref o) rfl trivial dX11_feed_25 ?_
    refine ev_iload_n C rfl dX11_feed_26 ?_
    obtain ⟨eo27, hs⟩ := kO_at hs
    obtain ⟨h27, e27, hs⟩ := cN_at hs
    refine ev_callV C (T_X11_takeFour _ _ _ _ _ e27) (ci := 11) rfl eo27 wc_X11_takeFour wm_X11_101 wi_X11_takeFour ws_X11_takeFour wz_X11 hy_X11_takeFour ⟨(Nat.le_of_ble_eq_true rfl), (Nat.le_of_ble_eq_true rfl)⟩ ⟨(Nat.le_refl _), (Nat.le_refl _)⟩ (Nat.le_of_ble_eq_true rfl) rfl dX11_feed_27 ?_
    refine ev_aload_n C (x := .ref o) rfl trivial dX11_feed_30 ?_
    refine ev_iload C rfl dX11_feed_31 ?_
    obtain ⟨eo33, hs⟩ := kO_at hs
    obtain ⟨h33, e33, hs⟩ := cN_at hs
    refine ev_callV C (T_X11_takeFour _ _ _ _ _ e33) (ci := 11) rfl eo33 wc_X11_takeFour wm_X11_101 wi_X11_takeFour ws_X11_takeFour wz_X11 hy_X11_takeFour ⟨(Nat.le_of_ble_eq_true rfl), (Nat.le_of_ble_eq_true rfl)⟩ ⟨(Nat.le_refl _), (Nat.le_refl _)⟩ (Nat.le_of_ble_eq_true rfl) rfl dX11_feed_33 ?_
    refine ev_aload_n C (x := .ref o) rfl trivial dX11_feed_36 ?_
    refine ev_iload C rfl dX11_feed_37 ?_
    obtain ⟨eo39, hs⟩ := kO_at hs
    obtain ⟨h39, e39, hs⟩ := cN_at hs
    refine ev_callV C (T_X11_takeFour _ _ _ _ _ e39) (ci := 11) rfl eo39 wc_X11_takeFour wm_X11_101 wi_X11_takeFour ws_X11_takeFour wz_X11 hy_X11_takeFour ⟨(Nat.le_of_ble_eq_true rfl), (Nat.le_of_ble_eq_true rfl)⟩ ⟨(Nat.le_refl _), (Nat.le_refl _)⟩ (Nat.le_of_ble_eq_true rfl) rfl dX11_feed_39 ?_
    refine ev_aload_n C (x := .ref o) rfl trivial dX11_feed_42 ?_
    obtain ⟨x43, e43, hs⟩ := aB hs
    refine ev_get C (ci := 11) (k := 1) rfl wu_11 (by decide) wf_X11_97 (gI_F e43) dX11_feed_43 ?_
    cases hs
    exact ev_iret C rfl rfl (Nat.le_refl _) (Nat.le_refl _) rfl dX11_feed_46
  · replace hs := (if_neg q10).symm.trans hs
    refine ev_iconst C (v := (-1)) dX11_feed_13 (by decide) ?_
    cases hs
    exact ev_iret C rfl rfl (Nat.le_refl _) (Nat.le_refl _) rfl dX11_feed_14
end
-- X11_refused
theorem dX11_refused_0 : decode cX11_refused 0 = .ok (.aload_n 0, 1) := by decide +kernel
theorem dX11_refused_1 : decode cX11_refused 1 = .ok (.iload_n 1, 1) := by decide +kernel
theorem dX11_refused_2 : decode cX11_refused 2 = .ok (.putfield 167, 3) := by decide +kernel
theorem dX11_refused_5 : decode cX11_refused 5 = .ok (.iconst (-1), 1) := by decide +kernel
theorem dX11_refused_6 : decode cX11_refused 6 = .ok (.ireturn, 1) := by decide +kernel
def s_X11_refused (o : Nat) (a1 : Int32) (h : aH) : aO :=
  (pF h (.ref o) 11 3 (.int a1)).bind fun h2 => some (.inl (some (.int (-1))), h2)
section
variable {p : Program} {l : Launch} {e : Env} {s : State} {m : MethodId} {args : Array Value} {below : List Frame} {meth : Method} {c : Code} {D : va_G} {B0 : Nat} {X : Nat → Nat} {ws0 : va_W} {r : aR} {h' : aH} {mc ms : Nat}
theorem hy_X11_refused : yX11_refused.cls ≠ "java/lang/invoke/MethodHandle" ∧ yX11_refused.cls ≠ "java/lang/invoke/VarHandle" ∧ (parseMethodDescriptor yX11_refused.desc).map (fun d => d.parameters.length) = some 1 := by decide +kernel
theorem T_X11_refused (o : Nat) (a1 : Int32) (h : aH) (r : aR) (h' : aH) (hs : s_X11_refused o a1 h = some (r, h')) : Mt yX11_refused (Cond.code yX11_refused cX11_refused 2 (some .int) :: aTB) 0 0 0 0 [.ref o, .int a1] h r h' := by
  unfold s_X11_refused at hs
  refine Mt_of (k := 0) (by decide) rfl (fun p l e s m args below meth c D B0 X ws0 C => ?_)
  show Ev p l e { frames := 0, cells := 0, slots := 0, locals := 0 } s m args below meth c D B0 X ws0 r h' 0 0 2 0 0 0 [some (.ref o), some (.int a1)] [] h
  refine ev_aload_n C (x := .ref o) rfl trivial dX11_refused_0 ?_
  refine ev_iload_n C rfl dX11_refused_1 ?_
  obtain ⟨h2, e2, hs⟩ := aB hs
  refine ev_put C (ci := 11) (k := 3) rfl wu_11 (by decide) tyX11 tyX11_ok nmX11 wf_X11_167 rfl trivial e2 dX11_refused_2 ?_
  refine ev_iconst C (v := (-1)) dX11_refused_5 (by decide) ?_
  cases hs
  exact ev_iret C rfl rfl (Nat.le_refl _) (Nat.le_refl _) rfl dX11_refused_6
end
-- X11_settled
theorem dX11_settled_0 : decode cX11_settled 0 = .ok (.aload_n 0, 1) := by decide +kernel
theorem dX11_settled_1 : decode cX11_settled 1 = .ok (.iconst 0, 1) := by decide +kernel
theorem dX11_settled_2 : decode cX11_settled 2 = .ok (.putfield 97, 3) := by decide +kernel
theorem dX11_settled_5 : decode cX11_settled 5 = .ok (.aload_n 0, 1) := by decide +kernel
theorem dX11_settled_6 : decode cX11_settled 6 = .ok (.iload_n 1, 1) := by decide +kernel
theorem dX11_settled_7 : decode cX11_settled 7 = .ok (.ifCond .eq 7, 3) := by decide +kernel
theorem dX11_settled_10 : decode cX11_settled 10 = .ok (.iconst 0, 1) := by decide +kernel
theorem dX11_settled_11 : decode cX11_settled 11 = .ok (.goto 10, 3) := by decide +kernel
theorem dX11_settled_14 : decode cX11_settled 14 = .ok (.aload_n 0, 1) := by decide +kernel
theorem dX11_settled_15 : decode cX11_settled 15 = .ok (.getfield 38, 3) := by decide +kernel
theorem dX11_settled_18 : decode cX11_settled 18 = .ok (.getfield 381, 3) := by decide +kernel
theorem dX11_settled_21 : decode cX11_settled 21 = .ok (.putfield 164, 3) := by decide +kernel
theorem dX11_settled_24 : decode cX11_settled 24 = .ok (.aload_n 0, 1) := by decide +kernel
theorem dX11_settled_25 : decode cX11_settled 25 = .ok (.iload_n 1, 1) := by decide +kernel
theorem dX11_settled_26 : decode cX11_settled 26 = .ok (.ifCond .eq 7, 3) := by decide +kernel
theorem dX11_settled_29 : decode cX11_settled 29 = .ok (.iconst (-1), 1) := by decide +kernel
theorem dX11_settled_30 : decode cX11_settled 30 = .ok (.goto 10, 3) := by decide +kernel
theorem dX11_settled_33 : decode cX11_settled 33 = .ok (.aload_n 0, 1) := by decide +kernel
theorem dX11_settled_34 : decode cX11_settled 34 = .ok (.getfield 38, 3) := by decide +kernel
theorem dX11_settled_37 : decode cX11_settled 37 = .ok (.getfield 382, 3) := by decide +kernel
theorem dX11_settled_40 : decode cX11_settled 40 = .ok (.putfield 170, 3) := by decide +kernel
theorem dX11_settled_43 : decode cX11_settled 43 = .ok (.aload_n 0, 1) := by decide +kernel
theorem dX11_settled_44 : decode cX11_settled 44 = .ok (.iload_n 1, 1) := by decide +kernel
theorem dX11_settled_45 : decode cX11_settled 45 = .ok (.ifCond .eq 7, 3) := by decide +kernel
theorem dX11_settled_48 : decode cX11_settled 48 = .ok (.iconst 0, 1) := by decide +kernel
theorem dX11_settled_49 : decode cX11_settled 49 = .ok (.goto 4, 3) := by decide +kernel
theorem dX11_settled_52 : decode cX11_settled 52 = .ok (.iconst 4, 1) := by decide +kernel
theorem dX11_settled_53 : decode cX11_settled 53 = .ok (.putfield 167, 3) := by decide +kernel
theorem dX11_settled_56 : decode cX11_settled 56 = .ok (.iload_n 1, 1) := by decide +kernel
theorem dX11_settled_57 : decode cX11_settled 57 = .ok (.ireturn, 1) := by decide +kernel
def s_X11_settled_53  (l1 : Int32) (s0 : Int32) (s1 : Nat) (h : aH) : aO :=
  (pF h (.ref s1) 11 3 (.int s0)).bind fun h53 => rtZ l1 h53
def s_X11_settled_40  (l0 : Nat) (l1 : Int32) (s0 : Int32) (s1 : Nat) (h : aH) : aO :=
  (pF h (.ref s1) 11 5 (.int s0)).bind fun h40 => if l1 = 0 then (s_X11_settled_53 l1 4 l0 h40) else (s_X11_settled_53 l1 0 l0 h40)
def s_X11_settled_21  (l0 : Nat) (l1 : Int32) (s0 : Int32) (s1 : Nat) (h : aH) : aO :=
  (pF h (.ref s1) 11 4 (.int s0)).bind fun h21 => if l1 = 0 then ((gO h21 (.ref l0) 11 10).bind fun x34 => (gI h21 (.ref x34) 6 1).bind fun x37 => s_X11_settled_40 l0 l1 x37 l0 h21) else (s_X11_settled_40 l0 l1 (-1) l0 h21)
def s_X11_settled (o : Nat) (a1 : Int32) (h : aH) : aO :=
  (pF h (.ref o) 11 1 (.int 0)).bind fun h2 => if a1 = 0 then ((gO h2 (.ref o) 11 10).bind fun x15 => (gI h2 (.ref x15) 6 0).bind fun x18 => s_X11_settled_21 o a1 x18 o h2) else (s_X11_settled_21 o a1 0 o h2)
section
variable {p : Program} {l : Launch} {e : Env} {s : State} {m : MethodId} {args : Array Value} {below : List Frame} {meth : Method} {c : Code} {D : va_G} {B0 : Nat} {X : Nat → Nat} {ws0 : va_W} {r : aR} {h' : aH} {mc ms : Nat}
theorem t_X11_settled_53 (C : Cx p l s m args meth c B0 X RX11 "settled" cX11_settled 2 (some .boolean) [])   {l1 : Int32} {s0 : Int32} {s1 : Nat} {h : aH} (hs : s_X11_settled_53  l1 s0 s1 h = some (r, h')) : Ev p l e { frames := 0, cells := mc, slots := ms, locals := 0 } s m args below meth c D B0 X ws0 r h' mc ms 2 mc ms 53 [none, some (.int l1)] [.int s0, .ref s1] h := by
  unfold s_X11_settled_53 at hs
  obtain ⟨h53, e53, hs⟩ := aB hs
  refine ev_put C (ci := 11) (k := 3) rfl wu_11 (by decide) tyX11 tyX11_ok nmX11 wf_X11_167 rfl trivial e53 dX11_settled_53 ?_
  refine ev_iload_n C rfl dX11_settled_56 ?_
  obtain ⟨hz, rfl, rfl⟩ := rtZ_at hs
  exact ev_zret C rfl hz rfl (Nat.le_refl _) (Nat.le_refl _) rfl dX11_settled_57
theorem t_X11_settled_40 (C : Cx p l s m args meth c B0 X RX11 "settled" cX11_settled 2 (some .boolean) [])   {l0 : Nat} {l1 : Int32} {s0 : Int32} {s1 : Nat} {h : aH} (hs : s_X11_settled_40  l0 l1 s0 s1 h = some (r, h')) : Ev p l e { frames := 0, cells := mc, slots := ms, locals := 0 } s m args below meth c D B0 X ws0 r h' mc ms 2 mc ms 40 [some (.ref l0), some (.int l1)] [.int s0, .ref s1] h := by
  unfold s_X11_settled_40 at hs
  obtain ⟨h40, e40, hs⟩ := aB hs
  refine ev_put C (ci := 11) (k := 5) rfl wu_11 (by decide) tyX11 tyX11_ok nmX11 wf_X11_170 rfl trivial e40 dX11_settled_40 ?_
  refine ev_aload_n C (x := .ref l0) rfl trivial dX11_settled_43 ?_
  refine ev_iload_n C rfl dX11_settled_44 ?_
  refine ev_if_eq C (tgt := 52) (by decide) dX11_settled_45 (fun q45 => ?_) (fun q45 => ?_)
  · replace hs := (if_pos q45).symm.trans hs
    refine ev_iconst C (v := 4) dX11_settled_52 (by decide) ?_
    exact Ev.keep [false, true] (t_X11_settled_53 C  hs)
  · replace hs := (if_neg q45).symm.trans hs
    refine ev_iconst C (v := 0) dX11_settled_48 (by decide) ?_
    refine ev_goto C (tgt := 53) (by decide) dX11_settled_49 ?_
    exact Ev.keep [false, true] (t_X11_settled_53 C  hs)
theorem t_X11_settled_21 (C : Cx p l s m args meth c B0 X RX11 "settled" cX11_settled 2 (some .boolean) [])   {l0 : Nat} {l1 : Int32} {s0 : Int32} {s1 : Nat} {h : aH} (hs : s_X11_settled_21  l0 l1 s0 s1 h = some (r, h')) : Ev p l e { frames := 0, cells := mc, slots := ms, locals := 0 } s m args below meth c D B0 X ws0 r h' mc ms 2 mc ms 21 [some (.ref l0), some (.int l1)] [.int s0, .ref s1] h := by
  unfold s_X11_settled_21 at hs
  obtain ⟨h21, e21, hs⟩ := aB hs
  refine ev_put C (ci := 11) (k := 4) rfl wu_11 (by decide) tyX11 tyX11_ok nmX11 wf_X11_164 rfl trivial e21 dX11_settled_21 ?_
  refine ev_aload_n C (x := .ref l0) rfl trivial dX11_settled_24 ?_
  refine ev_iload_n C rfl dX11_settled_25 ?_
  refine ev_if_eq C (tgt := 33) (by decide) dX11_settled_26 (fun q26 => ?_) (fun q26 => ?_)
  · replace hs := (if_pos q26).symm.trans hs
    refine ev_aload_n C (x := .ref l0) rfl trivial dX11_settled_33 ?_
    obtain ⟨x34, e34, hs⟩ := aB hs
    refine ev_get C (ci := 11) (k := 10) rfl wu_11 (by decide) wf_X11_38 (gO_F e34) dX11_settled_34 ?_
    obtain ⟨x37, e37, hs⟩ := aB hs
    refine ev_getN C (ci := 6) (k := 1) rfl wu_6 (by decide) wg_X11_382 (gI_F e37) dX11_settled_37 ?_
    exact (t_X11_settled_40 C  hs)
  · replace hs := (if_neg q26).symm.trans hs
    refine ev_iconst C (v := (-1)) dX11_settled_29 (by decide) ?_
    refine ev_goto C (tgt := 40) (by decide) dX11_settled_30 ?_
    exact (t_X11_settled_40 C  hs)
theorem hy_X11_settled : yX11_settled.cls ≠ "java/lang/invoke/MethodHandle" ∧ yX11_settled.cls ≠ "java/lang/invoke/VarHandle" ∧ (parseMethodDescriptor yX11_settled.desc).map (fun d => d.parameters.length) = some 1 := by decide +kernel
theorem T_X11_settled (o : Nat) (a1 : Int32) (h : aH) (r : aR) (h' : aH) (hs : s_X11_settled o a1 h = some (r, h')) : Mt yX11_settled (Cond.code yX11_settled cX11_settled 2 (some .boolean) :: aTB) 0 0 0 0 [.ref o, .int a1] h r h' := by
  unfold s_X11_settled at hs
  refine Mt_of (k := 0) (by decide) rfl (fun p l e s m args below meth c D B0 X ws0 C => ?_)
  show Ev p l e { frames := 0, cells := 0, slots := 0, locals := 0 } s m args below meth c D B0 X ws0 r h' 0 0 2 0 0 0 [some (.ref o), some (.int a1)] [] h
  refine ev_aload_n C (x := .ref o) rfl trivial dX11_settled_0 ?_
  refine ev_iconst C (v := 0) dX11_settled_1 (by decide) ?_
  obtain ⟨h2, e2, hs⟩ := aB hs
  refine ev_put C (ci := 11) (k := 1) rfl wu_11 (by decide) tyX11 tyX11_ok nmX11 wf_X11_97 rfl trivial e2 dX11_settled_2 ?_
  refine ev_aload_n C (x := .ref o) rfl trivial dX11_settled_5 ?_
  refine ev_iload_n C rfl dX11_settled_6 ?_
  refine ev_if_eq C (tgt := 14) (by decide) dX11_settled_7 (fun q7 => ?_) (fun q7 => ?_)
  · replace hs := (if_pos q7).symm.trans hs
    refine ev_aload_n C (x := .ref o) rfl trivial dX11_settled_14 ?_
    obtain ⟨x15, e15, hs⟩ := aB hs
    refine ev_get C (ci := 11) (k := 10) rfl wu_11 (by decide) wf_X11_38 (gO_F e15) dX11_settled_15 ?_
    obtain ⟨x18, e18, hs⟩ := aB hs
    refine ev_getN C (ci := 6) (k := 0) rfl wu_6 (by decide) wg_X11_381 (gI_F e18) dX11_settled_18 ?_
    exact (t_X11_settled_21 C  hs)
  · replace hs := (if_neg q7).symm.trans hs
    refine ev_iconst C (v := 0) dX11_settled_10 (by decide) ?_
    refine ev_goto C (tgt := 21) (by decide) dX11_settled_11 ?_
    exact (t_X11_settled_21 C  hs)
end
-- X11_thing
theorem dX11_thing_0 : decode cX11_thing 0 = .ok (.iload_n 1, 1) := by decide +kernel
theorem dX11_thing_1 : decode cX11_thing 1 = .ok (.ifCond .lt 11, 3) := by decide +kernel
theorem dX11_thing_4 : decode cX11_thing 4 = .ok (.iload_n 1, 1) := by decide +kernel
theorem dX11_thing_5 : decode cX11_thing 5 = .ok (.aload_n 0, 1) := by decide +kernel
theorem dX11_thing_6 : decode cX11_thing 6 = .ok (.getfield 97, 3) := by decide +kernel
theorem dX11_thing_9 : decode cX11_thing 9 = .ok (.if_icmp .le 9, 3) := by decide +kernel
theorem dX11_thing_12 : decode cX11_thing 12 = .ok (.aload_n 0, 1) := by decide +kernel
theorem dX11_thing_13 : decode cX11_thing 13 = .ok (.iconst 2, 1) := by decide +kernel
theorem dX11_thing_14 : decode cX11_thing 14 = .ok (.invokevirtual 105, 3) := by decide +kernel
theorem dX11_thing_17 : decode cX11_thing 17 = .ok (.ireturn, 1) := by decide +kernel
theorem dX11_thing_18 : decode cX11_thing 18 = .ok (.aload_n 0, 1) := by decide +kernel
theorem dX11_thing_19 : decode cX11_thing 19 = .ok (.getfield 38, 3) := by decide +kernel
theorem dX11_thing_22 : decode cX11_thing 22 = .ok (.aload_n 0, 1) := by decide +kernel
theorem dX11_thing_23 : decode cX11_thing 23 = .ok (.getfield 9, 3) := by decide +kernel
theorem dX11_thing_26 : decode cX11_thing 26 = .ok (.iload_n 1, 1) := by decide +kernel
theorem dX11_thing_27 : decode cX11_thing 27 = .ok (.aload_n 0, 1) := by decide +kernel
theorem dX11_thing_28 : decode cX11_thing 28 = .ok (.getfield 23, 3) := by decide +kernel
theorem dX11_thing_31 : decode cX11_thing 31 = .ok (.invokevirtual 109, 3) := by decide +kernel
theorem dX11_thing_34 : decode cX11_thing 34 = .ok (.istore_n 2, 1) := by decide +kernel
theorem dX11_thing_35 : decode cX11_thing 35 = .ok (.aload_n 0, 1) := by decide +kernel
theorem dX11_thing_36 : decode cX11_thing 36 = .ok (.iload_n 2, 1) := by decide +kernel
theorem dX11_thing_37 : decode cX11_thing 37 = .ok (.invokevirtual 113, 3) := by decide +kernel
theorem dX11_thing_40 : decode cX11_thing 40 = .ok (.ifCond .ne 5, 3) := by decide +kernel
theorem dX11_thing_43 : decode cX11_thing 43 = .ok (.iconst (-1), 1) := by decide +kernel
theorem dX11_thing_44 : decode cX11_thing 44 = .ok (.ireturn, 1) := by decide +kernel
theorem dX11_thing_45 : decode cX11_thing 45 = .ok (.aload_n 0, 1) := by decide +kernel
theorem dX11_thing_46 : decode cX11_thing 46 = .ok (.getfield 19, 3) := by decide +kernel
theorem dX11_thing_49 : decode cX11_thing 49 = .ok (.aload_n 0, 1) := by decide +kernel
theorem dX11_thing_50 : decode cX11_thing 50 = .ok (.getfield 23, 3) := by decide +kernel
theorem dX11_thing_53 : decode cX11_thing 53 = .ok (.invokevirtual 117, 3) := by decide +kernel
theorem dX11_thing_56 : decode cX11_thing 56 = .ok (.aload_n 0, 1) := by decide +kernel
theorem dX11_thing_57 : decode cX11_thing 57 = .ok (.iconst 1, 1) := by decide +kernel
theorem dX11_thing_58 : decode cX11_thing 58 = .ok (.putfield 120, 3) := by decide +kernel
theorem dX11_thing_61 : decode cX11_thing 61 = .ok (.aload_n 0, 1) := by decide +kernel
theorem dX11_thing_62 : decode cX11_thing 62 = .ok (.getfield 45, 3) := by decide +kernel
theorem dX11_thing_65 : decode cX11_thing 65 = .ok (.invokevirtual 124, 3) := by decide +kernel
theorem dX11_thing_68 : decode cX11_thing 68 = .ok (.aload_n 0, 1) := by decide +kernel
theorem dX11_thing_69 : decode cX11_thing 69 = .ok (.getfield 54, 3) := by decide +kernel
theorem dX11_thing_72 : decode cX11_thing 72 = .ok (.invokevirtual 127, 3) := by decide +kernel
theorem dX11_thing_75 : decode cX11_thing 75 = .ok (.aload_n 0, 1) := by decide +kernel
theorem dX11_thing_76 : decode cX11_thing 76 = .ok (.getfield 93, 3) := by decide +kernel
theorem dX11_thing_79 : decode cX11_thing 79 = .ok (.invokevirtual 130, 3) := by decide +kernel
theorem dX11_thing_82 : decode cX11_thing 82 = .ok (.aload_n 0, 1) := by decide +kernel
theorem dX11_thing_83 : decode cX11_thing 83 = .ok (.getfield 77, 3) := by decide +kernel
theorem dX11_thing_86 : decode cX11_thing 86 = .ok (.invokevirtual 131, 3) := by decide +kernel
theorem dX11_thing_89 : decode cX11_thing 89 = .ok (.aload_n 0, 1) := by decide +kernel
theorem dX11_thing_90 : decode cX11_thing 90 = .ok (.getfield 84, 3) := by decide +kernel
theorem dX11_thing_93 : decode cX11_thing 93 = .ok (.invokevirtual 132, 3) := by decide +kernel
theorem dX11_thing_96 : decode cX11_thing 96 = .ok (.aload_n 0, 1) := by decide +kernel
theorem dX11_thing_97 : decode cX11_thing 97 = .ok (.getfield 63, 3) := by decide +kernel
theorem dX11_thing_100 : decode cX11_thing 100 = .ok (.invokevirtual 133, 3) := by decide +kernel
theorem dX11_thing_103 : decode cX11_thing 103 = .ok (.aload_n 0, 1) := by decide +kernel
theorem dX11_thing_104 : decode cX11_thing 104 = .ok (.getfield 70, 3) := by decide +kernel
theorem dX11_thing_107 : decode cX11_thing 107 = .ok (.invokevirtual 134, 3) := by decide +kernel
theorem dX11_thing_110 : decode cX11_thing 110 = .ok (.aload_n 0, 1) := by decide +kernel
theorem dX11_thing_111 : decode cX11_thing 111 = .ok (.getfield 19, 3) := by decide +kernel
theorem dX11_thing_114 : decode cX11_thing 114 = .ok (.getfield 135, 3) := by decide +kernel
theorem dX11_thing_117 : decode cX11_thing 117 = .ok (.ireturn, 1) := by decide +kernel
def s_X11_thing_12  (l0 : Nat) (h : aH) (c9 z9 : Nat) : aP :=
  wC c9 z9 (kO h l0 11 (cI (s_X11_refused l0 2 h) fun x14 h14 => some (.inl (some (.int x14)), h14)))
def s_X11_thing (o : Nat) (a1 : Int32) (h : aH) : aP :=
  if a1 < 0 then (s_X11_thing_12 o h 0 0) else ((gI h (.ref o) 11 1).bind fun x6 => if a1 ≤ x6 then ((gO h (.ref o) 11 10).bind fun x19 => (gO h (.ref o) 11 0).bind fun x23 => (gO h (.ref o) 11 8).bind fun x28 => kO h x19 6 (cI (s_X6_readThing x19 x23 a1 x28 h) fun x31 h31 => ck 0 0 (kO h31 o 11 (cI (s_X11_settled o x31 h31) fun x37 h37 => ck 0 0 (if x37 = 0 then (wC 0 0 (some (.inl (some (.int (-1))), h37))) else ((gO h37 (.ref o) 11 7).bind fun x46 => (gO h37 (.ref o) 11 8).bind fun x50 => kO h37 x46 2 (cN (s_X2_take x46 x50 h37) fun h53 => ck 0 0 ((pZ h53 (.ref o) 11 2 1).bind fun h58 => (gO h58 (.ref o) 11 11).bind fun x62 => kO h58 x62 3 (cN (s_X3_forget x62 h58) fun h65 => ck 0 0 ((gO h65 (.ref o) 11 12).bind fun x69 => kO h65 x69 10 (dN (s_X10_renew x69 h65) fun h72 n72 y72 => ck (0 + n72) (0 + y72) (wC (0 + n72) (0 + y72) ((gO h72 (.ref o) 11 17).bind fun x76 => kO h72 x76 5 (cN (s_X5_renew x76 h72) fun h79 => (gO h79 (.ref o) 11 15).bind fun x83 => kO h79 x83 1 (cN (s_X1_forget x83 h79) fun h86 => (gO h86 (.ref o) 11 16).bind fun x90 => kO h86 x90 9 (cN (s_X9_renew x90 h86) fun h93 => (gO h93 (.ref o) 11 13).bind fun x97 => kO h93 x97 7 (cN (s_X7_forget x97 h93) fun h100 => (gO h100 (.ref o) 11 14).bind fun x104 => kO h100 x104 4 (cN (s_X4_forget x104 h100) fun h107 => (gO h107 (.ref o) 11 7).bind fun x111 => (gI h107 (.ref x111) 2 12).bind fun x114 => some (.inl (some (.int x114)), h107))))))))))))))))))) else (s_X11_thing_12 o h 0 0))
section
variable {p : Program} {l : Launch} {e : Env} {s : State} {m : MethodId} {args : Array Value} {below : List Frame} {meth : Method} {c : Code} {D : va_G} {B0 : Nat} {X : Nat → Nat} {ws0 : va_W} {r : aR} {h' : aH} {mc ms : Nat}
theorem t_X11_thing_12 (C : Cx p l s m args meth c B0 X RX11 "thing" cX11_thing 3 (some .int) [])   {l0 : Nat} {h : aH} {c9 z9 : Nat} (hs : s_X11_thing_12  l0 h c9 z9 = some (r, h', mc, ms)) : Ev p l e { frames := 7, cells := mc, slots := ms, locals := 164 } s m args below meth c D B0 X ws0 r h' mc ms 3 c9 z9 12 [some (.ref l0), none, none] [] h := by
  unfold s_X11_thing_12 at hs
  obtain ⟨hw9, rfl, rfl⟩ := wC_at hs
  have hs := hw9
  refine ev_aload_n C (x := .ref l0) rfl trivial dX11_thing_12 ?_
  refine ev_iconst C (v := 2) dX11_thing_13 (by decide) ?_
  obtain ⟨eo14, hs⟩ := kO_at hs
  obtain ⟨x14, h14, e14, hs⟩ := cI_at hs
  refine ev_callV C (T_X11_refused _ _ _ _ _ e14) (ci := 11) rfl eo14 wc_X11_refused wm_X11_105 wi_X11_refused ws_X11_refused wz_X11 hy_X11_refused ⟨(Nat.le_of_ble_eq_true rfl), (Nat.le_of_ble_eq_true rfl)⟩ ⟨(Nat.le_refl _), (Nat.le_refl _)⟩ (Nat.le_of_ble_eq_true rfl) rfl dX11_thing_14 ?_
  cases hs
  exact ev_iret C rfl rfl (Nat.le_refl _) (Nat.le_refl _) rfl dX11_thing_17
theorem hy_X11_thing : yX11_thing.cls ≠ "java/lang/invoke/MethodHandle" ∧ yX11_thing.cls ≠ "java/lang/invoke/VarHandle" ∧ (parseMethodDescriptor yX11_thing.desc).map (fun d => d.parameters.length) = some 1 := by decide +kernel
theorem T_X11_thing (o : Nat) (a1 : Int32) (h : aH) (r : aR) (h' : aH) (mc ms : Nat) (hs : s_X11_thing o a1 h = some (r, h', mc, ms)) : Mt yX11_thing (Cond.code yX11_thing cX11_thing 3 (some .int) :: aTB) 7 164 mc ms [.ref o, .int a1] h r h' := by
  unfold s_X11_thing at hs
  refine Mt_of (k := 1) (by decide) rfl (fun p l e s m args below meth c D B0 X ws0 C => ?_)
  show Ev p l e { frames := 7, cells := mc, slots := ms, locals := 164 } s m args below meth c D B0 X ws0 r h' mc ms 3 0 0 0 [some (.ref o), some (.int a1), none] [] h
  refine ev_iload_n C rfl dX11_thing_0 ?_
  refine ev_if_lt C (tgt := 12) (by decide) dX11_thing_1 (fun q1 => ?_) (fun q1 => ?_)
  · replace hs := (if_pos q1).symm.trans hs
    exact Ev.keep [true, false, true] (t_X11_thing_12 C  hs)
  · replace hs := (if_neg q1).symm.trans hs
    refine ev_iload_n C rfl dX11_thing_4 ?_
    refine ev_aload_n C (x := .ref o) rfl trivial dX11_thing_5 ?_
    obtain ⟨x6, e6, hs⟩ := aB hs
    refine ev_get C (ci := 11) (k := 1) rfl wu_11 (by decide) wf_X11_97 (gI_F e6) dX11_thing_6 ?_
    refine ev_icmp_le C (tgt := 18) (by decide) dX11_thing_9 (fun q9 => ?_) (fun q9 => ?_)
    · replace hs := (if_pos q9).symm.trans hs
      refine ev_aload_n C (x := .ref o) rfl trivial dX11_thing_18 ?_
      obtain ⟨x19, e19, hs⟩ := aB hs
      refine ev_get C (ci := 11) (k := 10) rfl wu_11 (by decide) wf_X11_38 (gO_F e19) dX11_thing_19 ?_
      refine ev_aload_n C (x := .ref o) rfl trivial dX11_thing_22 ?_
      obtain ⟨x23, e23, hs⟩ := aB hs
      refine ev_get C (ci := 11) (k := 0) rfl wu_11 (by decide) wf_X11_9 (gO_F e23) dX11_thing_23 ?_
      refine ev_iload_n C rfl dX11_thing_26 ?_
      refine ev_aload_n C (x := .ref o) rfl trivial dX11_thing_27 ?_
      obtain ⟨x28, e28, hs⟩ := aB hs
      refine ev_get C (ci := 11) (k := 8) rfl wu_11 (by decide) wf_X11_23 (gO_F e28) dX11_thing_28 ?_
      obtain ⟨eo31, hs⟩ := kO_at hs
      obtain ⟨x31, h31, e31, hs⟩ := cI_at hs
      obtain ⟨c31, z31, hs⟩ := ck_at hs
      refine ev_callVN C (T_X6_readThing _ _ _ _ _ _ _ e31) (ci := 6) rfl eo31 wc_X6_readThing wn_X11_109 wi_X6_readThing ws_X6_readThing wz_X6 hy_X6_readThing ⟨(Nat.le_of_ble_eq_true rfl), (Nat.le_of_ble_eq_true rfl)⟩ ⟨c31, z31⟩ (Nat.le_of_ble_eq_true rfl) rfl dX11_thing_31 ?_
      refine ev_istore_n C (by decide) dX11_thing_34 ?_
      refine ev_aload_n C (x := .ref o) rfl trivial dX11_thing_35 ?_
      refine ev_iload_n C rfl dX11_thing_36 ?_
      obtain ⟨eo37, hs⟩ := kO_at hs
      obtain ⟨x37, h37, e37, hs⟩ := cI_at hs
      obtain ⟨c37, z37, hs⟩ := ck_at hs
      refine ev_callV C (T_X11_settled _ _ _ _ _ e37) (ci := 11) rfl eo37 wc_X11_settled wm_X11_113 wi_X11_settled ws_X11_settled wz_X11 hy_X11_settled ⟨(Nat.le_of_ble_eq_true rfl), (Nat.le_of_ble_eq_true rfl)⟩ ⟨c37, z37⟩ (Nat.le_of_ble_eq_true rfl) rfl dX11_thing_37 ?_
      refine ev_if_ne C (tgt := 45) (by decide) dX11_thing_40 (fun q40 => ?_) (fun q40 => ?_)
      · replace hs := (if_neg q40).symm.trans hs
        refine ev_aload_n C (x := .ref o) rfl trivial dX11_thing_45 ?_
        obtain ⟨x46, e46, hs⟩ := aB hs
        refine ev_get C (ci := 11) (k := 7) rfl wu_11 (by decide) wf_X11_19 (gO_F e46) dX11_thing_46 ?_
        refine ev_aload_n C (x := .ref o) rfl trivial dX11_thing_49 ?_
        obtain ⟨x50, e50, hs⟩ := aB hs
        refine ev_get C (ci := 11) (k := 8) rfl wu_11 (by decide) wf_X11_23 (gO_F e50) dX11_thing_50 ?_
        obtain ⟨eo53, hs⟩ := kO_at hs
        obtain ⟨h53, e53, hs⟩ := cN_at hs
        obtain ⟨c53, z53, hs⟩ := ck_at hs
        refine ev_callVN C (T_X2_take _ _ _ _ _ e53) (ci := 2) rfl eo53 wc_X2_take wn_X11_117 wi_X2_take ws_X2_take wz_X2 hy_X2_take ⟨(Nat.le_of_ble_eq_true rfl), (Nat.le_of_ble_eq_true rfl)⟩ ⟨c53, z53⟩ (Nat.le_of_ble_eq_true rfl) rfl dX11_thing_53 ?_
        refine ev_aload_n C (x := .ref o) rfl trivial dX11_thing_56 ?_
        refine ev_iconst C (v := 1) dX11_thing_57 (by decide) ?_
        obtain ⟨h58, e58, hs⟩ := aB hs
        refine ev_put C (ci := 11) (k := 2) rfl wu_11 (by decide) tyX11 tyX11_ok nmX11 wf_X11_120 rfl (pZ_F e58).2 (pZ_F e58).1 dX11_thing_58 ?_
        refine ev_aload_n C (x := .ref o) rfl trivial dX11_thing_61 ?_
        obtain ⟨x62, e62, hs⟩ := aB hs
        refine ev_get C (ci := 11) (k := 11) rfl wu_11 (by decide) wf_X11_45 (gO_F e62) dX11_thing_62 ?_
        obtain ⟨eo65, hs⟩ := kO_at hs
        obtain ⟨h65, e65, hs⟩ := cN_at hs
        obtain ⟨c65, z65, hs⟩ := ck_at hs
        refine ev_callVN C (T_X3_forget _ _ _ _ e65) (ci := 3) rfl eo65 wc_X3_forget wn_X11_124 wi_X3_forget ws_X3_forget wz_X3 hy_X3_forget ⟨(Nat.le_of_ble_eq_true rfl), (Nat.le_of_ble_eq_true rfl)⟩ ⟨c65, z65⟩ (Nat.le_of_ble_eq_true rfl) rfl dX11_thing_65 ?_
        refine ev_aload_n C (x := .ref o) rfl trivial dX11_thing_68 ?_
        obtain ⟨x69, e69, hs⟩ := aB hs
        refine ev_get C (ci := 11) (k := 12) rfl wu_11 (by decide) wf_X11_54 (gO_F e69) dX11_thing_69 ?_
        obtain ⟨eo72, hs⟩ := kO_at hs
        obtain ⟨h72, n72, y72, e72, hs⟩ := dN_at hs
        obtain ⟨c72, z72, hs⟩ := ck_at hs
        refine ev_callVN C (T_X10_renew _ _ _ _ _ _ e72) (ci := 10) rfl eo72 wc_X10_renew wn_X11_127 wi_X10_renew ws_X10_renew wz_X10 hy_X10_renew ⟨(Nat.le_of_ble_eq_true rfl), (Nat.le_of_ble_eq_true rfl)⟩ ⟨c72, z72⟩ (Nat.le_of_ble_eq_true rfl) rfl dX11_thing_72 ?_
        obtain ⟨hw9, rfl, rfl⟩ := wC_at hs
        have hs := hw9
        refine ev_aload_n C (x := .ref o) rfl trivial dX11_thing_75 ?_
        obtain ⟨x76, e76, hs⟩ := aB hs
        refine ev_get C (ci := 11) (k := 17) rfl wu_11 (by decide) wf_X11_93 (gO_F e76) dX11_thing_76 ?_
        obtain ⟨eo79, hs⟩ := kO_at hs
        obtain ⟨h79, e79, hs⟩ := cN_at hs
        refine ev_callVN C (T_X5_renew _ _ _ _ e79) (ci := 5) rfl eo79 wc_X5_renew wn_X11_130 wi_X5_renew ws_X5_renew wz_X5 hy_X5_renew ⟨(Nat.le_of_ble_eq_true rfl), (Nat.le_of_ble_eq_true rfl)⟩ ⟨(Nat.le_refl _), (Nat.le_refl _)⟩ (Nat.le_of_ble_eq_true rfl) rfl dX11_thing_79 ?_
        refine ev_aload_n C (x := .ref o) rfl trivial dX11_thing_82 ?_
        obtain ⟨x83, e83, hs⟩ := aB hs
        refine ev_get C (ci := 11) (k := 15) rfl wu_11 (by decide) wf_X11_77 (gO_F e83) dX11_thing_83 ?_
        obtain ⟨eo86, hs⟩ := kO_at hs
        obtain ⟨h86, e86, hs⟩ := cN_at hs
        refine ev_callVN C (T_X1_forget _ _ _ _ e86) (ci := 1) rfl eo86 wc_X1_forget wn_X11_131 wi_X1_forget ws_X1_forget wz_X1 hy_X1_forget ⟨(Nat.le_of_ble_eq_true rfl), (Nat.le_of_ble_eq_true rfl)⟩ ⟨(Nat.le_refl _), (Nat.le_refl _)⟩ (Nat.le_of_ble_eq_true rfl) rfl dX11_thing_86 ?_
        refine ev_aload_n C (x := .ref o) rfl trivial dX11_thing_89 ?_
        obtain ⟨x90, e90, hs⟩ := aB hs
        refine ev_get C (ci := 11) (k := 16) rfl wu_11 (by decide) wf_X11_84 (gO_F e90) dX11_thing_90 ?_
        obtain ⟨eo93, hs⟩ := kO_at hs
        obtain ⟨h93, e93, hs⟩ := cN_at hs
        refine ev_callVN C (T_X9_renew _ _ _ _ e93) (ci := 9) rfl eo93 wc_X9_renew wn_X11_132 wi_X9_renew ws_X9_renew wz_X9 hy_X9_renew ⟨(Nat.le_of_ble_eq_true rfl), (Nat.le_of_ble_eq_true rfl)⟩ ⟨(Nat.le_refl _), (Nat.le_refl _)⟩ (Nat.le_of_ble_eq_true rfl) rfl dX11_thing_93 ?_
        refine ev_aload_n C (x := .ref o) rfl trivial dX11_thing_96 ?_
        obtain ⟨x97, e97, hs⟩ := aB hs
        refine ev_get C (ci := 11) (k := 13) rfl wu_11 (by decide) wf_X11_63 (gO_F e97) dX11_thing_97 ?_
        obtain ⟨eo100, hs⟩ := kO_at hs
        obtain ⟨h100, e100, hs⟩ := cN_at hs
        refine ev_callVN C (T_X7_forget _ _ _ _ e100) (ci := 7) rfl eo100 wc_X7_forget wn_X11_133 wi_X7_forget ws_X7_forget wz_X7 hy_X7_forget ⟨(Nat.le_of_ble_eq_true rfl), (Nat.le_of_ble_eq_true rfl)⟩ ⟨(Nat.le_refl _), (Nat.le_refl _)⟩ (Nat.le_of_ble_eq_true rfl) rfl dX11_thing_100 ?_
        refine ev_aload_n C (x := .ref o) rfl trivial dX11_thing_103 ?_
        obtain ⟨x104, e104, hs⟩ := aB hs
        refine ev_get C (ci := 11) (k := 14) rfl wu_11 (by decide) wf_X11_70 (gO_F e104) dX11_thing_104 ?_
        obtain ⟨eo107, hs⟩ := kO_at hs
        obtain ⟨h107, e107, hs⟩ := cN_at hs
        refine ev_callVN C (T_X4_forget _ _ _ _ e107) (ci := 4) rfl eo107 wc_X4_forget wn_X11_134 wi_X4_forget ws_X4_forget wz_X4 hy_X4_forget ⟨(Nat.le_of_ble_eq_true rfl), (Nat.le_of_ble_eq_true rfl)⟩ ⟨(Nat.le_refl _), (Nat.le_refl _)⟩ (Nat.le_of_ble_eq_true rfl) rfl dX11_thing_107 ?_
        refine ev_aload_n C (x := .ref o) rfl trivial dX11_thing_110 ?_
        obtain ⟨x111, e111, hs⟩ := aB hs
        refine ev_get C (ci := 11) (k := 7) rfl wu_11 (by decide) wf_X11_19 (gO_F e111) dX11_thing_111 ?_
        obtain ⟨x114, e114, hs⟩ := aB hs
        refine ev_getN C (ci := 2) (k := 12) rfl wu_2 (by decide) wg_X11_135 (gI_F e114) dX11_thing_114 ?_
        cases hs
        exact ev_iret C rfl rfl (Nat.le_refl _) (Nat.le_refl _) rfl dX11_thing_117
      · replace hs := (if_pos q40).symm.trans hs
        obtain ⟨hw9, rfl, rfl⟩ := wC_at hs
        have hs := hw9
        refine ev_iconst C (v := (-1)) dX11_thing_43 (by decide) ?_
        cases hs
        exact ev_iret C rfl rfl (Nat.le_refl _) (Nat.le_refl _) rfl dX11_thing_44
    · replace hs := (if_neg q9).symm.trans hs
      exact Ev.keep [true, false, true] (t_X11_thing_12 C  hs)
end
-- X11_wishReadable
theorem dX11_wishReadable_0 : decode cX11_wishReadable 0 = .ok (.aload_n 0, 1) := by decide +kernel
theorem dX11_wishReadable_1 : decode cX11_wishReadable 1 = .ok (.getfield 120, 3) := by decide +kernel
theorem dX11_wishReadable_4 : decode cX11_wishReadable 4 = .ok (.ifCond .ne 10, 3) := by decide +kernel
theorem dX11_wishReadable_7 : decode cX11_wishReadable 7 = .ok (.aload_n 0, 1) := by decide +kernel
theorem dX11_wishReadable_8 : decode cX11_wishReadable 8 = .ok (.iconst 1, 1) := by decide +kernel
theorem dX11_wishReadable_9 : decode cX11_wishReadable 9 = .ok (.putfield 167, 3) := by decide +kernel
theorem dX11_wishReadable_12 : decode cX11_wishReadable 12 = .ok (.iconst 0, 1) := by decide +kernel
theorem dX11_wishReadable_13 : decode cX11_wishReadable 13 = .ok (.ireturn, 1) := by decide +kernel
theorem dX11_wishReadable_14 : decode cX11_wishReadable 14 = .ok (.iload_n 1, 1) := by decide +kernel
theorem dX11_wishReadable_15 : decode cX11_wishReadable 15 = .ok (.ifCond .lt 11, 3) := by decide +kernel
theorem dX11_wishReadable_18 : decode cX11_wishReadable 18 = .ok (.iload_n 1, 1) := by decide +kernel
theorem dX11_wishReadable_19 : decode cX11_wishReadable 19 = .ok (.aload_n 0, 1) := by decide +kernel
theorem dX11_wishReadable_20 : decode cX11_wishReadable 20 = .ok (.getfield 97, 3) := by decide +kernel
theorem dX11_wishReadable_23 : decode cX11_wishReadable 23 = .ok (.if_icmp .le 10, 3) := by decide +kernel
theorem dX11_wishReadable_26 : decode cX11_wishReadable 26 = .ok (.aload_n 0, 1) := by decide +kernel
theorem dX11_wishReadable_27 : decode cX11_wishReadable 27 = .ok (.iconst 2, 1) := by decide +kernel
theorem dX11_wishReadable_28 : decode cX11_wishReadable 28 = .ok (.putfield 167, 3) := by decide +kernel
theorem dX11_wishReadable_31 : decode cX11_wishReadable 31 = .ok (.iconst 0, 1) := by decide +kernel
theorem dX11_wishReadable_32 : decode cX11_wishReadable 32 = .ok (.ireturn, 1) := by decide +kernel
theorem dX11_wishReadable_33 : decode cX11_wishReadable 33 = .ok (.iconst 1, 1) := by decide +kernel
theorem dX11_wishReadable_34 : decode cX11_wishReadable 34 = .ok (.ireturn, 1) := by decide +kernel
def s_X11_wishReadable_26  (l0 : Nat) (h : aH) : aO :=
  (pF h (.ref l0) 11 3 (.int 2)).bind fun h28 => rtZ 0 h28
def s_X11_wishReadable (o : Nat) (a1 : Int32) (h : aH) : aO :=
  (gI h (.ref o) 11 2).bind fun x1 => if x1 = 0 then ((pF h (.ref o) 11 3 (.int 1)).bind fun h9 => rtZ 0 h9) else (if a1 < 0 then (s_X11_wishReadable_26 o h) else ((gI h (.ref o) 11 1).bind fun x20 => if a1 ≤ x20 then (rtZ 1 h) else (s_X11_wishReadable_26 o h)))
section
variable {p : Program} {l : Launch} {e : Env} {s : State} {m : MethodId} {args : Array Value} {below : List Frame} {meth : Method} {c : Code} {D : va_G} {B0 : Nat} {X : Nat → Nat} {ws0 : va_W} {r : aR} {h' : aH} {mc ms : Nat}
theorem t_X11_wishReadable_26 (C : Cx p l s m args meth c B0 X RX11 "wishReadable" cX11_wishReadable 2 (some .boolean) [])   {l0 : Nat} {h : aH} (hs : s_X11_wishReadable_26  l0 h = some (r, h')) : Ev p l e { frames := 0, cells := mc, slots := ms, locals := 0 } s m args below meth c D B0 X ws0 r h' mc ms 2 mc ms 26 [some (.ref l0), none] [] h := by
  unfold s_X11_wishReadable_26 at hs
  refine ev_aload_n C (x := .ref l0) rfl trivial dX11_wishReadable_26 ?_
  refine ev_iconst C (v := 2) dX11_wishReadable_27 (by decide) ?_
  obtain ⟨h28, e28, hs⟩ := aB hs
  refine ev_put C (ci := 11) (k := 3) rfl wu_11 (by decide) tyX11 tyX11_ok nmX11 wf_X11_167 rfl trivial e28 dX11_wishReadable_28 ?_
  refine ev_iconst C (v := 0) dX11_wishReadable_31 (by decide) ?_
  obtain ⟨hz, rfl, rfl⟩ := rtZ_at hs
  exact ev_zret C rfl hz rfl (Nat.le_refl _) (Nat.le_refl _) rfl dX11_wishReadable_32
theorem hy_X11_wishReadable : yX11_wishReadable.cls ≠ "java/lang/invoke/MethodHandle" ∧ yX11_wishReadable.cls ≠ "java/lang/invoke/VarHandle" ∧ (parseMethodDescriptor yX11_wishReadable.desc).map (fun d => d.parameters.length) = some 1 := by decide +kernel
theorem T_X11_wishReadable (o : Nat) (a1 : Int32) (h : aH) (r : aR) (h' : aH) (hs : s_X11_wishReadable o a1 h = some (r, h')) : Mt yX11_wishReadable (Cond.code yX11_wishReadable cX11_wishReadable 2 (some .boolean) :: aTB) 0 0 0 0 [.ref o, .int a1] h r h' := by
  unfold s_X11_wishReadable at hs
  refine Mt_of (k := 0) (by decide) rfl (fun p l e s m args below meth c D B0 X ws0 C => ?_)
  show Ev p l e { frames := 0, cells := 0, slots := 0, locals := 0 } s m args below meth c D B0 X ws0 r h' 0 0 2 0 0 0 [some (.ref o), some (.int a1)] [] h
  refine ev_aload_n C (x := .ref o) rfl trivial dX11_wishReadable_0 ?_
  obtain ⟨x1, e1, hs⟩ := aB hs
  refine ev_get C (ci := 11) (k := 2) rfl wu_11 (by decide) wf_X11_120 (gI_F e1) dX11_wishReadable_1 ?_
  refine ev_if_ne C (tgt := 14) (by decide) dX11_wishReadable_4 (fun q4 => ?_) (fun q4 => ?_)
  · replace hs := (if_neg q4).symm.trans hs
    refine ev_iload_n C rfl dX11_wishReadable_14 ?_
    refine ev_if_lt C (tgt := 26) (by decide) dX11_wishReadable_15 (fun q15 => ?_) (fun q15 => ?_)
    · replace hs := (if_pos q15).symm.trans hs
      exact Ev.keep [true, false] (t_X11_wishReadable_26 C  hs)
    · replace hs := (if_neg q15).symm.trans hs
      refine ev_iload_n C rfl dX11_wishReadable_18 ?_
      refine ev_aload_n C (x := .ref o) rfl trivial dX11_wishReadable_19 ?_
      obtain ⟨x20, e20, hs⟩ := aB hs
      refine ev_get C (ci := 11) (k := 1) rfl wu_11 (by decide) wf_X11_97 (gI_F e20) dX11_wishReadable_20 ?_
      refine ev_icmp_le C (tgt := 33) (by decide) dX11_wishReadable_23 (fun q23 => ?_) (fun q23 => ?_)
      · replace hs := (if_pos q23).symm.trans hs
        refine ev_iconst C (v := 1) dX11_wishReadable_33 (by decide) ?_
        obtain ⟨hz, rfl, rfl⟩ := rtZ_at hs
        exact ev_zret C rfl hz rfl (Nat.le_refl _) (Nat.le_refl _) rfl dX11_wishReadable_34
      · replace hs := (if_neg q23).symm.trans hs
        exact Ev.keep [true, false] (t_X11_wishReadable_26 C  hs)
  · replace hs := (if_pos q4).symm.trans hs
    refine ev_aload_n C (x := .ref o) rfl trivial dX11_wishReadable_7 ?_
    refine ev_iconst C (v := 1) dX11_wishReadable_8 (by decide) ?_
    obtain ⟨h9, e9, hs⟩ := aB hs
    refine ev_put C (ci := 11) (k := 3) rfl wu_11 (by decide) tyX11 tyX11_ok nmX11 wf_X11_167 rfl trivial e9 dX11_wishReadable_9 ?_
    refine ev_iconst C (v := 0) dX11_wishReadable_12 (by decide) ?_
    obtain ⟨hz, rfl, rfl⟩ := rtZ_at hs
    exact ev_zret C rfl hz rfl (Nat.le_refl _) (Nat.le_refl _) rfl dX11_wishReadable_13
end
-- X11_good
theorem dX11_good_0 : decode cX11_good 0 = .ok (.aload_n 0, 1) := by decide +kernel
theorem dX11_good_1 : decode cX11_good 1 = .ok (.iload_n 1, 1) := by decide +kernel
theorem dX11_good_2 : decode cX11_good 2 = .ok (.invokevirtual 138, 3) := by decide +kernel
theorem dX11_good_5 : decode cX11_good 5 = .ok (.ifCond .ne 5, 3) := by decide +kernel
theorem dX11_good_8 : decode cX11_good 8 = .ok (.iconst (-1), 1) := by decide +kernel
theorem dX11_good_9 : decode cX11_good 9 = .ok (.ireturn, 1) := by decide +kernel
theorem dX11_good_10 : decode cX11_good 10 = .ok (.aload_n 0, 1) := by decide +kernel
theorem dX11_good_11 : decode cX11_good 11 = .ok (.getfield 38, 3) := by decide +kernel
theorem dX11_good_14 : decode cX11_good 14 = .ok (.aload_n 0, 1) := by decide +kernel
theorem dX11_good_15 : decode cX11_good 15 = .ok (.getfield 9, 3) := by decide +kernel
theorem dX11_good_18 : decode cX11_good 18 = .ok (.iload_n 1, 1) := by decide +kernel
theorem dX11_good_19 : decode cX11_good 19 = .ok (.aload_n 0, 1) := by decide +kernel
theorem dX11_good_20 : decode cX11_good 20 = .ok (.getfield 19, 3) := by decide +kernel
theorem dX11_good_23 : decode cX11_good 23 = .ok (.aload_n 0, 1) := by decide +kernel
theorem dX11_good_24 : decode cX11_good 24 = .ok (.getfield 29, 3) := by decide +kernel
theorem dX11_good_27 : decode cX11_good 27 = .ok (.invokevirtual 142, 3) := by decide +kernel
theorem dX11_good_30 : decode cX11_good 30 = .ok (.istore_n 2, 1) := by decide +kernel
theorem dX11_good_31 : decode cX11_good 31 = .ok (.aload_n 0, 1) := by decide +kernel
theorem dX11_good_32 : decode cX11_good 32 = .ok (.iload_n 2, 1) := by decide +kernel
theorem dX11_good_33 : decode cX11_good 33 = .ok (.invokevirtual 113, 3) := by decide +kernel
theorem dX11_good_36 : decode cX11_good 36 = .ok (.ifCond .ne 5, 3) := by decide +kernel
theorem dX11_good_39 : decode cX11_good 39 = .ok (.iconst (-1), 1) := by decide +kernel
theorem dX11_good_40 : decode cX11_good 40 = .ok (.ireturn, 1) := by decide +kernel
theorem dX11_good_41 : decode cX11_good 41 = .ok (.aload_n 0, 1) := by decide +kernel
theorem dX11_good_42 : decode cX11_good 42 = .ok (.getfield 54, 3) := by decide +kernel
theorem dX11_good_45 : decode cX11_good 45 = .ok (.aload_n 0, 1) := by decide +kernel
theorem dX11_good_46 : decode cX11_good 46 = .ok (.getfield 29, 3) := by decide +kernel
theorem dX11_good_49 : decode cX11_good 49 = .ok (.invokevirtual 146, 3) := by decide +kernel
theorem dX11_good_52 : decode cX11_good 52 = .ok (.aload_n 0, 1) := by decide +kernel
theorem dX11_good_53 : decode cX11_good 53 = .ok (.getfield 63, 3) := by decide +kernel
theorem dX11_good_56 : decode cX11_good 56 = .ok (.invokevirtual 133, 3) := by decide +kernel
theorem dX11_good_59 : decode cX11_good 59 = .ok (.aload_n 0, 1) := by decide +kernel
theorem dX11_good_60 : decode cX11_good 60 = .ok (.getfield 70, 3) := by decide +kernel
theorem dX11_good_63 : decode cX11_good 63 = .ok (.invokevirtual 134, 3) := by decide +kernel
theorem dX11_good_66 : decode cX11_good 66 = .ok (.aload_n 0, 1) := by decide +kernel
theorem dX11_good_67 : decode cX11_good 67 = .ok (.getfield 84, 3) := by decide +kernel
theorem dX11_good_70 : decode cX11_good 70 = .ok (.invokevirtual 150, 3) := by decide +kernel
theorem dX11_good_73 : decode cX11_good 73 = .ok (.aload_n 0, 1) := by decide +kernel
theorem dX11_good_74 : decode cX11_good 74 = .ok (.getfield 54, 3) := by decide +kernel
theorem dX11_good_77 : decode cX11_good 77 = .ok (.getfield 151, 3) := by decide +kernel
theorem dX11_good_80 : decode cX11_good 80 = .ok (.ireturn, 1) := by decide +kernel
def s_X11_good (o : Nat) (a1 : Int32) (h : aH) : aO :=
  kO h o 11 (cI (s_X11_wishReadable o a1 h) fun x2 h2 => if x2 = 0 then (some (.inl (some (.int (-1))), h2)) else ((gO h2 (.ref o) 11 10).bind fun x11 => (gO h2 (.ref o) 11 0).bind fun x15 => (gO h2 (.ref o) 11 7).bind fun x20 => (gO h2 (.ref o) 11 9).bind fun x24 => kO h2 x11 6 (cI (s_X6_readTest x11 x15 a1 x20 x24 h2) fun x27 h27 => kO h27 o 11 (cI (s_X11_settled o x27 h27) fun x33 h33 => if x33 = 0 then (some (.inl (some (.int (-1))), h33)) else ((gO h33 (.ref o) 11 12).bind fun x42 => (gO h33 (.ref o) 11 9).bind fun x46 => kO h33 x42 10 (cN (s_X10_setGood x42 x46 h33) fun h49 => (gO h49 (.ref o) 11 13).bind fun x53 => kO h49 x53 7 (cN (s_X7_forget x53 h49) fun h56 => (gO h56 (.ref o) 11 14).bind fun x60 => kO h56 x60 4 (cN (s_X4_forget x60 h56) fun h63 => (gO h63 (.ref o) 11 16).bind fun x67 => kO h63 x67 9 (cN (s_X9_forget x67 h63) fun h70 => (gO h70 (.ref o) 11 12).bind fun x74 => (gI h70 (.ref x74) 10 3).bind fun x77 => some (.inl (some (.int x77)), h70))))))))))
section
variable {p : Program} {l : Launch} {e : Env} {s : State} {m : MethodId} {args : Array Value} {below : List Frame} {meth : Method} {c : Code} {D : va_G} {B0 : Nat} {X : Nat → Nat} {ws0 : va_W} {r : aR} {h' : aH} {mc ms : Nat}
theorem hy_X11_good : yX11_good.cls ≠ "java/lang/invoke/MethodHandle" ∧ yX11_good.cls ≠ "java/lang/invoke/VarHandle" ∧ (parseMethodDescriptor yX11_good.desc).map (fun d => d.parameters.length) = some 1 := by decide +kernel
theorem T_X11_good (o : Nat) (a1 : Int32) (h : aH) (r : aR) (h' : aH) (hs : s_X11_good o a1 h = some (r, h')) : Mt yX11_good (Cond.code yX11_good cX11_good 3 (some .int) :: aTB) 5 123 0 0 [.ref o, .int a1] h r h' := by
  unfold s_X11_good at hs
  refine Mt_of (k := 1) (by decide) rfl (fun p l e s m args below meth c D B0 X ws0 C => ?_)
  show Ev p l e { frames := 5, cells := 0, slots := 0, locals := 123 } s m args below meth c D B0 X ws0 r h' 0 0 3 0 0 0 [some (.ref o), some (.int a1), none] [] h
  refine ev_aload_n C (x := .ref o) rfl trivial dX11_good_0 ?_
  refine ev_iload_n C rfl dX11_good_1 ?_
  obtain ⟨eo2, hs⟩ := kO_at hs
  obtain ⟨x2, h2, e2, hs⟩ := cI_at hs
  refine ev_callV C (T_X11_wishReadable _ _ _ _ _ e2) (ci := 11) rfl eo2 wc_X11_wishReadable wm_X11_138 wi_X11_wishReadable ws_X11_wishReadable wz_X11 hy_X11_wishReadable ⟨(Nat.le_of_ble_eq_true rfl), (Nat.le_of_ble_eq_true rfl)⟩ ⟨(Nat.le_refl _), (Nat.le_refl _)⟩ (Nat.le_of_ble_eq_true rfl) rfl dX11_good_2 ?_
  refine ev_if_ne C (tgt := 10) (by decide) dX11_good_5 (fun q5 => ?_) (fun q5 => ?_)
  · replace hs := (if_neg q5).symm.trans hs
    refine ev_aload_n C (x := .ref o) rfl trivial dX11_good_10 ?_
    obtain ⟨x11, e11, hs⟩ := aB hs
    refine ev_get C (ci := 11) (k := 10) rfl wu_11 (by decide) wf_X11_38 (gO_F e11) dX11_good_11 ?_
    refine ev_aload_n C (x := .ref o) rfl trivial dX11_good_14 ?_
    obtain ⟨x15, e15, hs⟩ := aB hs
    refine ev_get C (ci := 11) (k := 0) rfl wu_11 (by decide) wf_X11_9 (gO_F e15) dX11_good_15 ?_
    refine ev_iload_n C rfl dX11_good_18 ?_
    refine ev_aload_n C (x := .ref o) rfl trivial dX11_good_19 ?_
    obtain ⟨x20, e20, hs⟩ := aB hs
    refine ev_get C (ci := 11) (k := 7) rfl wu_11 (by decide) wf_X11_19 (gO_F e20) dX11_good_20 ?_
    refine ev_aload_n C (x := .ref o) rfl trivial dX11_good_23 ?_
    obtain ⟨x24, e24, hs⟩ := aB hs
    refine ev_get C (ci := 11) (k := 9) rfl wu_11 (by decide) wf_X11_29 (gO_F e24) dX11_good_24 ?_
    obtain ⟨eo27, hs⟩ := kO_at hs
    obtain ⟨x27, h27, e27, hs⟩ := cI_at hs
    refine ev_callVN C (T_X6_readTest _ _ _ _ _ _ _ _ e27) (ci := 6) rfl eo27 wc_X6_readTest wn_X11_142 wi_X6_readTest ws_X6_readTest wz_X6 hy_X6_readTest ⟨(Nat.le_of_ble_eq_true rfl), (Nat.le_of_ble_eq_true rfl)⟩ ⟨(Nat.le_refl _), (Nat.le_refl _)⟩ (Nat.le_of_ble_eq_true rfl) rfl dX11_good_27 ?_
    refine ev_istore_n C (by decide) dX11_good_30 ?_
    refine ev_aload_n C (x := .ref o) rfl trivial dX11_good_31 ?_
    refine ev_iload_n C rfl dX11_good_32 ?_
    obtain ⟨eo33, hs⟩ := kO_at hs
    obtain ⟨x33, h33, e33, hs⟩ := cI_at hs
    refine ev_callV C (T_X11_settled _ _ _ _ _ e33) (ci := 11) rfl eo33 wc_X11_settled wm_X11_113 wi_X11_settled ws_X11_settled wz_X11 hy_X11_settled ⟨(Nat.le_of_ble_eq_true rfl), (Nat.le_of_ble_eq_true rfl)⟩ ⟨(Nat.le_refl _), (Nat.le_refl _)⟩ (Nat.le_of_ble_eq_true rfl) rfl dX11_good_33 ?_
    refine ev_if_ne C (tgt := 41) (by decide) dX11_good_36 (fun q36 => ?_) (fun q36 => ?_)
    · replace hs := (if_neg q36).symm.trans hs
      refine ev_aload_n C (x := .ref o) rfl trivial dX11_good_41 ?_
      obtain ⟨x42, e42, hs⟩ := aB hs
      refine ev_get C (ci := 11) (k := 12) rfl wu_11 (by decide) wf_X11_54 (gO_F e42) dX11_good_42 ?_
      refine ev_aload_n C (x := .ref o) rfl trivial dX11_good_45 ?_
      obtain ⟨x46, e46, hs⟩ := aB hs
      refine ev_get C (ci := 11) (k := 9) rfl wu_11 (by decide) wf_X11_29 (gO_F e46) dX11_good_46 ?_
      obtain ⟨eo49, hs⟩ := kO_at hs
      obtain ⟨h49, e49, hs⟩ := cN_at hs
      refine ev_callVN C (T_X10_setGood _ _ _ _ _ e49) (ci := 10) rfl eo49 wc_X10_setGood wn_X11_146 wi_X10_setGood ws_X10_setGood wz_X10 hy_X10_setGood ⟨(Nat.le_of_ble_eq_true rfl), (Nat.le_of_ble_eq_true rfl)⟩ ⟨(Nat.le_refl _), (Nat.le_refl _)⟩ (Nat.le_of_ble_eq_true rfl) rfl dX11_good_49 ?_
      refine ev_aload_n C (x := .ref o) rfl trivial dX11_good_52 ?_
      obtain ⟨x53, e53, hs⟩ := aB hs
      refine ev_get C (ci := 11) (k := 13) rfl wu_11 (by decide) wf_X11_63 (gO_F e53) dX11_good_53 ?_
      obtain ⟨eo56, hs⟩ := kO_at hs
      obtain ⟨h56, e56, hs⟩ := cN_at hs
      refine ev_callVN C (T_X7_forget _ _ _ _ e56) (ci := 7) rfl eo56 wc_X7_forget wn_X11_133 wi_X7_forget ws_X7_forget wz_X7 hy_X7_forget ⟨(Nat.le_of_ble_eq_true rfl), (Nat.le_of_ble_eq_true rfl)⟩ ⟨(Nat.le_refl _), (Nat.le_refl _)⟩ (Nat.le_of_ble_eq_true rfl) rfl dX11_good_56 ?_
      refine ev_aload_n C (x := .ref o) rfl trivial dX11_good_59 ?_
      obtain ⟨x60, e60, hs⟩ := aB hs
      refine ev_get C (ci := 11) (k := 14) rfl wu_11 (by decide) wf_X11_70 (gO_F e60) dX11_good_60 ?_
      obtain ⟨eo63, hs⟩ := kO_at hs
      obtain ⟨h63, e63, hs⟩ := cN_at hs
      refine ev_callVN C (T_X4_forget _ _ _ _ e63) (ci := 4) rfl eo63 wc_X4_forget wn_X11_134 wi_X4_forget ws_X4_forget wz_X4 hy_X4_forget ⟨(Nat.le_of_ble_eq_true rfl), (Nat.le_of_ble_eq_true rfl)⟩ ⟨(Nat.le_refl _), (Nat.le_refl _)⟩ (Nat.le_of_ble_eq_true rfl) rfl dX11_good_63 ?_
      refine ev_aload_n C (x := .ref o) rfl trivial dX11_good_66 ?_
      obtain ⟨x67, e67, hs⟩ := aB hs
      refine ev_get C (ci := 11) (k := 16) rfl wu_11 (by decide) wf_X11_84 (gO_F e67) dX11_good_67 ?_
      obtain ⟨eo70, hs⟩ := kO_at hs
      obtain ⟨h70, e70, hs⟩ := cN_at hs
      refine ev_callVN C (T_X9_forget _ _ _ _ e70) (ci := 9) rfl eo70 wc_X9_forget wn_X11_150 wi_X9_forget ws_X9_forget wz_X9 hy_X9_forget ⟨(Nat.le_of_ble_eq_true rfl), (Nat.le_of_ble_eq_true rfl)⟩ ⟨(Nat.le_refl _), (Nat.le_refl _)⟩ (Nat.le_of_ble_eq_true rfl) rfl dX11_good_70 ?_
      refine ev_aload_n C (x := .ref o) rfl trivial dX11_good_73 ?_
      obtain ⟨x74, e74, hs⟩ := aB hs
      refine ev_get C (ci := 11) (k := 12) rfl wu_11 (by decide) wf_X11_54 (gO_F e74) dX11_good_74 ?_
      obtain ⟨x77, e77, hs⟩ := aB hs
      refine ev_getN C (ci := 10) (k := 3) rfl wu_10 (by decide) wg_X11_151 (gI_F e77) dX11_good_77 ?_
      cases hs
      exact ev_iret C rfl rfl (Nat.le_refl _) (Nat.le_refl _) rfl dX11_good_80
    · replace hs := (if_pos q36).symm.trans hs
      refine ev_iconst C (v := (-1)) dX11_good_39 (by decide) ?_
      cases hs
      exact ev_iret C rfl rfl (Nat.le_refl _) (Nat.le_refl _) rfl dX11_good_40
  · replace hs := (if_pos q5).symm.trans hs
    refine ev_iconst C (v := (-1)) dX11_good_8 (by decide) ?_
    cases hs
    exact ev_iret C rfl rfl (Nat.le_refl _) (Nat.le_refl _) rfl dX11_good_9
end
-- X11_goal
theorem dX11_goal_0 : decode cX11_goal 0 = .ok (.aload_n 0, 1) := by decide +kernel
theorem dX11_goal_1 : decode cX11_goal 1 = .ok (.iload_n 1, 1) := by decide +kernel
theorem dX11_goal_2 : decode cX11_goal 2 = .ok (.invokevirtual 138, 3) := by decide +kernel
theorem dX11_goal_5 : decode cX11_goal 5 = .ok (.ifCond .ne 5, 3) := by decide +kernel
theorem dX11_goal_8 : decode cX11_goal 8 = .ok (.iconst (-1), 1) := by decide +kernel
theorem dX11_goal_9 : decode cX11_goal 9 = .ok (.ireturn, 1) := by decide +kernel
theorem dX11_goal_10 : decode cX11_goal 10 = .ok (.aload_n 0, 1) := by decide +kernel
theorem dX11_goal_11 : decode cX11_goal 11 = .ok (.getfield 38, 3) := by decide +kernel
theorem dX11_goal_14 : decode cX11_goal 14 = .ok (.aload_n 0, 1) := by decide +kernel
theorem dX11_goal_15 : decode cX11_goal 15 = .ok (.getfield 9, 3) := by decide +kernel
theorem dX11_goal_18 : decode cX11_goal 18 = .ok (.iload_n 1, 1) := by decide +kernel
theorem dX11_goal_19 : decode cX11_goal 19 = .ok (.aload_n 0, 1) := by decide +kernel
theorem dX11_goal_20 : decode cX11_goal 20 = .ok (.getfield 19, 3) := by decide +kernel
theorem dX11_goal_23 : decode cX11_goal 23 = .ok (.aload_n 0, 1) := by decide +kernel
theorem dX11_goal_24 : decode cX11_goal 24 = .ok (.getfield 29, 3) := by decide +kernel
theorem dX11_goal_27 : decode cX11_goal 27 = .ok (.invokevirtual 142, 3) := by decide +kernel
theorem dX11_goal_30 : decode cX11_goal 30 = .ok (.istore_n 2, 1) := by decide +kernel
theorem dX11_goal_31 : decode cX11_goal 31 = .ok (.aload_n 0, 1) := by decide +kernel
theorem dX11_goal_32 : decode cX11_goal 32 = .ok (.iload_n 2, 1) := by decide +kernel
theorem dX11_goal_33 : decode cX11_goal 33 = .ok (.invokevirtual 113, 3) := by decide +kernel
theorem dX11_goal_36 : decode cX11_goal 36 = .ok (.ifCond .eq 17, 3) := by decide +kernel
theorem dX11_goal_39 : decode cX11_goal 39 = .ok (.aload_n 0, 1) := by decide +kernel
theorem dX11_goal_40 : decode cX11_goal 40 = .ok (.getfield 54, 3) := by decide +kernel
theorem dX11_goal_43 : decode cX11_goal 43 = .ok (.aload_n 0, 1) := by decide +kernel
theorem dX11_goal_44 : decode cX11_goal 44 = .ok (.getfield 29, 3) := by decide +kernel
theorem dX11_goal_47 : decode cX11_goal 47 = .ok (.invokevirtual 154, 3) := by decide +kernel
theorem dX11_goal_50 : decode cX11_goal 50 = .ok (.goto 4, 3) := by decide +kernel
theorem dX11_goal_53 : decode cX11_goal 53 = .ok (.iconst (-1), 1) := by decide +kernel
theorem dX11_goal_54 : decode cX11_goal 54 = .ok (.ireturn, 1) := by decide +kernel
def s_X11_goal (o : Nat) (a1 : Int32) (h : aH) : aO :=
  kO h o 11 (cI (s_X11_wishReadable o a1 h) fun x2 h2 => if x2 = 0 then (some (.inl (some (.int (-1))), h2)) else ((gO h2 (.ref o) 11 10).bind fun x11 => (gO h2 (.ref o) 11 0).bind fun x15 => (gO h2 (.ref o) 11 7).bind fun x20 => (gO h2 (.ref o) 11 9).bind fun x24 => kO h2 x11 6 (cI (s_X6_readTest x11 x15 a1 x20 x24 h2) fun x27 h27 => kO h27 o 11 (cI (s_X11_settled o x27 h27) fun x33 h33 => if x33 = 0 then (some (.inl (some (.int (-1))), h33)) else ((gO h33 (.ref o) 11 12).bind fun x40 => (gO h33 (.ref o) 11 9).bind fun x44 => kO h33 x40 10 (cI (s_X10_setGoal x40 x44 h33) fun x47 h47 => some (.inl (some (.int x47)), h47)))))))
section
variable {p : Program} {l : Launch} {e : Env} {s : State} {m : MethodId} {args : Array Value} {below : List Frame} {meth : Method} {c : Code} {D : va_G} {B0 : Nat} {X : Nat → Nat} {ws0 : va_W} {r : aR} {h' : aH} {mc ms : Nat}
theorem hy_X11_goal : yX11_goal.cls ≠ "java/lang/invoke/MethodHandle" ∧ yX11_goal.cls ≠ "java/lang/invoke/VarHandle" ∧ (parseMethodDescriptor yX11_goal.desc).map (fun d => d.parameters.length) = some 1 := by decide +kernel
theorem T_X11_goal (o : Nat) (a1 : Int32) (h : aH) (r : aR) (h' : aH) (hs : s_X11_goal o a1 h = some (r, h')) : Mt yX11_goal (Cond.code yX11_goal cX11_goal 3 (some .int) :: aTB) 5 123 0 0 [.ref o, .int a1] h r h' := by
  unfold s_X11_goal at hs
  refine Mt_of (k := 1) (by decide) rfl (fun p l e s m args below meth c D B0 X ws0 C => ?_)
  show Ev p l e { frames := 5, cells := 0, slots := 0, locals := 123 } s m args below meth c D B0 X ws0 r h' 0 0 3 0 0 0 [some (.ref o), some (.int a1), none] [] h
  refine ev_aload_n C (x := .ref o) rfl trivial dX11_goal_0 ?_
  refine ev_iload_n C rfl dX11_goal_1 ?_
  obtain ⟨eo2, hs⟩ := kO_at hs
  obtain ⟨x2, h2, e2, hs⟩ := cI_at hs
  refine ev_callV C (T_X11_wishReadable _ _ _ _ _ e2) (ci := 11) rfl eo2 wc_X11_wishReadable wm_X11_138 wi_X11_wishReadable ws_X11_wishReadable wz_X11 hy_X11_wishReadable ⟨(Nat.le_of_ble_eq_true rfl), (Nat.le_of_ble_eq_true rfl)⟩ ⟨(Nat.le_refl _), (Nat.le_refl _)⟩ (Nat.le_of_ble_eq_true rfl) rfl dX11_goal_2 ?_
  refine ev_if_ne C (tgt := 10) (by decide) dX11_goal_5 (fun q5 => ?_) (fun q5 => ?_)
  · replace hs := (if_neg q5).symm.trans hs
    refine ev_aload_n C (x := .ref o) rfl trivial dX11_goal_10 ?_
    obtain ⟨x11, e11, hs⟩ := aB hs
    refine ev_get C (ci := 11) (k := 10) rfl wu_11 (by decide) wf_X11_38 (gO_F e11) dX11_goal_11 ?_
    refine ev_aload_n C (x := .ref o) rfl trivial dX11_goal_14 ?_
    obtain ⟨x15, e15, hs⟩ := aB hs
    refine ev_get C (ci := 11) (k := 0) rfl wu_11 (by decide) wf_X11_9 (gO_F e15) dX11_goal_15 ?_
    refine ev_iload_n C rfl dX11_goal_18 ?_
    refine ev_aload_n C (x := .ref o) rfl trivial dX11_goal_19 ?_
    obtain ⟨x20, e20, hs⟩ := aB hs
    refine ev_get C (ci := 11) (k := 7) rfl wu_11 (by decide) wf_X11_19 (gO_F e20) dX11_goal_20 ?_
    refine ev_aload_n C (x := .ref o) rfl trivial dX11_goal_23 ?_
    obtain ⟨x24, e24, hs⟩ := aB hs
    refine ev_get C (ci := 11) (k := 9) rfl wu_11 (by decide) wf_X11_29 (gO_F e24) dX11_goal_24 ?_
    obtain ⟨eo27, hs⟩ := kO_at hs
    obtain ⟨x27, h27, e27, hs⟩ := cI_at hs
    refine ev_callVN C (T_X6_readTest _ _ _ _ _ _ _ _ e27) (ci := 6) rfl eo27 wc_X6_readTest wn_X11_142 wi_X6_readTest ws_X6_readTest wz_X6 hy_X6_readTest ⟨(Nat.le_of_ble_eq_true rfl), (Nat.le_of_ble_eq_true rfl)⟩ ⟨(Nat.le_refl _), (Nat.le_refl _)⟩ (Nat.le_of_ble_eq_true rfl) rfl dX11_goal_27 ?_
    refine ev_istore_n C (by decide) dX11_goal_30 ?_
    refine ev_aload_n C (x := .ref o) rfl trivial dX11_goal_31 ?_
    refine ev_iload_n C rfl dX11_goal_32 ?_
    obtain ⟨eo33, hs⟩ := kO_at hs
    obtain ⟨x33, h33, e33, hs⟩ := cI_at hs
    refine ev_callV C (T_X11_settled _ _ _ _ _ e33) (ci := 11) rfl eo33 wc_X11_settled wm_X11_113 wi_X11_settled ws_X11_settled wz_X11 hy_X11_settled ⟨(Nat.le_of_ble_eq_true rfl), (Nat.le_of_ble_eq_true rfl)⟩ ⟨(Nat.le_refl _), (Nat.le_refl _)⟩ (Nat.le_of_ble_eq_true rfl) rfl dX11_goal_33 ?_
    refine ev_if_eq C (tgt := 53) (by decide) dX11_goal_36 (fun q36 => ?_) (fun q36 => ?_)
    · replace hs := (if_pos q36).symm.trans hs
      refine ev_iconst C (v := (-1)) dX11_goal_53 (by decide) ?_
      cases hs
      exact ev_iret C rfl rfl (Nat.le_refl _) (Nat.le_refl _) rfl dX11_goal_54
    · replace hs := (if_neg q36).symm.trans hs
      refine ev_aload_n C (x := .ref o) rfl trivial dX11_goal_39 ?_
      obtain ⟨x40, e40, hs⟩ := aB hs
      refine ev_get C (ci := 11) (k := 12) rfl wu_11 (by decide) wf_X11_54 (gO_F e40) dX11_goal_40 ?_
      refine ev_aload_n C (x := .ref o) rfl trivial dX11_goal_43 ?_
      obtain ⟨x44, e44, hs⟩ := aB hs
      refine ev_get C (ci := 11) (k := 9) rfl wu_11 (by decide) wf_X11_29 (gO_F e44) dX11_goal_44 ?_
      obtain ⟨eo47, hs⟩ := kO_at hs
      obtain ⟨x47, h47, e47, hs⟩ := cI_at hs
      refine ev_callVN C (T_X10_setGoal _ _ _ _ _ e47) (ci := 10) rfl eo47 wc_X10_setGoal wn_X11_154 wi_X10_setGoal ws_X10_setGoal wz_X10 hy_X10_setGoal ⟨(Nat.le_of_ble_eq_true rfl), (Nat.le_of_ble_eq_true rfl)⟩ ⟨(Nat.le_refl _), (Nat.le_refl _)⟩ (Nat.le_of_ble_eq_true rfl) rfl dX11_goal_47 ?_
      refine ev_goto C (tgt := 54) (by decide) dX11_goal_50 ?_
      cases hs
      exact ev_iret C rfl rfl (Nat.le_refl _) (Nat.le_refl _) rfl dX11_goal_54
  · replace hs := (if_pos q5).symm.trans hs
    refine ev_iconst C (v := (-1)) dX11_goal_8 (by decide) ?_
    cases hs
    exact ev_iret C rfl rfl (Nat.le_refl _) (Nat.le_refl _) rfl dX11_goal_9
end
-- X11_cost
theorem dX11_cost_0 : decode cX11_cost 0 = .ok (.aload_n 0, 1) := by decide +kernel
theorem dX11_cost_1 : decode cX11_cost 1 = .ok (.iload_n 1, 1) := by decide +kernel
theorem dX11_cost_2 : decode cX11_cost 2 = .ok (.invokevirtual 138, 3) := by decide +kernel
theorem dX11_cost_5 : decode cX11_cost 5 = .ok (.ifCond .ne 5, 3) := by decide +kernel
theorem dX11_cost_8 : decode cX11_cost 8 = .ok (.iconst (-1), 1) := by decide +kernel
theorem dX11_cost_9 : decode cX11_cost 9 = .ok (.ireturn, 1) := by decide +kernel
theorem dX11_cost_10 : decode cX11_cost 10 = .ok (.aload_n 0, 1) := by decide +kernel
theorem dX11_cost_11 : decode cX11_cost 11 = .ok (.getfield 38, 3) := by decide +kernel
theorem dX11_cost_14 : decode cX11_cost 14 = .ok (.aload_n 0, 1) := by decide +kernel
theorem dX11_cost_15 : decode cX11_cost 15 = .ok (.getfield 9, 3) := by decide +kernel
theorem dX11_cost_18 : decode cX11_cost 18 = .ok (.iload_n 1, 1) := by decide +kernel
theorem dX11_cost_19 : decode cX11_cost 19 = .ok (.aload_n 0, 1) := by decide +kernel
theorem dX11_cost_20 : decode cX11_cost 20 = .ok (.getfield 19, 3) := by decide +kernel
theorem dX11_cost_23 : decode cX11_cost 23 = .ok (.aload_n 0, 1) := by decide +kernel
theorem dX11_cost_24 : decode cX11_cost 24 = .ok (.getfield 29, 3) := by decide +kernel
theorem dX11_cost_27 : decode cX11_cost 27 = .ok (.invokevirtual 158, 3) := by decide +kernel
theorem dX11_cost_30 : decode cX11_cost 30 = .ok (.istore_n 2, 1) := by decide +kernel
theorem dX11_cost_31 : decode cX11_cost 31 = .ok (.aload_n 0, 1) := by decide +kernel
theorem dX11_cost_32 : decode cX11_cost 32 = .ok (.iload_n 2, 1) := by decide +kernel
theorem dX11_cost_33 : decode cX11_cost 33 = .ok (.invokevirtual 113, 3) := by decide +kernel
theorem dX11_cost_36 : decode cX11_cost 36 = .ok (.ifCond .ne 5, 3) := by decide +kernel
theorem dX11_cost_39 : decode cX11_cost 39 = .ok (.iconst (-1), 1) := by decide +kernel
theorem dX11_cost_40 : decode cX11_cost 40 = .ok (.ireturn, 1) := by decide +kernel
theorem dX11_cost_41 : decode cX11_cost 41 = .ok (.aload_n 0, 1) := by decide +kernel
theorem dX11_cost_42 : decode cX11_cost 42 = .ok (.getfield 54, 3) := by decide +kernel
theorem dX11_cost_45 : decode cX11_cost 45 = .ok (.aload_n 0, 1) := by decide +kernel
theorem dX11_cost_46 : decode cX11_cost 46 = .ok (.getfield 29, 3) := by decide +kernel
theorem dX11_cost_49 : decode cX11_cost 49 = .ok (.invokevirtual 161, 3) := by decide +kernel
theorem dX11_cost_52 : decode cX11_cost 52 = .ok (.aload_n 0, 1) := by decide +kernel
theorem dX11_cost_53 : decode cX11_cost 53 = .ok (.getfield 70, 3) := by decide +kernel
theorem dX11_cost_56 : decode cX11_cost 56 = .ok (.invokevirtual 134, 3) := by decide +kernel
theorem dX11_cost_59 : decode cX11_cost 59 = .ok (.iconst 0, 1) := by decide +kernel
theorem dX11_cost_60 : decode cX11_cost 60 = .ok (.ireturn, 1) := by decide +kernel
def s_X11_cost (o : Nat) (a1 : Int32) (h : aH) : aO :=
  kO h o 11 (cI (s_X11_wishReadable o a1 h) fun x2 h2 => if x2 = 0 then (some (.inl (some (.int (-1))), h2)) else ((gO h2 (.ref o) 11 10).bind fun x11 => (gO h2 (.ref o) 11 0).bind fun x15 => (gO h2 (.ref o) 11 7).bind fun x20 => (gO h2 (.ref o) 11 9).bind fun x24 => kO h2 x11 6 (cI (s_X6_readSum x11 x15 a1 x20 x24 h2) fun x27 h27 => kO h27 o 11 (cI (s_X11_settled o x27 h27) fun x33 h33 => if x33 = 0 then (some (.inl (some (.int (-1))), h33)) else ((gO h33 (.ref o) 11 12).bind fun x42 => (gO h33 (.ref o) 11 9).bind fun x46 => kO h33 x42 10 (cN (s_X10_setCosts x42 x46 h33) fun h49 => (gO h49 (.ref o) 11 14).bind fun x53 => kO h49 x53 4 (cN (s_X4_forget x53 h49) fun h56 => some (.inl (some (.int 0)), h56))))))))
section
variable {p : Program} {l : Launch} {e : Env} {s : State} {m : MethodId} {args : Array Value} {below : List Frame} {meth : Method} {c : Code} {D : va_G} {B0 : Nat} {X : Nat → Nat} {ws0 : va_W} {r : aR} {h' : aH} {mc ms : Nat}
theorem hy_X11_cost : yX11_cost.cls ≠ "java/lang/invoke/MethodHandle" ∧ yX11_cost.cls ≠ "java/lang/invoke/VarHandle" ∧ (parseMethodDescriptor yX11_cost.desc).map (fun d => d.parameters.length) = some 1 := by decide +kernel
theorem T_X11_cost (o : Nat) (a1 : Int32) (h : aH) (r : aR) (h' : aH) (hs : s_X11_cost o a1 h = some (r, h')) : Mt yX11_cost (Cond.code yX11_cost cX11_cost 3 (some .int) :: aTB) 5 123 0 0 [.ref o, .int a1] h r h' := by
  unfold s_X11_cost at hs
  refine Mt_of (k := 1) (by decide) rfl (fun p l e s m args below meth c D B0 X ws0 C => ?_)
  show Ev p l e { frames := 5, cells := 0, slots := 0, locals := 123 } s m args below meth c D B0 X ws0 r h' 0 0 3 0 0 0 [some (.ref o), some (.int a1), none] [] h
  refine ev_aload_n C (x := .ref o) rfl trivial dX11_cost_0 ?_
  refine ev_iload_n C rfl dX11_cost_1 ?_
  obtain ⟨eo2, hs⟩ := kO_at hs
  obtain ⟨x2, h2, e2, hs⟩ := cI_at hs
  refine ev_callV C (T_X11_wishReadable _ _ _ _ _ e2) (ci := 11) rfl eo2 wc_X11_wishReadable wm_X11_138 wi_X11_wishReadable ws_X11_wishReadable wz_X11 hy_X11_wishReadable ⟨(Nat.le_of_ble_eq_true rfl), (Nat.le_of_ble_eq_true rfl)⟩ ⟨(Nat.le_refl _), (Nat.le_refl _)⟩ (Nat.le_of_ble_eq_true rfl) rfl dX11_cost_2 ?_
  refine ev_if_ne C (tgt := 10) (by decide) dX11_cost_5 (fun q5 => ?_) (fun q5 => ?_)
  · replace hs := (if_neg q5).symm.trans hs
    refine ev_aload_n C (x := .ref o) rfl trivial dX11_cost_10 ?_
    obtain ⟨x11, e11, hs⟩ := aB hs
    refine ev_get C (ci := 11) (k := 10) rfl wu_11 (by decide) wf_X11_38 (gO_F e11) dX11_cost_11 ?_
    refine ev_aload_n C (x := .ref o) rfl trivial dX11_cost_14 ?_
    obtain ⟨x15, e15, hs⟩ := aB hs
    refine ev_get C (ci := 11) (k := 0) rfl wu_11 (by decide) wf_X11_9 (gO_F e15) dX11_cost_15 ?_
    refine ev_iload_n C rfl dX11_cost_18 ?_
    refine ev_aload_n C (x := .ref o) rfl trivial dX11_cost_19 ?_
    obtain ⟨x20, e20, hs⟩ := aB hs
    refine ev_get C (ci := 11) (k := 7) rfl wu_11 (by decide) wf_X11_19 (gO_F e20) dX11_cost_20 ?_
    refine ev_aload_n C (x := .ref o) rfl trivial dX11_cost_23 ?_
    obtain ⟨x24, e24, hs⟩ := aB hs
    refine ev_get C (ci := 11) (k := 9) rfl wu_11 (by decide) wf_X11_29 (gO_F e24) dX11_cost_24 ?_
    obtain ⟨eo27, hs⟩ := kO_at hs
    obtain ⟨x27, h27, e27, hs⟩ := cI_at hs
    refine ev_callVN C (T_X6_readSum _ _ _ _ _ _ _ _ e27) (ci := 6) rfl eo27 wc_X6_readSum wn_X11_158 wi_X6_readSum ws_X6_readSum wz_X6 hy_X6_readSum ⟨(Nat.le_of_ble_eq_true rfl), (Nat.le_of_ble_eq_true rfl)⟩ ⟨(Nat.le_refl _), (Nat.le_refl _)⟩ (Nat.le_of_ble_eq_true rfl) rfl dX11_cost_27 ?_
    refine ev_istore_n C (by decide) dX11_cost_30 ?_
    refine ev_aload_n C (x := .ref o) rfl trivial dX11_cost_31 ?_
    refine ev_iload_n C rfl dX11_cost_32 ?_
    obtain ⟨eo33, hs⟩ := kO_at hs
    obtain ⟨x33, h33, e33, hs⟩ := cI_at hs
    refine ev_callV C (T_X11_settled _ _ _ _ _ e33) (ci := 11) rfl eo33 wc_X11_settled wm_X11_113 wi_X11_settled ws_X11_settled wz_X11 hy_X11_settled ⟨(Nat.le_of_ble_eq_true rfl), (Nat.le_of_ble_eq_true rfl)⟩ ⟨(Nat.le_refl _), (Nat.le_refl _)⟩ (Nat.le_of_ble_eq_true rfl) rfl dX11_cost_33 ?_
    refine ev_if_ne C (tgt := 41) (by decide) dX11_cost_36 (fun q36 => ?_) (fun q36 => ?_)
    · replace hs := (if_neg q36).symm.trans hs
      refine ev_aload_n C (x := .ref o) rfl trivial dX11_cost_41 ?_
      obtain ⟨x42, e42, hs⟩ := aB hs
      refine ev_get C (ci := 11) (k := 12) rfl wu_11 (by decide) wf_X11_54 (gO_F e42) dX11_cost_42 ?_
      refine ev_aload_n C (x := .ref o) rfl trivial dX11_cost_45 ?_
      obtain ⟨x46, e46, hs⟩ := aB hs
      refine ev_get C (ci := 11) (k := 9) rfl wu_11 (by decide) wf_X11_29 (gO_F e46) dX11_cost_46 ?_
      obtain ⟨eo49, hs⟩ := kO_at hs
      obtain ⟨h49, e49, hs⟩ := cN_at hs
      refine ev_callVN C (T_X10_setCosts _ _ _ _ _ e49) (ci := 10) rfl eo49 wc_X10_setCosts wn_X11_161 wi_X10_setCosts ws_X10_setCosts wz_X10 hy_X10_setCosts ⟨(Nat.le_of_ble_eq_true rfl), (Nat.le_of_ble_eq_true rfl)⟩ ⟨(Nat.le_refl _), (Nat.le_refl _)⟩ (Nat.le_of_ble_eq_true rfl) rfl dX11_cost_49 ?_
      refine ev_aload_n C (x := .ref o) rfl trivial dX11_cost_52 ?_
      obtain ⟨x53, e53, hs⟩ := aB hs
      refine ev_get C (ci := 11) (k := 14) rfl wu_11 (by decide) wf_X11_70 (gO_F e53) dX11_cost_53 ?_
      obtain ⟨eo56, hs⟩ := kO_at hs
      obtain ⟨h56, e56, hs⟩ := cN_at hs
      refine ev_callVN C (T_X4_forget _ _ _ _ e56) (ci := 4) rfl eo56 wc_X4_forget wn_X11_134 wi_X4_forget ws_X4_forget wz_X4 hy_X4_forget ⟨(Nat.le_of_ble_eq_true rfl), (Nat.le_of_ble_eq_true rfl)⟩ ⟨(Nat.le_refl _), (Nat.le_refl _)⟩ (Nat.le_of_ble_eq_true rfl) rfl dX11_cost_56 ?_
      refine ev_iconst C (v := 0) dX11_cost_59 (by decide) ?_
      cases hs
      exact ev_iret C rfl rfl (Nat.le_refl _) (Nat.le_refl _) rfl dX11_cost_60
    · replace hs := (if_pos q36).symm.trans hs
      refine ev_iconst C (v := (-1)) dX11_cost_39 (by decide) ?_
      cases hs
      exact ev_iret C rfl rfl (Nat.le_refl _) (Nat.le_refl _) rfl dX11_cost_40
  · replace hs := (if_pos q5).symm.trans hs
    refine ev_iconst C (v := (-1)) dX11_cost_8 (by decide) ?_
    cases hs
    exact ev_iret C rfl rfl (Nat.le_refl _) (Nat.le_refl _) rfl dX11_cost_9
end
-- X11_fault
theorem dX11_fault_0 : decode cX11_fault 0 = .ok (.aload_n 0, 1) := by decide +kernel
theorem dX11_fault_1 : decode cX11_fault 1 = .ok (.getfield 164, 3) := by decide +kernel
theorem dX11_fault_4 : decode cX11_fault 4 = .ok (.ireturn, 1) := by decide +kernel
def s_X11_fault (o : Nat) (h : aH) : aO :=
  (gI h (.ref o) 11 4).bind fun x1 => some (.inl (some (.int x1)), h)
section
variable {p : Program} {l : Launch} {e : Env} {s : State} {m : MethodId} {args : Array Value} {below : List Frame} {meth : Method} {c : Code} {D : va_G} {B0 : Nat} {X : Nat → Nat} {ws0 : va_W} {r : aR} {h' : aH} {mc ms : Nat}
theorem hy_X11_fault : yX11_fault.cls ≠ "java/lang/invoke/MethodHandle" ∧ yX11_fault.cls ≠ "java/lang/invoke/VarHandle" ∧ (parseMethodDescriptor yX11_fault.desc).map (fun d => d.parameters.length) = some 0 := by decide +kernel
theorem T_X11_fault (o : Nat) (h : aH) (r : aR) (h' : aH) (hs : s_X11_fault o h = some (r, h')) : Mt yX11_fault (Cond.code yX11_fault cX11_fault 1 (some .int) :: aTB) 0 0 0 0 [.ref o] h r h' := by
  unfold s_X11_fault at hs
  refine Mt_of (k := 0) (by decide) rfl (fun p l e s m args below meth c D B0 X ws0 C => ?_)
  show Ev p l e { frames := 0, cells := 0, slots := 0, locals := 0 } s m args below meth c D B0 X ws0 r h' 0 0 1 0 0 0 [some (.ref o)] [] h
  refine ev_aload_n C (x := .ref o) rfl trivial dX11_fault_0 ?_
  obtain ⟨x1, e1, hs⟩ := aB hs
  refine ev_get C (ci := 11) (k := 4) rfl wu_11 (by decide) wf_X11_164 (gI_F e1) dX11_fault_1 ?_
  cases hs
  exact ev_iret C rfl rfl (Nat.le_refl _) (Nat.le_refl _) rfl dX11_fault_4
end
-- X11_where
theorem dX11_where_0 : decode cX11_where 0 = .ok (.aload_n 0, 1) := by decide +kernel
theorem dX11_where_1 : decode cX11_where 1 = .ok (.getfield 167, 3) := by decide +kernel
theorem dX11_where_4 : decode cX11_where 4 = .ok (.iconst 4, 1) := by decide +kernel
theorem dX11_where_5 : decode cX11_where 5 = .ok (.if_icmp .ne 10, 3) := by decide +kernel
theorem dX11_where_8 : decode cX11_where 8 = .ok (.aload_n 0, 1) := by decide +kernel
theorem dX11_where_9 : decode cX11_where 9 = .ok (.getfield 170, 3) := by decide +kernel
theorem dX11_where_12 : decode cX11_where 12 = .ok (.goto 4, 3) := by decide +kernel
theorem dX11_where_15 : decode cX11_where 15 = .ok (.iconst (-1), 1) := by decide +kernel
theorem dX11_where_16 : decode cX11_where 16 = .ok (.ireturn, 1) := by decide +kernel
def s_X11_where (o : Nat) (h : aH) : aO :=
  (gI h (.ref o) 11 3).bind fun x1 => if x1 = 4 then ((gI h (.ref o) 11 5).bind fun x9 => some (.inl (some (.int x9)), h)) else (some (.inl (some (.int (-1))), h))
section
variable {p : Program} {l : Launch} {e : Env} {s : State} {m : MethodId} {args : Array Value} {below : List Frame} {meth : Method} {c : Code} {D : va_G} {B0 : Nat} {X : Nat → Nat} {ws0 : va_W} {r : aR} {h' : aH} {mc ms : Nat}
theorem hy_X11_where : yX11_where.cls ≠ "java/lang/invoke/MethodHandle" ∧ yX11_where.cls ≠ "java/lang/invoke/VarHandle" ∧ (parseMethodDescriptor yX11_where.desc).map (fun d => d.parameters.length) = some 0 := by decide +kernel
theorem T_X11_where (o : Nat) (h : aH) (r : aR) (h' : aH) (hs : s_X11_where o h = some (r, h')) : Mt yX11_where (Cond.code yX11_where cX11_where 1 (some .int) :: aTB) 0 0 0 0 [.ref o] h r h' := by
  unfold s_X11_where at hs
  refine Mt_of (k := 0) (by decide) rfl (fun p l e s m args below meth c D B0 X ws0 C => ?_)
  show Ev p l e { frames := 0, cells := 0, slots := 0, locals := 0 } s m args below meth c D B0 X ws0 r h' 0 0 1 0 0 0 [some (.ref o)] [] h
  refine ev_aload_n C (x := .ref o) rfl trivial dX11_where_0 ?_
  obtain ⟨x1, e1, hs⟩ := aB hs
  refine ev_get C (ci := 11) (k := 3) rfl wu_11 (by decide) wf_X11_167 (gI_F e1) dX11_where_1 ?_
  refine ev_iconst C (v := 4) dX11_where_4 (by decide) ?_
  refine ev_icmp_ne C (tgt := 15) (by decide) dX11_where_5 (fun q5 => ?_) (fun q5 => ?_)
  · replace hs := (if_neg q5).symm.trans hs
    refine ev_iconst C (v := (-1)) dX11_where_15 (by decide) ?_
    cases hs
    exact ev_iret C rfl rfl (Nat.le_refl _) (Nat.le_refl _) rfl dX11_where_16
  · replace hs := (if_pos q5).symm.trans hs
    refine ev_aload_n C (x := .ref o) rfl trivial dX11_where_8 ?_
    obtain ⟨x9, e9, hs⟩ := aB hs
    refine ev_get C (ci := 11) (k := 5) rfl wu_11 (by decide) wf_X11_170 (gI_F e9) dX11_where_9 ?_
    refine ev_goto C (tgt := 16) (by decide) dX11_where_12 ?_
    cases hs
    exact ev_iret C rfl rfl (Nat.le_refl _) (Nat.le_refl _) rfl dX11_where_16
end
-- X11_count
theorem dX11_count_0 : decode cX11_count 0 = .ok (.iload_n 1, 1) := by decide +kernel
theorem dX11_count_1 : decode cX11_count 1 = .ok (.bipush 11, 2) := by decide +kernel
theorem dX11_count_3 : decode cX11_count 3 = .ok (.if_icmp .ne 8, 3) := by decide +kernel
theorem dX11_count_6 : decode cX11_count 6 = .ok (.aload_n 0, 1) := by decide +kernel
theorem dX11_count_7 : decode cX11_count 7 = .ok (.getfield 97, 3) := by decide +kernel
theorem dX11_count_10 : decode cX11_count 10 = .ok (.ireturn, 1) := by decide +kernel
theorem dX11_count_11 : decode cX11_count 11 = .ok (.aload_n 0, 1) := by decide +kernel
theorem dX11_count_12 : decode cX11_count 12 = .ok (.getfield 120, 3) := by decide +kernel
theorem dX11_count_15 : decode cX11_count 15 = .ok (.ifCond .eq 7, 3) := by decide +kernel
theorem dX11_count_18 : decode cX11_count 18 = .ok (.iload_n 1, 1) := by decide +kernel
theorem dX11_count_19 : decode cX11_count 19 = .ok (.ifCond .ge 5, 3) := by decide +kernel
theorem dX11_count_22 : decode cX11_count 22 = .ok (.iconst (-1), 1) := by decide +kernel
theorem dX11_count_23 : decode cX11_count 23 = .ok (.ireturn, 1) := by decide +kernel
theorem dX11_count_24 : decode cX11_count 24 = .ok (.iload_n 1, 1) := by decide +kernel
theorem dX11_count_25 : decode cX11_count 25 = .ok (.iconst 4, 1) := by decide +kernel
theorem dX11_count_26 : decode cX11_count 26 = .ok (.if_icmp .gt 13, 3) := by decide +kernel
theorem dX11_count_29 : decode cX11_count 29 = .ok (.aload_n 0, 1) := by decide +kernel
theorem dX11_count_30 : decode cX11_count 30 = .ok (.getfield 19, 3) := by decide +kernel
theorem dX11_count_33 : decode cX11_count 33 = .ok (.getfield 173, 3) := by decide +kernel
theorem dX11_count_36 : decode cX11_count 36 = .ok (.iload_n 1, 1) := by decide +kernel
theorem dX11_count_37 : decode cX11_count 37 = .ok (.iaload, 1) := by decide +kernel
theorem dX11_count_38 : decode cX11_count 38 = .ok (.ireturn, 1) := by decide +kernel
theorem dX11_count_39 : decode cX11_count 39 = .ok (.iload_n 1, 1) := by decide +kernel
theorem dX11_count_40 : decode cX11_count 40 = .ok (.tableswitch 124 5 13 #[52, 60, 68, 76, 84, 92, 124, 108, 116], 52) := by decide +kernel
theorem dX11_count_92 : decode cX11_count 92 = .ok (.aload_n 0, 1) := by decide +kernel
theorem dX11_count_93 : decode cX11_count 93 = .ok (.getfield 19, 3) := by decide +kernel
theorem dX11_count_96 : decode cX11_count 96 = .ok (.getfield 135, 3) := by decide +kernel
theorem dX11_count_99 : decode cX11_count 99 = .ok (.ireturn, 1) := by decide +kernel
theorem dX11_count_100 : decode cX11_count 100 = .ok (.aload_n 0, 1) := by decide +kernel
theorem dX11_count_101 : decode cX11_count 101 = .ok (.getfield 19, 3) := by decide +kernel
theorem dX11_count_104 : decode cX11_count 104 = .ok (.getfield 176, 3) := by decide +kernel
theorem dX11_count_107 : decode cX11_count 107 = .ok (.ireturn, 1) := by decide +kernel
theorem dX11_count_108 : decode cX11_count 108 = .ok (.aload_n 0, 1) := by decide +kernel
theorem dX11_count_109 : decode cX11_count 109 = .ok (.getfield 19, 3) := by decide +kernel
theorem dX11_count_112 : decode cX11_count 112 = .ok (.getfield 179, 3) := by decide +kernel
theorem dX11_count_115 : decode cX11_count 115 = .ok (.ireturn, 1) := by decide +kernel
theorem dX11_count_116 : decode cX11_count 116 = .ok (.aload_n 0, 1) := by decide +kernel
theorem dX11_count_117 : decode cX11_count 117 = .ok (.getfield 19, 3) := by decide +kernel
theorem dX11_count_120 : decode cX11_count 120 = .ok (.getfield 182, 3) := by decide +kernel
theorem dX11_count_123 : decode cX11_count 123 = .ok (.ireturn, 1) := by decide +kernel
theorem dX11_count_124 : decode cX11_count 124 = .ok (.aload_n 0, 1) := by decide +kernel
theorem dX11_count_125 : decode cX11_count 125 = .ok (.getfield 54, 3) := by decide +kernel
theorem dX11_count_128 : decode cX11_count 128 = .ok (.getfield 151, 3) := by decide +kernel
theorem dX11_count_131 : decode cX11_count 131 = .ok (.ireturn, 1) := by decide +kernel
theorem dX11_count_132 : decode cX11_count 132 = .ok (.aload_n 0, 1) := by decide +kernel
theorem dX11_count_133 : decode cX11_count 133 = .ok (.getfield 77, 3) := by decide +kernel
theorem dX11_count_136 : decode cX11_count 136 = .ok (.invokevirtual 185, 3) := by decide +kernel
theorem dX11_count_139 : decode cX11_count 139 = .ok (.ifCond .eq 7, 3) := by decide +kernel
theorem dX11_count_142 : decode cX11_count 142 = .ok (.iconst 1, 1) := by decide +kernel
theorem dX11_count_143 : decode cX11_count 143 = .ok (.goto 4, 3) := by decide +kernel
theorem dX11_count_146 : decode cX11_count 146 = .ok (.iconst 0, 1) := by decide +kernel
theorem dX11_count_147 : decode cX11_count 147 = .ok (.ireturn, 1) := by decide +kernel
theorem dX11_count_148 : decode cX11_count 148 = .ok (.aload_n 0, 1) := by decide +kernel
theorem dX11_count_149 : decode cX11_count 149 = .ok (.getfield 84, 3) := by decide +kernel
theorem dX11_count_152 : decode cX11_count 152 = .ok (.getfield 189, 3) := by decide +kernel
theorem dX11_count_155 : decode cX11_count 155 = .ok (.ireturn, 1) := by decide +kernel
theorem dX11_count_156 : decode cX11_count 156 = .ok (.aload_n 0, 1) := by decide +kernel
theorem dX11_count_157 : decode cX11_count 157 = .ok (.getfield 93, 3) := by decide +kernel
theorem dX11_count_160 : decode cX11_count 160 = .ok (.getfield 192, 3) := by decide +kernel
theorem dX11_count_163 : decode cX11_count 163 = .ok (.ireturn, 1) := by decide +kernel
theorem dX11_count_164 : decode cX11_count 164 = .ok (.iconst (-1), 1) := by decide +kernel
theorem dX11_count_165 : decode cX11_count 165 = .ok (.ireturn, 1) := by decide +kernel
def s_X11_count (o : Nat) (a1 : Int32) (h : aH) : aO :=
  if a1 = 11 then ((gI h (.ref o) 11 1).bind fun x7 => some (.inl (some (.int x7)), h)) else ((gI h (.ref o) 11 2).bind fun x12 => if x12 = 0 then (some (.inl (some (.int (-1))), h)) else (if 0 ≤ a1 then (if 4 < a1 then (if a1 = 5 then ((gO h (.ref o) 11 7).bind fun x93 => (gI h (.ref x93) 2 12).bind fun x96 => some (.inl (some (.int x96)), h)) else (if a1 = 6 then ((gO h (.ref o) 11 7).bind fun x101 => (gI h (.ref x101) 2 13).bind fun x104 => some (.inl (some (.int x104)), h)) else (if a1 = 7 then ((gO h (.ref o) 11 7).bind fun x109 => (gI h (.ref x109) 2 14).bind fun x112 => some (.inl (some (.int x112)), h)) else (if a1 = 8 then ((gO h (.ref o) 11 7).bind fun x117 => (gI h (.ref x117) 2 4).bind fun x120 => some (.inl (some (.int x120)), h)) else (if a1 = 9 then ((gO h (.ref o) 11 12).bind fun x125 => (gI h (.ref x125) 10 3).bind fun x128 => some (.inl (some (.int x128)), h)) else (if a1 = 10 then ((gO h (.ref o) 11 15).bind fun x133 => kO h x133 1 (cI (s_X1_holds x133 h) fun x136 h136 => if x136 = 0 then (some (.inl (some (.int 0)), h136)) else (some (.inl (some (.int 1)), h136)))) else (if a1 = 11 then (some (.inl (some (.int (-1))), h)) else (if a1 = 12 then ((gO h (.ref o) 11 16).bind fun x149 => (gI h (.ref x149) 9 4).bind fun x152 => some (.inl (some (.int x152)), h)) else (if a1 = 13 then ((gO h (.ref o) 11 17).bind fun x157 => (gI h (.ref x157) 5 8).bind fun x160 => some (.inl (some (.int x160)), h)) else (some (.inl (some (.int (-1))), h))))))))))) else ((gO h (.ref o) 11 7).bind fun x30 => (gO h (.ref x30) 2 0).bind fun x33 => (ldI .int h (.ref x33) a1).bind fun x37 => some (.inl (some (.int x37)), h))) else (some (.inl (some (.int (-1))), h))))
section
variable {p : Program} {l : Launch} {e : Env} {s : State} {m : MethodId} {args : Array Value} {below : List Frame} {meth : Method} {c : Code} {D : va_G} {B0 : Nat} {X : Nat → Nat} {ws0 : va_W} {r : aR} {h' : aH} {mc ms : Nat}
theorem hy_X11_count : yX11_count.cls ≠ "java/lang/invoke/MethodHandle" ∧ yX11_count.cls ≠ "java/lang/invoke/VarHandle" ∧ (parseMethodDescriptor yX11_count.desc).map (fun d => d.parameters.length) = some 1 := by decide +kernel
theorem T_X11_count (o : Nat) (a1 : Int32) (h : aH) (r : aR) (h' : aH) (hs : s_X11_count o a1 h = some (r, h')) : Mt yX11_count (Cond.code yX11_count cX11_count 2 (some .int) :: aTB) 4 100 0 0 [.ref o, .int a1] h r h' := by
  unfold s_X11_count at hs
  refine Mt_of (k := 0) (by decide) rfl (fun p l e s m args below meth c D B0 X ws0 C => ?_)
  show Ev p l e { frames := 4, cells := 0, slots := 0, locals := 100 } s m args below meth c D B0 X ws0 r h' 0 0 2 0 0 0 [some (.ref o), some (.int a1)] [] h
  refine ev_iload_n C rfl dX11_count_0 ?_
  refine ev_bipush C (v := 11) dX11_count_1 (by decide) ?_
  refine ev_icmp_ne C (tgt := 11) (by decide) dX11_count_3 (fun q3 => ?_) (fun q3 => ?_)
  · replace hs := (if_neg q3).symm.trans hs
    refine ev_aload_n C (x := .ref o) rfl trivial dX11_count_11 ?_
    obtain ⟨x12, e12, hs⟩ := aB hs
    refine ev_get C (ci := 11) (k := 2) rfl wu_11 (by decide) wf_X11_120 (gI_F e12) dX11_count_12 ?_
    refine ev_if_eq C (tgt := 22) (by decide) dX11_count_15 (fun q15 => ?_) (fun q15 => ?_)
    · replace hs := (if_pos q15).symm.trans hs
      refine ev_iconst C (v := (-1)) dX11_count_22 (by decide) ?_
      cases hs
      exact ev_iret C rfl rfl (Nat.le_refl _) (Nat.le_refl _) rfl dX11_count_23
    · replace hs := (if_neg q15).symm.trans hs
      refine ev_iload_n C rfl dX11_count_18 ?_
      refine ev_if_ge C (tgt := 24) (by decide) dX11_count_19 (fun q19 => ?_) (fun q19 => ?_)
      · replace hs := (if_pos q19).symm.trans hs
        refine ev_iload_n C rfl dX11_count_24 ?_
        refine ev_iconst C (v := 4) dX11_count_25 (by decide) ?_
        refine ev_icmp_gt C (tgt := 39) (by decide) dX11_count_26 (fun q26 => ?_) (fun q26 => ?_)
        · replace hs := (if_pos q26).symm.trans hs
          refine ev_iload_n C rfl dX11_count_39 ?_
          by_cases q5 : a1 = 5
          · replace hs := (if_pos q5).symm.trans hs
            refine ev_tblIn C (tgt := 92) (by rw [q5]; decide) (by rw [q5]; decide) (by rw [q5]; rfl) (by decide) dX11_count_40 ?_
            refine ev_aload_n C (x := .ref o) rfl trivial dX11_count_92 ?_
            obtain ⟨x93, e93, hs⟩ := aB hs
            refine ev_get C (ci := 11) (k := 7) rfl wu_11 (by decide) wf_X11_19 (gO_F e93) dX11_count_93 ?_
            obtain ⟨x96, e96, hs⟩ := aB hs
            refine ev_getN C (ci := 2) (k := 12) rfl wu_2 (by decide) wg_X11_135 (gI_F e96) dX11_count_96 ?_
            cases hs
            exact ev_iret C rfl rfl (Nat.le_refl _) (Nat.le_refl _) rfl dX11_count_99
          · replace hs := (if_neg q5).symm.trans hs
            by_cases q6 : a1 = 6
            · replace hs := (if_pos q6).symm.trans hs
              refine ev_tblIn C (tgt := 100) (by rw [q6]; decide) (by rw [q6]; decide) (by rw [q6]; rfl) (by decide) dX11_count_40 ?_
              refine ev_aload_n C (x := .ref o) rfl trivial dX11_count_100 ?_
              obtain ⟨x101, e101, hs⟩ := aB hs
              refine ev_get C (ci := 11) (k := 7) rfl wu_11 (by decide) wf_X11_19 (gO_F e101) dX11_count_101 ?_
              obtain ⟨x104, e104, hs⟩ := aB hs
              refine ev_getN C (ci := 2) (k := 13) rfl wu_2 (by decide) wg_X11_176 (gI_F e104) dX11_count_104 ?_
              cases hs
              exact ev_iret C rfl rfl (Nat.le_refl _) (Nat.le_refl _) rfl dX11_count_107
            · replace hs := (if_neg q6).symm.trans hs
              by_cases q7 : a1 = 7
              · replace hs := (if_pos q7).symm.trans hs
                refine ev_tblIn C (tgt := 108) (by rw [q7]; decide) (by rw [q7]; decide) (by rw [q7]; rfl) (by decide) dX11_count_40 ?_
                refine ev_aload_n C (x := .ref o) rfl trivial dX11_count_108 ?_
                obtain ⟨x109, e109, hs⟩ := aB hs
                refine ev_get C (ci := 11) (k := 7) rfl wu_11 (by decide) wf_X11_19 (gO_F e109) dX11_count_109 ?_
                obtain ⟨x112, e112, hs⟩ := aB hs
                refine ev_getN C (ci := 2) (k := 14) rfl wu_2 (by decide) wg_X11_179 (gI_F e112) dX11_count_112 ?_
                cases hs
                exact ev_iret C rfl rfl (Nat.le_refl _) (Nat.le_refl _) rfl dX11_count_115
              · replace hs := (if_neg q7).symm.trans hs
                by_cases q8 : a1 = 8
                · replace hs := (if_pos q8).symm.trans hs
                  refine ev_tblIn C (tgt := 116) (by rw [q8]; decide) (by rw [q8]; decide) (by rw [q8]; rfl) (by decide) dX11_count_40 ?_
                  refine ev_aload_n C (x := .ref o) rfl trivial dX11_count_116 ?_
                  obtain ⟨x117, e117, hs⟩ := aB hs
                  refine ev_get C (ci := 11) (k := 7) rfl wu_11 (by decide) wf_X11_19 (gO_F e117) dX11_count_117 ?_
                  obtain ⟨x120, e120, hs⟩ := aB hs
                  refine ev_getN C (ci := 2) (k := 4) rfl wu_2 (by decide) wg_X11_182 (gI_F e120) dX11_count_120 ?_
                  cases hs
                  exact ev_iret C rfl rfl (Nat.le_refl _) (Nat.le_refl _) rfl dX11_count_123
                · replace hs := (if_neg q8).symm.trans hs
                  by_cases q9 : a1 = 9
                  · replace hs := (if_pos q9).symm.trans hs
                    refine ev_tblIn C (tgt := 124) (by rw [q9]; decide) (by rw [q9]; decide) (by rw [q9]; rfl) (by decide) dX11_count_40 ?_
                    refine ev_aload_n C (x := .ref o) rfl trivial dX11_count_124 ?_
                    obtain ⟨x125, e125, hs⟩ := aB hs
                    refine ev_get C (ci := 11) (k := 12) rfl wu_11 (by decide) wf_X11_54 (gO_F e125) dX11_count_125 ?_
                    obtain ⟨x128, e128, hs⟩ := aB hs
                    refine ev_getN C (ci := 10) (k := 3) rfl wu_10 (by decide) wg_X11_151 (gI_F e128) dX11_count_128 ?_
                    cases hs
                    exact ev_iret C rfl rfl (Nat.le_refl _) (Nat.le_refl _) rfl dX11_count_131
                  · replace hs := (if_neg q9).symm.trans hs
                    by_cases q10 : a1 = 10
                    · replace hs := (if_pos q10).symm.trans hs
                      refine ev_tblIn C (tgt := 132) (by rw [q10]; decide) (by rw [q10]; decide) (by rw [q10]; rfl) (by decide) dX11_count_40 ?_
                      refine ev_aload_n C (x := .ref o) rfl trivial dX11_count_132 ?_
                      obtain ⟨x133, e133, hs⟩ := aB hs
                      refine ev_get C (ci := 11) (k := 15) rfl wu_11 (by decide) wf_X11_77 (gO_F e133) dX11_count_133 ?_
                      obtain ⟨eo136, hs⟩ := kO_at hs
                      obtain ⟨x136, h136, e136, hs⟩ := cI_at hs
                      refine ev_callVN C (T_X1_holds _ _ _ _ e136) (ci := 1) rfl eo136 wc_X1_holds wn_X11_185 wi_X1_holds ws_X1_holds wz_X1 hy_X1_holds ⟨(Nat.le_of_ble_eq_true rfl), (Nat.le_of_ble_eq_true rfl)⟩ ⟨(Nat.le_refl _), (Nat.le_refl _)⟩ (Nat.le_of_ble_eq_true rfl) rfl dX11_count_136 ?_
                      refine ev_if_eq C (tgt := 146) (by decide) dX11_count_139 (fun q139 => ?_) (fun q139 => ?_)
                      · replace hs := (if_pos q139).symm.trans hs
                        refine ev_iconst C (v := 0) dX11_count_146 (by decide) ?_
                        cases hs
                        exact ev_iret C rfl rfl (Nat.le_refl _) (Nat.le_refl _) rfl dX11_count_147
                      · replace hs := (if_neg q139).symm.trans hs
                        refine ev_iconst C (v := 1) dX11_count_142 (by decide) ?_
                        refine ev_goto C (tgt := 147) (by decide) dX11_count_143 ?_
                        cases hs
                        exact ev_iret C rfl rfl (Nat.le_refl _) (Nat.le_refl _) rfl dX11_count_147
                    · replace hs := (if_neg q10).symm.trans hs
                      by_cases q11 : a1 = 11
                      · replace hs := (if_pos q11).symm.trans hs
                        refine ev_tblIn C (tgt := 164) (by rw [q11]; decide) (by rw [q11]; decide) (by rw [q11]; rfl) (by decide) dX11_count_40 ?_
                        refine ev_iconst C (v := (-1)) dX11_count_164 (by decide) ?_
                        cases hs
                        exact ev_iret C rfl rfl (Nat.le_refl _) (Nat.le_refl _) rfl dX11_count_165
                      · replace hs := (if_neg q11).symm.trans hs
                        by_cases q12 : a1 = 12
                        · replace hs := (if_pos q12).symm.trans hs
                          refine ev_tblIn C (tgt := 148) (by rw [q12]; decide) (by rw [q12]; decide) (by rw [q12]; rfl) (by decide) dX11_count_40 ?_
                          refine ev_aload_n C (x := .ref o) rfl trivial dX11_count_148 ?_
                          obtain ⟨x149, e149, hs⟩ := aB hs
                          refine ev_get C (ci := 11) (k := 16) rfl wu_11 (by decide) wf_X11_84 (gO_F e149) dX11_count_149 ?_
                          obtain ⟨x152, e152, hs⟩ := aB hs
                          refine ev_getN C (ci := 9) (k := 4) rfl wu_9 (by decide) wg_X11_189 (gI_F e152) dX11_count_152 ?_
                          cases hs
                          exact ev_iret C rfl rfl (Nat.le_refl _) (Nat.le_refl _) rfl dX11_count_155
                        · replace hs := (if_neg q12).symm.trans hs
                          by_cases q13 : a1 = 13
                          · replace hs := (if_pos q13).symm.trans hs
                            refine ev_tblIn C (tgt := 156) (by rw [q13]; decide) (by rw [q13]; decide) (by rw [q13]; rfl) (by decide) dX11_count_40 ?_
                            refine ev_aload_n C (x := .ref o) rfl trivial dX11_count_156 ?_
                            obtain ⟨x157, e157, hs⟩ := aB hs
                            refine ev_get C (ci := 11) (k := 17) rfl wu_11 (by decide) wf_X11_93 (gO_F e157) dX11_count_157 ?_
                            obtain ⟨x160, e160, hs⟩ := aB hs
                            refine ev_getN C (ci := 5) (k := 8) rfl wu_5 (by decide) wg_X11_192 (gI_F e160) dX11_count_160 ?_
                            cases hs
                            exact ev_iret C rfl rfl (Nat.le_refl _) (Nat.le_refl _) rfl dX11_count_163
                          · replace hs := (if_neg q13).symm.trans hs
                            have n5 : Int32.toInt a1 ≠ 5 := fun z => q5 (Int32.toInt_inj.mp (z.trans (by decide)))
                            have n6 : Int32.toInt a1 ≠ 6 := fun z => q6 (Int32.toInt_inj.mp (z.trans (by decide)))
                            have n7 : Int32.toInt a1 ≠ 7 := fun z => q7 (Int32.toInt_inj.mp (z.trans (by decide)))
                            have n8 : Int32.toInt a1 ≠ 8 := fun z => q8 (Int32.toInt_inj.mp (z.trans (by decide)))
                            have n9 : Int32.toInt a1 ≠ 9 := fun z => q9 (Int32.toInt_inj.mp (z.trans (by decide)))
                            have n10 : Int32.toInt a1 ≠ 10 := fun z => q10 (Int32.toInt_inj.mp (z.trans (by decide)))
                            have n11 : Int32.toInt a1 ≠ 11 := fun z => q11 (Int32.toInt_inj.mp (z.trans (by decide)))
                            have n12 : Int32.toInt a1 ≠ 12 := fun z => q12 (Int32.toInt_inj.mp (z.trans (by decide)))
                            have n13 : Int32.toInt a1 ≠ 13 := fun z => q13 (Int32.toInt_inj.mp (z.trans (by decide)))
                            refine ev_tblOut C (tgt := 164) (by omega) (by decide) dX11_count_40 ?_
                            refine ev_iconst C (v := (-1)) dX11_count_164 (by decide) ?_
                            cases hs
                            exact ev_iret C rfl rfl (Nat.le_refl _) (Nat.le_refl _) rfl dX11_count_165
        · replace hs := (if_neg q26).symm.trans hs
          refine ev_aload_n C (x := .ref o) rfl trivial dX11_count_29 ?_
          obtain ⟨x30, e30, hs⟩ := aB hs
          refine ev_get C (ci := 11) (k := 7) rfl wu_11 (by decide) wf_X11_19 (gO_F e30) dX11_count_30 ?_
          obtain ⟨x33, e33, hs⟩ := aB hs
          refine ev_getN C (ci := 2) (k := 0) rfl wu_2 (by decide) wg_X11_173 (gO_F e33) dX11_count_33 ?_
          refine ev_iload_n C rfl dX11_count_36 ?_
          obtain ⟨x37, e37, hs⟩ := aB hs
          refine ev_iald C e37 dX11_count_37 ?_
          cases hs
          exact ev_iret C rfl rfl (Nat.le_refl _) (Nat.le_refl _) rfl dX11_count_38
      · replace hs := (if_neg q19).symm.trans hs
        refine ev_iconst C (v := (-1)) dX11_count_22 (by decide) ?_
        cases hs
        exact ev_iret C rfl rfl (Nat.le_refl _) (Nat.le_refl _) rfl dX11_count_23
  · replace hs := (if_pos q3).symm.trans hs
    refine ev_aload_n C (x := .ref o) rfl trivial dX11_count_6 ?_
    obtain ⟨x7, e7, hs⟩ := aB hs
    refine ev_get C (ci := 11) (k := 1) rfl wu_11 (by decide) wf_X11_97 (gI_F e7) dX11_count_7 ?_
    cases hs
    exact ev_iret C rfl rfl (Nat.le_refl _) (Nat.le_refl _) rfl dX11_count_10
end
