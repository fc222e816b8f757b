-- X4_paid
theorem dX4_paid_0 : decode cX4_paid 0 = .ok (.aload_n 0, 1) := by decide +kernel
theorem dX4_paid_1 : decode cX4_paid 1 = .ok (.getfield 15, 3) := by decide +kernel
theorem dX4_paid_4 : decode cX4_paid 4 = .ok (.iload_n 2, 1) := by decide +kernel
theorem dX4_paid_5 : decode cX4_paid 5 = .ok (.aload_n 0, 1) := by decide +kernel
theorem dX4_paid_6 : decode cX4_paid 6 = .ok (.getfield 22, 3) := by decide +kernel
theorem dX4_paid_9 : decode cX4_paid 9 = .ok (.getfield 34, 3) := by decide +kernel
theorem dX4_paid_12 : decode cX4_paid 12 = .ok (.imul, 1) := by decide +kernel
theorem dX4_paid_13 : decode cX4_paid 13 = .ok (.iload_n 1, 1) := by decide +kernel
theorem dX4_paid_14 : decode cX4_paid 14 = .ok (.iadd, 1) := by decide +kernel
theorem dX4_paid_15 : decode cX4_paid 15 = .ok (.iaload, 1) := by decide +kernel
theorem dX4_paid_16 : decode cX4_paid 16 = .ok (.ireturn, 1) := by decide +kernel
def s_X4_paid (o : Nat) (a1 : Int32) (a2 : Int32) (h : aH) : aO :=
  (gO h (.ref o) 4 4).bind fun x1 => (gO h (.ref o) 4 0).bind fun x6 => (gI h (.ref x6) 2 12).bind fun x9 => (ldI .int h (.ref x1) ((a2 * x9) + a1)).bind fun x15 => some (.inl (some (.int x15)), h)
section
variable {p : Program} {l : Launch} {e : Env} {s : State} {m : MethodId} {args : Array Value} {below : List Frame} {meth : Method} {c : Code} {D : va_G} {B0 : Nat} {X : Nat → Nat} {ws0 : va_W} {r : aR} {h' : aH} {mc ms : Nat}
theorem hy_X4_paid : yX4_paid.cls ≠ "java/lang/invoke/MethodHandle" ∧ yX4_paid.cls ≠ "java/lang/invoke/VarHandle" ∧ (parseMethodDescriptor yX4_paid.desc).map (fun d => d.parameters.length) = some 2 := by decide +kernel
theorem T_X4_paid (o : Nat) (a1 : Int32) (a2 : Int32) (h : aH) (r : aR) (h' : aH) (hs : s_X4_paid o a1 a2 h = some (r, h')) : Mt yX4_paid (Cond.code yX4_paid cX4_paid 3 (some .int) :: aTB) 0 0 0 0 [.ref o, .int a1, .int a2] h r h' := by
  unfold s_X4_paid at hs
  refine Mt_of (k := 0) (by decide) rfl (fun p l e s m args below meth c D B0 X ws0 C => ?_)
  show Ev p l e { frames := 0, cells := 0, slots := 0, locals := 0 } s m args below meth c D B0 X ws0 r h' 0 0 3 0 0 0 [some (.ref o), some (.int a1), some (.int a2)] [] h
  refine ev_aload_n C (x := .ref o) rfl trivial dX4_paid_0 ?_
  obtain ⟨x1, e1, hs⟩ := aB hs
  refine ev_get C (ci := 4) (k := 4) rfl wu_4 (by decide) wf_X4_15 (gO_F e1) dX4_paid_1 ?_
  refine ev_iload_n C rfl dX4_paid_4 ?_
  refine ev_aload_n C (x := .ref o) rfl trivial dX4_paid_5 ?_
  obtain ⟨x6, e6, hs⟩ := aB hs
  refine ev_get C (ci := 4) (k := 0) rfl wu_4 (by decide) wf_X4_22 (gO_F e6) dX4_paid_6 ?_
  obtain ⟨x9, e9, hs⟩ := aB hs
  refine ev_getN C (ci := 2) (k := 12) rfl wu_2 (by decide) wg_X4_34 (gI_F e9) dX4_paid_9 ?_
  refine ev_imul C dX4_paid_12 ?_
  refine ev_iload_n C rfl dX4_paid_13 ?_
  refine ev_iadd C dX4_paid_14 ?_
  obtain ⟨x15, e15, hs⟩ := aB hs
  refine ev_iald C e15 dX4_paid_15 ?_
  cases hs
  exact ev_iret C rfl rfl (Nat.le_refl _) (Nat.le_refl _) rfl dX4_paid_16
end
-- X4_lawOf
theorem dX4_lawOf_0 : decode cX4_lawOf 0 = .ok (.aload_n 0, 1) := by decide +kernel
theorem dX4_lawOf_1 : decode cX4_lawOf 1 = .ok (.getfield 19, 3) := by decide +kernel
theorem dX4_lawOf_4 : decode cX4_lawOf 4 = .ok (.iload_n 2, 1) := by decide +kernel
theorem dX4_lawOf_5 : decode cX4_lawOf 5 = .ok (.aload_n 0, 1) := by decide +kernel
theorem dX4_lawOf_6 : decode cX4_lawOf 6 = .ok (.getfield 22, 3) := by decide +kernel
theorem dX4_lawOf_9 : decode cX4_lawOf 9 = .ok (.getfield 34, 3) := by decide +kernel
theorem dX4_lawOf_12 : decode cX4_lawOf 12 = .ok (.imul, 1) := by decide +kernel
theorem dX4_lawOf_13 : decode cX4_lawOf 13 = .ok (.iload_n 1, 1) := by decide +kernel
theorem dX4_lawOf_14 : decode cX4_lawOf 14 = .ok (.iadd, 1) := by decide +kernel
theorem dX4_lawOf_15 : decode cX4_lawOf 15 = .ok (.iaload, 1) := by decide +kernel
theorem dX4_lawOf_16 : decode cX4_lawOf 16 = .ok (.ireturn, 1) := by decide +kernel
def s_X4_lawOf (o : Nat) (a1 : Int32) (a2 : Int32) (h : aH) : aO :=
  (gO h (.ref o) 4 5).bind fun x1 => (gO h (.ref o) 4 0).bind fun x6 => (gI h (.ref x6) 2 12).bind fun x9 => (ldI .int h (.ref x1) ((a2 * x9) + a1)).bind fun x15 => some (.inl (some (.int x15)), h)
section
variable {p : Program} {l : Launch} {e : Env} {s : State} {m : MethodId} {args : Array Value} {below : List Frame} {meth : Method} {c : Code} {D : va_G} {B0 : Nat} {X : Nat → Nat} {ws0 : va_W} {r : aR} {h' : aH} {mc ms : Nat}
theorem hy_X4_lawOf : yX4_lawOf.cls ≠ "java/lang/invoke/MethodHandle" ∧ yX4_lawOf.cls ≠ "java/lang/invoke/VarHandle" ∧ (parseMethodDescriptor yX4_lawOf.desc).map (fun d => d.parameters.length) = some 2 := by decide +kernel
theorem T_X4_lawOf (o : Nat) (a1 : Int32) (a2 : Int32) (h : aH) (r : aR) (h' : aH) (hs : s_X4_lawOf o a1 a2 h = some (r, h')) : Mt yX4_lawOf (Cond.code yX4_lawOf cX4_lawOf 3 (some .int) :: aTB) 0 0 0 0 [.ref o, .int a1, .int a2] h r h' := by
  unfold s_X4_lawOf at hs
  refine Mt_of (k := 0) (by decide) rfl (fun p l e s m args below meth c D B0 X ws0 C => ?_)
  show Ev p l e { frames := 0, cells := 0, slots := 0, locals := 0 } s m args below meth c D B0 X ws0 r h' 0 0 3 0 0 0 [some (.ref o), some (.int a1), some (.int a2)] [] h
  refine ev_aload_n C (x := .ref o) rfl trivial dX4_lawOf_0 ?_
  obtain ⟨x1, e1, hs⟩ := aB hs
  refine ev_get C (ci := 4) (k := 5) rfl wu_4 (by decide) wf_X4_19 (gO_F e1) dX4_lawOf_1 ?_
  refine ev_iload_n C rfl dX4_lawOf_4 ?_
  refine ev_aload_n C (x := .ref o) rfl trivial dX4_lawOf_5 ?_
  obtain ⟨x6, e6, hs⟩ := aB hs
  refine ev_get C (ci := 4) (k := 0) rfl wu_4 (by decide) wf_X4_22 (gO_F e6) dX4_lawOf_6 ?_
  obtain ⟨x9, e9, hs⟩ := aB hs
  refine ev_getN C (ci := 2) (k := 12) rfl wu_2 (by decide) wg_X4_34 (gI_F e9) dX4_lawOf_9 ?_
  refine ev_imul C dX4_lawOf_12 ?_
  refine ev_iload_n C rfl dX4_lawOf_13 ?_
  refine ev_iadd C dX4_lawOf_14 ?_
  obtain ⟨x15, e15, hs⟩ := aB hs
  refine ev_iald C e15 dX4_lawOf_15 ?_
  cases hs
  exact ev_iret C rfl rfl (Nat.le_refl _) (Nat.le_refl _) rfl dX4_lawOf_16
end
-- X4_hardestWorld
theorem dX4_hardestWorld_0 : decode cX4_hardestWorld 0 = .ok (.iconst 0, 1) := by decide +kernel
theorem dX4_hardestWorld_1 : decode cX4_hardestWorld 1 = .ok (.istore 4, 2) := by decide +kernel
theorem dX4_hardestWorld_3 : decode cX4_hardestWorld 3 = .ok (.iconst (-1), 1) := by decide +kernel
theorem dX4_hardestWorld_4 : decode cX4_hardestWorld 4 = .ok (.istore 5, 2) := by decide +kernel
theorem dX4_hardestWorld_6 : decode cX4_hardestWorld 6 = .ok (.iconst 0, 1) := by decide +kernel
theorem dX4_hardestWorld_7 : decode cX4_hardestWorld 7 = .ok (.istore 6, 2) := by decide +kernel
theorem dX4_hardestWorld_9 : decode cX4_hardestWorld 9 = .ok (.iload 6, 2) := by decide +kernel
theorem dX4_hardestWorld_11 : decode cX4_hardestWorld 11 = .ok (.aload_n 0, 1) := by decide +kernel
theorem dX4_hardestWorld_12 : decode cX4_hardestWorld 12 = .ok (.getfield 22, 3) := by decide +kernel
theorem dX4_hardestWorld_15 : decode cX4_hardestWorld 15 = .ok (.getfield 71, 3) := by decide +kernel
theorem dX4_hardestWorld_18 : decode cX4_hardestWorld 18 = .ok (.if_icmp .ge 35, 3) := by decide +kernel
theorem dX4_hardestWorld_21 : decode cX4_hardestWorld 21 = .ok (.aload_n 0, 1) := by decide +kernel
theorem dX4_hardestWorld_22 : decode cX4_hardestWorld 22 = .ok (.iload_n 1, 1) := by decide +kernel
theorem dX4_hardestWorld_23 : decode cX4_hardestWorld 23 = .ok (.iload_n 2, 1) := by decide +kernel
theorem dX4_hardestWorld_24 : decode cX4_hardestWorld 24 = .ok (.iload 6, 2) := by decide +kernel
theorem dX4_hardestWorld_26 : decode cX4_hardestWorld 26 = .ok (.iload_n 3, 1) := by decide +kernel
theorem dX4_hardestWorld_27 : decode cX4_hardestWorld 27 = .ok (.invokevirtual 74, 3) := by decide +kernel
theorem dX4_hardestWorld_30 : decode cX4_hardestWorld 30 = .ok (.istore 7, 2) := by decide +kernel
theorem dX4_hardestWorld_32 : decode cX4_hardestWorld 32 = .ok (.iload 7, 2) := by decide +kernel
theorem dX4_hardestWorld_34 : decode cX4_hardestWorld 34 = .ok (.iload 5, 2) := by decide +kernel
theorem dX4_hardestWorld_36 : decode cX4_hardestWorld 36 = .ok (.if_icmp .le 11, 3) := by decide +kernel
theorem dX4_hardestWorld_39 : decode cX4_hardestWorld 39 = .ok (.iload 7, 2) := by decide +kernel
theorem dX4_hardestWorld_41 : decode cX4_hardestWorld 41 = .ok (.istore 5, 2) := by decide +kernel
theorem dX4_hardestWorld_43 : decode cX4_hardestWorld 43 = .ok (.iload 6, 2) := by decide +kernel
theorem dX4_hardestWorld_45 : decode cX4_hardestWorld 45 = .ok (.istore 4, 2) := by decide +kernel
theorem dX4_hardestWorld_47 : decode cX4_hardestWorld 47 = .ok (.iinc 6 1, 3) := by decide +kernel
theorem dX4_hardestWorld_50 : decode cX4_hardestWorld 50 = .ok (.goto (-41), 3) := by decide +kernel
theorem dX4_hardestWorld_53 : decode cX4_hardestWorld 53 = .ok (.iload 4, 2) := by decide +kernel
theorem dX4_hardestWorld_55 : decode cX4_hardestWorld 55 = .ok (.ireturn, 1) := by decide +kernel
def s_X4_hardestWorld_9_b  (k9 : Nat → Int32 → Int32 → Int32 → Int32 → Int32 → Int32 → aH → aO) (l0 : Nat) (l1 : Int32) (l2 : Int32) (l3 : Int32) (l4 : Int32) (l5 : Int32) (l6 : Int32) (h : aH) : aO :=
  (gO h (.ref l0) 4 0).bind fun x12 => (gI h (.ref x12) 2 14).bind fun x15 => if x15 ≤ l6 then (some (.inl (some (.int l4)), h)) else (kO h l0 4 (cI (s_X4_behind l0 l1 l2 l6 l3 h) fun x27 h27 => if x27 ≤ l5 then (k9 l0 l1 l2 l3 l4 l5 (l6 + 1) h27) else (k9 l0 l1 l2 l3 l6 x27 (l6 + 1) h27)))
def s_X4_hardestWorld_9  (n : Nat) : Nat → Int32 → Int32 → Int32 → Int32 → Int32 → Int32 → aH → aO := lpF (fun _ _ _ _ _ _ _ _ => none) (s_X4_hardestWorld_9_b ) n
def s_X4_hardestWorld (o : Nat) (a1 : Int32) (a2 : Int32) (a3 : Int32) (h : aH) : aO :=
  s_X4_hardestWorld_9 FU o a1 a2 a3 0 (-1) 0 h
section
variable {p : Program} {l : Launch} {e : Env} {s : State} {m : MethodId} {args : Array Value} {below : List Frame} {meth : Method} {c : Code} {D : va_G} {B0 : Nat} {X : Nat → Nat} {ws0 : va_W} {r : aR} {h' : aH} {mc ms : Nat}
theorem t_X4_hardestWorld_9_b (C : Cx p l s m args meth c B0 X RX4 "hardestWorld" cX4_hardestWorld 8 (some .int) [])   {k9 : Nat → Int32 → Int32 → Int32 → Int32 → Int32 → Int32 → aH → aO} (K9 : ∀ (l0 : Nat) (l1 : Int32) (l2 : Int32) (l3 : Int32) (l4 : Int32) (l5 : Int32) (l6 : Int32) (h : aH), k9 l0 l1 l2 l3 l4 l5 l6 h = some (r, h') → Ev p l e { frames := 2, cells := mc, slots := ms, locals := 48 } s m args below meth c D B0 X ws0 r h' mc ms 8 mc ms 9 [some (.ref l0), some (.int l1), some (.int l2), some (.int l3), some (.int l4), some (.int l5), some (.int l6), none] [] h) {l0 : Nat} {l1 : Int32} {l2 : Int32} {l3 : Int32} {l4 : Int32} {l5 : Int32} {l6 : Int32} {h : aH} (hs : s_X4_hardestWorld_9_b  k9 l0 l1 l2 l3 l4 l5 l6 h = some (r, h')) : Ev p l e { frames := 2, cells := mc, slots := ms, locals := 48 } s m args below meth c D B0 X ws0 r h' mc ms 8 mc ms 9 [some (.ref l0), some (.int l1), some (.int l2), some (.int l3), some (.int l4), some (.int l5), some (.int l6), none] [] h := by
  unfold s_X4_hardestWorld_9_b at hs
  refine ev_iload C rfl dX4_hardestWorld_9 ?_
  refine ev_aload_n C (x := .ref l0) rfl trivial dX4_hardestWorld_11 ?_
  obtain ⟨x12, e12, hs⟩ := aB hs
  refine ev_get C (ci := 4) (k := 0) rfl wu_4 (by decide) wf_X4_22 (gO_F e12) dX4_hardestWorld_12 ?_
  obtain ⟨x15, e15, hs⟩ := aB hs
  refine ev_getN C (ci := 2) (k := 14) rfl wu_2 (by decide) wg_X4_71 (gI_F e15) dX4_hardestWorld_15 ?_
  refine ev_icmp_ge C (tgt := 53) (by decide) dX4_hardestWorld_18 (fun q18 => ?_) (fun q18 => ?_)
  · replace hs := (if_pos q18).symm.trans hs
    refine ev_iload C rfl dX4_hardestWorld_53 ?_
    cases hs
    exact ev_iret C rfl rfl (Nat.le_refl _) (Nat.le_refl _) rfl dX4_hardestWorld_55
  · replace hs := (if_neg q18).symm.trans hs
    refine ev_aload_n C (x := .ref l0) rfl trivial dX4_hardestWorld_21 ?_
    refine ev_iload_n C rfl dX4_hardestWorld_22 ?_
    refine ev_iload_n C rfl dX4_hardestWorld_23 ?_
    refine ev_iload C rfl dX4_hardestWorld_24 ?_
    refine ev_iload_n C rfl dX4_hardestWorld_26 ?_
    obtain ⟨eo27, hs⟩ := kO_at hs
    obtain ⟨x27, h27, e27, hs⟩ := cI_at hs
    refine ev_callV C (T_X4_behind _ _ _ _ _ _ _ _ e27) (ci := 4) rfl eo27 wc_X4_behind wm_X4_74 wi_X4_behind ws_X4_behind wz_X4 hy_X4_behind ⟨(Nat.le_of_ble_eq_true rfl), (Nat.le_of_ble_eq_true rfl)⟩ ⟨(Nat.le_refl _), (Nat.le_refl _)⟩ (Nat.le_of_ble_eq_true rfl) rfl dX4_hardestWorld_27 ?_
    refine ev_istore C (by decide) dX4_hardestWorld_30 ?_
    refine ev_iload C rfl dX4_hardestWorld_32 ?_
    refine ev_iload C rfl dX4_hardestWorld_34 ?_
    refine ev_icmp_le C (tgt := 47) (by decide) dX4_hardestWorld_36 (fun q36 => ?_) (fun q36 => ?_)
    · replace hs := (if_pos q36).symm.trans hs
      refine ev_iinc C (i := 6) (n := 1) (x := l6) (v := l6 + 1) rfl (congrArg (fun z => l6 + z) (show Int32.ofInt 1 = 1 by decide)) (by decide) dX4_hardestWorld_47 ?_
      refine ev_goto C (tgt := 9) (by decide) dX4_hardestWorld_50 ?_
      exact Ev.keep [true, true, true, true, true, true, true, false] (K9 _ _ _ _ _ _ _ _ hs)
    · replace hs := (if_neg q36).symm.trans hs
      refine ev_iload C rfl dX4_hardestWorld_39 ?_
      refine ev_istore C (by decide) dX4_hardestWorld_41 ?_
      refine ev_iload C rfl dX4_hardestWorld_43 ?_
      refine ev_istore C (by decide) dX4_hardestWorld_45 ?_
      refine ev_iinc C (i := 6) (n := 1) (x := l6) (v := l6 + 1) rfl (congrArg (fun z => l6 + z) (show Int32.ofInt 1 = 1 by decide)) (by decide) dX4_hardestWorld_47 ?_
      refine ev_goto C (tgt := 9) (by decide) dX4_hardestWorld_50 ?_
      exact Ev.keep [true, true, true, true, true, true, true, false] (K9 _ _ _ _ _ _ _ _ hs)
theorem t_X4_hardestWorld_9 (C : Cx p l s m args meth c B0 X RX4 "hardestWorld" cX4_hardestWorld 8 (some .int) [])   : ∀ (n : Nat) {l0 : Nat} {l1 : Int32} {l2 : Int32} {l3 : Int32} {l4 : Int32} {l5 : Int32} {l6 : Int32} {h : aH} (hs : s_X4_hardestWorld_9  n l0 l1 l2 l3 l4 l5 l6 h = some (r, h')), Ev p l e { frames := 2, cells := mc, slots := ms, locals := 48 } s m args below meth c D B0 X ws0 r h' mc ms 8 mc ms 9 [some (.ref l0), some (.int l1), some (.int l2), some (.int l3), some (.int l4), some (.int l5), some (.int l6), none] [] h
  | 0, _, _, _, _, _, _, _, _, hs => nomatch hs
  | n + 1, _, _, _, _, _, _, _, _, hs => t_X4_hardestWorld_9_b C  (k9 := s_X4_hardestWorld_9  n) (fun _ _ _ _ _ _ _ _ hs => t_X4_hardestWorld_9 C  n hs) hs
theorem hy_X4_hardestWorld : yX4_hardestWorld.cls ≠ "java/lang/invoke/MethodHandle" ∧ yX4_hardestWorld.cls ≠ "java/lang/invoke/VarHandle" ∧ (parseMethodDescriptor yX4_hardestWorld.desc).map (fun d => d.parameters.length) = some 3 := by decide +kernel
theorem T_X4_hardestWorld (o : Nat) (a1 : Int32) (a2 : Int32) (a3 : Int32) (h : aH) (r : aR) (h' : aH) (hs : s_X4_hardestWorld o a1 a2 a3 h = some (r, h')) : Mt yX4_hardestWorld (Cond.code yX4_hardestWorld cX4_hardestWorld 8 (some .int) :: aTB) 2 48 0 0 [.ref o, .int a1, .int a2, .int a3] h r h' := by
  unfold s_X4_hardestWorld at hs
  refine Mt_of (k := 4) (by decide) rfl (fun p l e s m args below meth c D B0 X ws0 C => ?_)
  show Ev p l e { frames := 2, cells := 0, slots := 0, locals := 48 } s m args below meth c D B0 X ws0 r h' 0 0 8 0 0 0 [some (.ref o), some (.int a1), some (.int a2), some (.int a3), none, none, none, none] [] h
  refine ev_iconst C (v := 0) dX4_hardestWorld_0 (by decide) ?_
  refine ev_istore C (by decide) dX4_hardestWorld_1 ?_
  refine ev_iconst C (v := (-1)) dX4_hardestWorld_3 (by decide) ?_
  refine ev_istore C (by decide) dX4_hardestWorld_4 ?_
  refine ev_iconst C (v := 0) dX4_hardestWorld_6 (by decide) ?_
  refine ev_istore C (by decide) dX4_hardestWorld_7 ?_
  exact (t_X4_hardestWorld_9 C  FU hs)
end
-- X4_hardest
theorem dX4_hardest_0 : decode cX4_hardest 0 = .ok (.iload_n 1, 1) := by decide +kernel
theorem dX4_hardest_1 : decode cX4_hardest 1 = .ok (.istore 4, 2) := by decide +kernel
theorem dX4_hardest_3 : decode cX4_hardest 3 = .ok (.bipush (-2), 2) := by decide +kernel
theorem dX4_hardest_5 : decode cX4_hardest 5 = .ok (.istore 5, 2) := by decide +kernel
theorem dX4_hardest_7 : decode cX4_hardest 7 = .ok (.iconst 0, 1) := by decide +kernel
theorem dX4_hardest_8 : decode cX4_hardest 8 = .ok (.istore 6, 2) := by decide +kernel
theorem dX4_hardest_10 : decode cX4_hardest 10 = .ok (.iload 6, 2) := by decide +kernel
theorem dX4_hardest_12 : decode cX4_hardest 12 = .ok (.iload_n 3, 1) := by decide +kernel
theorem dX4_hardest_13 : decode cX4_hardest 13 = .ok (.if_icmp .gt 70, 3) := by decide +kernel
theorem dX4_hardest_16 : decode cX4_hardest 16 = .ok (.iload 4, 2) := by decide +kernel
theorem dX4_hardest_18 : decode cX4_hardest 18 = .ok (.ifCond .lt 15, 3) := by decide +kernel
theorem dX4_hardest_21 : decode cX4_hardest 21 = .ok (.aload_n 0, 1) := by decide +kernel
theorem dX4_hardest_22 : decode cX4_hardest 22 = .ok (.getfield 30, 3) := by decide +kernel
theorem dX4_hardest_25 : decode cX4_hardest 25 = .ok (.iload 4, 2) := by decide +kernel
theorem dX4_hardest_27 : decode cX4_hardest 27 = .ok (.invokevirtual 43, 3) := by decide +kernel
theorem dX4_hardest_30 : decode cX4_hardest 30 = .ok (.ifCond .ne 6, 3) := by decide +kernel
theorem dX4_hardest_33 : decode cX4_hardest 33 = .ok (.bipush (-2), 2) := by decide +kernel
theorem dX4_hardest_35 : decode cX4_hardest 35 = .ok (.ireturn, 1) := by decide +kernel
theorem dX4_hardest_36 : decode cX4_hardest 36 = .ok (.aload_n 0, 1) := by decide +kernel
theorem dX4_hardest_37 : decode cX4_hardest 37 = .ok (.iload 4, 2) := by decide +kernel
theorem dX4_hardest_39 : decode cX4_hardest 39 = .ok (.iload_n 2, 1) := by decide +kernel
theorem dX4_hardest_40 : decode cX4_hardest 40 = .ok (.iload 6, 2) := by decide +kernel
theorem dX4_hardest_42 : decode cX4_hardest 42 = .ok (.isub, 1) := by decide +kernel
theorem dX4_hardest_43 : decode cX4_hardest 43 = .ok (.invokevirtual 86, 3) := by decide +kernel
theorem dX4_hardest_46 : decode cX4_hardest 46 = .ok (.istore 7, 2) := by decide +kernel
theorem dX4_hardest_48 : decode cX4_hardest 48 = .ok (.aload_n 0, 1) := by decide +kernel
theorem dX4_hardest_49 : decode cX4_hardest 49 = .ok (.iload 4, 2) := by decide +kernel
theorem dX4_hardest_51 : decode cX4_hardest 51 = .ok (.iload 7, 2) := by decide +kernel
theorem dX4_hardest_53 : decode cX4_hardest 53 = .ok (.iload_n 2, 1) := by decide +kernel
theorem dX4_hardest_54 : decode cX4_hardest 54 = .ok (.iload 6, 2) := by decide +kernel
theorem dX4_hardest_56 : decode cX4_hardest 56 = .ok (.isub, 1) := by decide +kernel
theorem dX4_hardest_57 : decode cX4_hardest 57 = .ok (.invokevirtual 89, 3) := by decide +kernel
theorem dX4_hardest_60 : decode cX4_hardest 60 = .ok (.istore 5, 2) := by decide +kernel
theorem dX4_hardest_62 : decode cX4_hardest 62 = .ok (.aload_n 0, 1) := by decide +kernel
theorem dX4_hardest_63 : decode cX4_hardest 63 = .ok (.getfield 26, 3) := by decide +kernel
theorem dX4_hardest_66 : decode cX4_hardest 66 = .ok (.iload 4, 2) := by decide +kernel
theorem dX4_hardest_68 : decode cX4_hardest 68 = .ok (.iload 7, 2) := by decide +kernel
theorem dX4_hardest_70 : decode cX4_hardest 70 = .ok (.iload 5, 2) := by decide +kernel
theorem dX4_hardest_72 : decode cX4_hardest 72 = .ok (.invokevirtual 81, 3) := by decide +kernel
theorem dX4_hardest_75 : decode cX4_hardest 75 = .ok (.istore 4, 2) := by decide +kernel
theorem dX4_hardest_77 : decode cX4_hardest 77 = .ok (.iinc 6 1, 3) := by decide +kernel
theorem dX4_hardest_80 : decode cX4_hardest 80 = .ok (.goto (-70), 3) := by decide +kernel
theorem dX4_hardest_83 : decode cX4_hardest 83 = .ok (.iload 5, 2) := by decide +kernel
theorem dX4_hardest_85 : decode cX4_hardest 85 = .ok (.ireturn, 1) := by decide +kernel
def s_X4_hardest_10_b  (k10 : Nat → Int32 → Int32 → Int32 → Int32 → Int32 → aH → aO) (l0 : Nat) (l2 : Int32) (l3 : Int32) (l4 : Int32) (l5 : Int32) (l6 : Int32) (h : aH) : aO :=
  if l3 < l6 then (some (.inl (some (.int l5)), h)) else (if l4 < 0 then (some (.inl (some (.int (-2))), h)) else ((gO h (.ref l0) 4 2).bind fun x22 => kO h x22 10 (cI (s_X10_isGood x22 l4 h) fun x27 h27 => if x27 = 0 then (some (.inl (some (.int (-2))), h27)) else (kO h27 l0 4 (cI (s_X4_lawOf l0 l4 (l2 - l6) h27) fun x43 h43 => kO h43 l0 4 (cI (s_X4_hardestWorld l0 l4 x43 (l2 - l6) h43) fun x57 h57 => (gO h57 (.ref l0) 4 1).bind fun x63 => kO h57 x63 3 (cI (s_X3_leadOf x63 l4 x43 x57 h57) fun x72 h72 => k10 l0 l2 l3 x72 x57 (l6 + 1) h72)))))))
def s_X4_hardest_10  (n : Nat) : Nat → Int32 → Int32 → Int32 → Int32 → Int32 → aH → aO := lpF (fun _ _ _ _ _ _ _ => none) (s_X4_hardest_10_b ) n
def s_X4_hardest (o : Nat) (a1 : Int32) (a2 : Int32) (a3 : Int32) (h : aH) : aO :=
  s_X4_hardest_10 FU o a2 a3 a1 (-2) 0 h
section
variable {p : Program} {l : Launch} {e : Env} {s : State} {m : MethodId} {args : Array Value} {below : List Frame} {meth : Method} {c : Code} {D : va_G} {B0 : Nat} {X : Nat → Nat} {ws0 : va_W} {r : aR} {h' : aH} {mc ms : Nat}
theorem t_X4_hardest_10_b (C : Cx p l s m args meth c B0 X RX4 "hardest" cX4_hardest 8 (some .int) [])   {k10 : Nat → Int32 → Int32 → Int32 → Int32 → Int32 → aH → aO} (K10 : ∀ (l0 : Nat) (l2 : Int32) (l3 : Int32) (l4 : Int32) (l5 : Int32) (l6 : Int32) (h : aH), k10 l0 l2 l3 l4 l5 l6 h = some (r, h') → Ev p l e { frames := 3, cells := mc, slots := ms, locals := 75 } s m args below meth c D B0 X ws0 r h' mc ms 8 mc ms 10 [some (.ref l0), none, some (.int l2), some (.int l3), some (.int l4), some (.int l5), some (.int l6), none] [] h) {l0 : Nat} {l2 : Int32} {l3 : Int32} {l4 : Int32} {l5 : Int32} {l6 : Int32} {h : aH} (hs : s_X4_hardest_10_b  k10 l0 l2 l3 l4 l5 l6 h = some (r, h')) : Ev p l e { frames := 3, cells := mc, slots := ms, locals := 75 } s m args below meth c D B0 X ws0 r h' mc ms 8 mc ms 10 [some (.ref l0), none, some (.int l2), some (.int l3), some (.int l4), some (.int l5), some (.int l6), none] [] h := by
  unfold s_X4_hardest_10_b at hs
  refine ev_iload C rfl dX4_hardest_10 ?_
  refine ev_iload_n C rfl dX4_hardest_12 ?_
  refine ev_icmp_gt C (tgt := 83) (by decide) dX4_hardest_13 (fun q13 => ?_) (fun q13 => ?_)
  · replace hs := (if_pos q13).symm.trans hs
    refine ev_iload C rfl dX4_hardest_83 ?_
    cases hs
    exact ev_iret C rfl rfl (Nat.le_refl _) (Nat.le_refl _) rfl dX4_hardest_85
  · replace hs := (if_neg q13).symm.trans hs
    refine ev_iload C rfl dX4_hardest_16 ?_
    refine ev_if_lt C (tgt := 33) (by decide) dX4_hardest_18 (fun q18 => ?_) (fun q18 => ?_)
    · replace hs := (if_pos q18).symm.trans hs
      refine ev_bipush C (v := (-2)) dX4_hardest_33 (by decide) ?_
      cases hs
      exact ev_iret C rfl rfl (Nat.le_refl _) (Nat.le_refl _) rfl dX4_hardest_35
    · replace hs := (if_neg q18).symm.trans hs
      refine ev_aload_n C (x := .ref l0) rfl trivial dX4_hardest_21 ?_
      obtain ⟨x22, e22, hs⟩ := aB hs
      refine ev_get C (ci := 4) (k := 2) rfl wu_4 (by decide) wf_X4_30 (gO_F e22) dX4_hardest_22 ?_
      refine ev_iload C rfl dX4_hardest_25 ?_
      obtain ⟨eo27, hs⟩ := kO_at hs
      obtain ⟨x27, h27, e27, hs⟩ := cI_at hs
      refine ev_callVN C (T_X10_isGood _ _ _ _ _ e27) (ci := 10) rfl eo27 wc_X10_isGood wn_X4_43 wi_X10_isGood ws_X10_isGood wz_X10 hy_X10_isGood ⟨(Nat.le_of_ble_eq_true rfl), (Nat.le_of_ble_eq_true rfl)⟩ ⟨(Nat.le_refl _), (Nat.le_refl _)⟩ (Nat.le_of_ble_eq_true rfl) rfl dX4_hardest_27 ?_
      refine ev_if_ne C (tgt := 36) (by decide) dX4_hardest_30 (fun q30 => ?_) (fun q30 => ?_)
      · replace hs := (if_neg q30).symm.trans hs
        refine ev_aload_n C (x := .ref l0) rfl trivial dX4_hardest_36 ?_
        refine ev_iload C rfl dX4_hardest_37 ?_
        refine ev_iload_n C rfl dX4_hardest_39 ?_
        refine ev_iload C rfl dX4_hardest_40 ?_
        refine ev_isub C dX4_hardest_42 ?_
        obtain ⟨eo43, hs⟩ := kO_at hs
        obtain ⟨x43, h43, e43, hs⟩ := cI_at hs
        refine ev_callV C (T_X4_lawOf _ _ _ _ _ _ e43) (ci := 4) rfl eo43 wc_X4_lawOf wm_X4_86 wi_X4_lawOf ws_X4_lawOf wz_X4 hy_X4_lawOf ⟨(Nat.le_of_ble_eq_true rfl), (Nat.le_of_ble_eq_true rfl)⟩ ⟨(Nat.le_refl _), (Nat.le_refl _)⟩ (Nat.le_of_ble_eq_true rfl) rfl dX4_hardest_43 ?_
        refine ev_istore C (by decide) dX4_hardest_46 ?_
        refine ev_aload_n C (x := .ref l0) rfl trivial dX4_hardest_48 ?_
        refine ev_iload C rfl dX4_hardest_49 ?_
        refine ev_iload C rfl dX4_hardest_51 ?_
        refine ev_iload_n C rfl dX4_hardest_53 ?_
        refine ev_iload C rfl dX4_hardest_54 ?_
        refine ev_isub C dX4_hardest_56 ?_
        obtain ⟨eo57, hs⟩ := kO_at hs
        obtain ⟨x57, h57, e57, hs⟩ := cI_at hs
        refine ev_callV C (T_X4_hardestWorld _ _ _ _ _ _ _ e57) (ci := 4) rfl eo57 wc_X4_hardestWorld wm_X4_89 wi_X4_hardestWorld ws_X4_hardestWorld wz_X4 hy_X4_hardestWorld ⟨(Nat.le_of_ble_eq_true rfl), (Nat.le_of_ble_eq_true rfl)⟩ ⟨(Nat.le_refl _), (Nat.le_refl _)⟩ (Nat.le_of_ble_eq_true rfl) rfl dX4_hardest_57 ?_
        refine ev_istore C (by decide) dX4_hardest_60 ?_
        refine ev_aload_n C (x := .ref l0) rfl trivial dX4_hardest_62 ?_
        obtain ⟨x63, e63, hs⟩ := aB hs
        refine ev_get C (ci := 4) (k := 1) rfl wu_4 (by decide) wf_X4_26 (gO_F e63) dX4_hardest_63 ?_
        refine ev_iload C rfl dX4_hardest_66 ?_
        refine ev_iload C rfl dX4_hardest_68 ?_
        refine ev_iload C rfl dX4_hardest_70 ?_
        obtain ⟨eo72, hs⟩ := kO_at hs
        obtain ⟨x72, h72, e72, hs⟩ := cI_at hs
        refine ev_callVN C (T_X3_leadOf _ _ _ _ _ _ _ e72) (ci := 3) rfl eo72 wc_X3_leadOf wn_X4_81 wi_X3_leadOf ws_X3_leadOf wz_X3 hy_X3_leadOf ⟨(Nat.le_of_ble_eq_true rfl), (Nat.le_of_ble_eq_true rfl)⟩ ⟨(Nat.le_refl _), (Nat.le_refl _)⟩ (Nat.le_of_ble_eq_true rfl) rfl dX4_hardest_72 ?_
        refine ev_istore C (by decide) dX4_hardest_75 ?_
        refine ev_iinc C (i := 6) (n := 1) (x := l6) (v := l6 + 1) rfl (congrArg (fun z => l6 + z) (show Int32.ofInt 1 = 1 by decide)) (by decide) dX4_hardest_77 ?_
        refine ev_goto C (tgt := 10) (by decide) dX4_hardest_80 ?_
        exact Ev.keep [true, true, true, true, true, true, true, false] (K10 _ _ _ _ _ _ _ hs)
      · replace hs := (if_pos q30).symm.trans hs
        refine ev_bipush C (v := (-2)) dX4_hardest_33 (by decide) ?_
        cases hs
        exact ev_iret C rfl rfl (Nat.le_refl _) (Nat.le_refl _) rfl dX4_hardest_35
theorem t_X4_hardest_10 (C : Cx p l s m args meth c B0 X RX4 "hardest" cX4_hardest 8 (some .int) [])   : ∀ (n : Nat) {l0 : Nat} {l2 : Int32} {l3 : Int32} {l4 : Int32} {l5 : Int32} {l6 : Int32} {h : aH} (hs : s_X4_hardest_10  n l0 l2 l3 l4 l5 l6 h = some (r, h')), Ev p l e { frames := 3, cells := mc, slots := ms, locals := 75 } s m args below meth c D B0 X ws0 r h' mc ms 8 mc ms 10 [some (.ref l0), none, some (.int l2), some (.int l3), some (.int l4), some (.int l5), some (.int l6), none] [] h
  | 0, _, _, _, _, _, _, _, hs => nomatch hs
  | n + 1, _, _, _, _, _, _, _, hs => t_X4_hardest_10_b C  (k10 := s_X4_hardest_10  n) (fun _ _ _ _ _ _ _ hs => t_X4_hardest_10 C  n hs) hs
theorem hy_X4_hardest : yX4_hardest.cls ≠ "java/lang/invoke/MethodHandle" ∧ yX4_hardest.cls ≠ "java/lang/invoke/VarHandle" ∧ (parseMethodDescriptor yX4_hardest.desc).map (fun d => d.parameters.length) = some 3 := by decide +kernel
theorem T_X4_hardest (o : Nat) (a1 : Int32) (a2 : Int32) (a3 : Int32) (h : aH) (r : aR) (h' : aH) (hs : s_X4_hardest o a1 a2 a3 h = some (r, h')) : Mt yX4_hardest (Cond.code yX4_hardest cX4_hardest 8 (some .int) :: aTB) 3 75 0 0 [.ref o, .int a1, .int a2, .int a3] h r h' := by
  unfold s_X4_hardest at hs
  refine Mt_of (k := 4) (by decide) rfl (fun p l e s m args below meth c D B0 X ws0 C => ?_)
  show Ev p l e { frames := 3, cells := 0, slots := 0, locals := 75 } s m args below meth c D B0 X ws0 r h' 0 0 8 0 0 0 [some (.ref o), some (.int a1), some (.int a2), some (.int a3), none, none, none, none] [] h
  refine ev_iload_n C rfl dX4_hardest_0 ?_
  refine ev_istore C (by decide) dX4_hardest_1 ?_
  refine ev_bipush C (v := (-2)) dX4_hardest_3 (by decide) ?_
  refine ev_istore C (by decide) dX4_hardest_5 ?_
  refine ev_iconst C (v := 0) dX4_hardest_7 (by decide) ?_
  refine ev_istore C (by decide) dX4_hardest_8 ?_
  exact Ev.keep [true, false, true, true, true, true, true, true] (t_X4_hardest_10 C  FU hs)
end
-- X5_init
theorem dX5_init_0 : decode cX5_init 0 = .ok (.aload_n 0, 1) := by decide +kernel
theorem dX5_init_1 : decode cX5_init 1 = .ok (.invokespecial 3, 3) := by decide +kernel
theorem dX5_init_4 : decode cX5_init 4 = .ok (.aload_n 0, 1) := by decide +kernel
theorem dX5_init_5 : decode cX5_init 5 = .ok (.bipush 9, 2) := by decide +kernel
theorem dX5_init_7 : decode cX5_init 7 = .ok (.newarray .int, 2) := by decide +kernel
theorem dX5_init_9 : decode cX5_init 9 = .ok (.putfield 9, 3) := by decide +kernel
theorem dX5_init_12 : decode cX5_init 12 = .ok (.aload_n 0, 1) := by decide +kernel
theorem dX5_init_13 : decode cX5_init 13 = .ok (.iconst 3, 1) := by decide +kernel
theorem dX5_init_14 : decode cX5_init 14 = .ok (.newarray .int, 2) := by decide +kernel
theorem dX5_init_16 : decode cX5_init 16 = .ok (.putfield 15, 3) := by decide +kernel
theorem dX5_init_19 : decode cX5_init 19 = .ok (.aload_n 0, 1) := by decide +kernel
theorem dX5_init_20 : decode cX5_init 20 = .ok (.sipush 400, 3) := by decide +kernel
theorem dX5_init_23 : decode cX5_init 23 = .ok (.newarray .int, 2) := by decide +kernel
theorem dX5_init_25 : decode cX5_init 25 = .ok (.putfield 18, 3) := by decide +kernel
theorem dX5_init_28 : decode cX5_init 28 = .ok (.aload_n 0, 1) := by decide +kernel
theorem dX5_init_29 : decode cX5_init 29 = .ok (.sipush 400, 3) := by decide +kernel
theorem dX5_init_32 : decode cX5_init 32 = .ok (.newarray .int, 2) := by decide +kernel
theorem dX5_init_34 : decode cX5_init 34 = .ok (.putfield 21, 3) := by decide +kernel
theorem dX5_init_37 : decode cX5_init 37 = .ok (.aload_n 0, 1) := by decide +kernel
theorem dX5_init_38 : decode cX5_init 38 = .ok (.aload_n 1, 1) := by decide +kernel
theorem dX5_init_39 : decode cX5_init 39 = .ok (.putfield 24, 3) := by decide +kernel
theorem dX5_init_42 : decode cX5_init 42 = .ok (.aload_n 0, 1) := by decide +kernel
theorem dX5_init_43 : decode cX5_init 43 = .ok (.aload_n 2, 1) := by decide +kernel
theorem dX5_init_44 : decode cX5_init 44 = .ok (.putfield 28, 3) := by decide +kernel
theorem dX5_init_47 : decode cX5_init 47 = .ok (.aload_n 0, 1) := by decide +kernel
theorem dX5_init_48 : decode cX5_init 48 = .ok (.aload_n 3, 1) := by decide +kernel
theorem dX5_init_49 : decode cX5_init 49 = .ok (.putfield 32, 3) := by decide +kernel
theorem dX5_init_52 : decode cX5_init 52 = .ok (.aload_n 0, 1) := by decide +kernel
theorem dX5_init_53 : decode cX5_init 53 = .ok (.aload 4, 2) := by decide +kernel
theorem dX5_init_55 : decode cX5_init 55 = .ok (.putfield 36, 3) := by decide +kernel
theorem dX5_init_58 : decode cX5_init 58 = .ok (.return_, 1) := by decide +kernel
def s_X5_init (o : Nat) (a1 : Nat) (a2 : Nat) (a3 : Nat) (a4 : Nat) (h : aH) : aP :=
  bP (nwA .int h 9) fun o7 h7 => ck (0 + 1) (0 + Int32.toNatClampNeg 9) ((pF h7 (.ref o) 5 4 (.ref o7)).bind fun h9 => bP (nwA .int h9 3) fun o14 h14 => ck (0 + 1 + 1) (0 + Int32.toNatClampNeg 9 + Int32.toNatClampNeg 3) ((pF h14 (.ref o) 5 5 (.ref o14)).bind fun h16 => bP (nwA .int h16 400) fun o23 h23 => ck (0 + 1 + 1 + 1) (0 + Int32.toNatClampNeg 9 + Int32.toNatClampNeg 3 + Int32.toNatClampNeg 400) ((pF h23 (.ref o) 5 9 (.ref o23)).bind fun h25 => bP (nwA .int h25 400) fun o32 h32 => ck (0 + 1 + 1 + 1 + 1) (0 + Int32.toNatClampNeg 9 + Int32.toNatClampNeg 3 + Int32.toNatClampNeg 400 + Int32.toNatClampNeg 400) (wC (0 + 1 + 1 + 1 + 1) (0 + Int32.toNatClampNeg 9 + Int32.toNatClampNeg 3 + Int32.toNatClampNeg 400 + Int32.toNatClampNeg 400) ((pF h32 (.ref o) 5 10 (.ref o32)).bind fun h34 => (pF h34 (.ref o) 5 0 (.ref a1)).bind fun h39 => (pF h39 (.ref o) 5 1 (.ref a2)).bind fun h44 => (pF h44 (.ref o) 5 2 (.ref a3)).bind fun h49 => (pF h49 (.ref o) 5 3 (.ref a4)).bind fun h55 => some (.inl none, h55))))))
section
variable {p : Program} {l : Launch} {e : Env} {s : State} {m : MethodId} {args : Array Value} {below : List Frame} {meth : Method} {c : Code} {D : va_G} {B0 : Nat} {X : Nat → Nat} {ws0 : va_W} {r : aR} {h' : aH} {mc ms : Nat}
theorem hy_X5_init : yX5_init.cls ≠ "java/lang/invoke/MethodHandle" ∧ yX5_init.cls ≠ "java/lang/invoke/VarHandle" ∧ (parseMethodDescriptor yX5_init.desc).map (fun d => d.parameters.length) = some 4 := by decide +kernel
theorem T_X5_init (o : Nat) (a1 : Nat) (a2 : Nat) (a3 : Nat) (a4 : Nat) (h : aH) (r : aR) (h' : aH) (mc ms : Nat) (hs : s_X5_init o a1 a2 a3 a4 h = some (r, h', mc, ms)) : Mt yX5_init (Cond.code yX5_init cX5_init 5 none :: aTB) 1 20 mc ms [.ref o, .ref a1, .ref a2, .ref a3, .ref a4] h r h' := by
  unfold s_X5_init at hs
  refine Mt_of (k := 0) (by decide) rfl (fun p l e s m args below meth c D B0 X ws0 C => ?_)
  show Ev p l e { frames := 1, cells := mc, slots := ms, locals := 20 } s m args below meth c D B0 X ws0 r h' mc ms 5 0 0 0 [some (.ref o), some (.ref a1), some (.ref a2), some (.ref a3), some (.ref a4)] [] h
  refine ev_aload_n C (x := .ref o) rfl trivial dX5_init_0 ?_
  refine ev_objInit C wm_X5_3 wi_oinit wc_oinit (Nat.le_of_ble_eq_true rfl) (Nat.le_of_ble_eq_true rfl) dX5_init_1 ?_
  refine ev_aload_n C (x := .ref o) rfl trivial dX5_init_4 ?_
  refine ev_bipush C (v := 9) dX5_init_5 (by decide) ?_
  obtain ⟨o7, h7, e7, hs⟩ := bP_at hs
  obtain ⟨c7, z7, hs⟩ := ck_at hs
  refine ev_newa C (atype := .int) (ty := .int) rfl wa_int (fun _ _ => rfl) e7 c7 z7 dX5_init_7 ?_
  obtain ⟨h9, e9, hs⟩ := aB hs
  refine ev_putF C (ci := 5) (k := 4) rfl wu_5 (by decide) tyX5 tyX5_ok nmX5 wf_X5_9 rfl rfl rfl trivial e9 dX5_init_9 ?_
  refine ev_aload_n C (x := .ref o) rfl trivial dX5_init_12 ?_
  refine ev_iconst C (v := 3) dX5_init_13 (by decide) ?_
  obtain ⟨o14, h14, e14, hs⟩ := bP_at hs
  obtain ⟨c14, z14, hs⟩ := ck_at hs
  refine ev_newa C (atype := .int) (ty := .int) rfl wa_int (fun _ _ => rfl) e14 c14 z14 dX5_init_14 ?_
  obtain ⟨h16, e16, hs⟩ := aB hs
  refine ev_putF C (ci := 5) (k := 5) rfl wu_5 (by decide) tyX5 tyX5_ok nmX5 wf_X5_15 rfl rfl rfl trivial e16 dX5_init_16 ?_
  refine ev_aload_n C (x := .ref o) rfl trivial dX5_init_19 ?_
  refine ev_sipush C (v := 400) dX5_init_20 (by decide) ?_
  obtain ⟨o23, h23, e23, hs⟩ := bP_at hs
  obtain ⟨c23, z23, hs⟩ := ck_at hs
  refine ev_newa C (atype := .int) (ty := .int) rfl wa_int (fun _ _ => rfl) e23 c23 z23 dX5_init_23 ?_
  obtain ⟨h25, e25, hs⟩ := aB hs
  refine ev_putF C (ci := 5) (k := 9) rfl wu_5 (by decide) tyX5 tyX5_ok nmX5 wf_X5_18 rfl rfl rfl trivial e25 dX5_init_25 ?_
  refine ev_aload_n C (x := .ref o) rfl trivial dX5_init_28 ?_
  refine ev_sipush C (v := 400) dX5_init_29 (by decide) ?_
  obtain ⟨o32, h32, e32, hs⟩ := bP_at hs
  obtain ⟨c32, z32, hs⟩ := ck_at hs
  refine ev_newa C (atype := .int) (ty := .int) rfl wa_int (fun _ _ => rfl) e32 c32 z32 dX5_init_32 ?_
  obtain ⟨hw9, rfl, rfl⟩ := wC_at hs
  have hs := hw9
  obtain ⟨h34, e34, hs⟩ := aB hs
  refine ev_putF C (ci := 5) (k := 10) rfl wu_5 (by decide) tyX5 tyX5_ok nmX5 wf_X5_21 rfl rfl rfl trivial e34 dX5_init_34 ?_
  refine ev_aload_n C (x := .ref o) rfl trivial dX5_init_37 ?_
  refine ev_aload_n C (x := .ref a1) rfl trivial dX5_init_38 ?_
  obtain ⟨h39, e39, hs⟩ := aB hs
  refine ev_putF C (ci := 5) (k := 0) rfl wu_5 (by decide) tyX5 tyX5_ok nmX5 wf_X5_24 rfl rfl rfl trivial e39 dX5_init_39 ?_
  refine ev_aload_n C (x := .ref o) rfl trivial dX5_init_42 ?_
  refine ev_aload_n C (x := .ref a2) rfl trivial dX5_init_43 ?_
  obtain ⟨h44, e44, hs⟩ := aB hs
  refine ev_putF C (ci := 5) (k := 1) rfl wu_5 (by decide) tyX5 tyX5_ok nmX5 wf_X5_28 rfl rfl rfl trivial e44 dX5_init_44 ?_
  refine ev_aload_n C (x := .ref o) rfl trivial dX5_init_47 ?_
  refine ev_aload_n C (x := .ref a3) rfl trivial dX5_init_48 ?_
  obtain ⟨h49, e49, hs⟩ := aB hs
  refine ev_putF C (ci := 5) (k := 2) rfl wu_5 (by decide) tyX5 tyX5_ok nmX5 wf_X5_32 rfl rfl rfl trivial e49 dX5_init_49 ?_
  refine ev_aload_n C (x := .ref o) rfl trivial dX5_init_52 ?_
  refine ev_aload C (x := .ref a4) rfl trivial dX5_init_53 ?_
  obtain ⟨h55, e55, hs⟩ := aB hs
  refine ev_putF C (ci := 5) (k := 3) rfl wu_5 (by decide) tyX5 tyX5_ok nmX5 wf_X5_36 rfl rfl rfl trivial e55 dX5_init_55 ?_
  cases hs
  exact ev_vret C rfl rfl (Nat.le_refl _) (Nat.le_refl _) rfl dX5_init_58
end
-- X5_setCode
theorem dX5_setCode_0 : decode cX5_setCode 0 = .ok (.aload_n 0, 1) := by decide +kernel
theorem dX5_setCode_1 : decode cX5_setCode 1 = .ok (.getfield 15, 3) := by decide +kernel
theorem dX5_setCode_4 : decode cX5_setCode 4 = .ok (.iconst 0, 1) := by decide +kernel
theorem dX5_setCode_5 : decode cX5_setCode 5 = .ok (.iload_n 1, 1) := by decide +kernel
theorem dX5_setCode_6 : decode cX5_setCode 6 = .ok (.iastore, 1) := by decide +kernel
theorem dX5_setCode_7 : decode cX5_setCode 7 = .ok (.aload_n 0, 1) := by decide +kernel
theorem dX5_setCode_8 : decode cX5_setCode 8 = .ok (.getfield 15, 3) := by decide +kernel
theorem dX5_setCode_11 : decode cX5_setCode 11 = .ok (.iconst 1, 1) := by decide +kernel
theorem dX5_setCode_12 : decode cX5_setCode 12 = .ok (.iload_n 2, 1) := by decide +kernel
theorem dX5_setCode_13 : decode cX5_setCode 13 = .ok (.iastore, 1) := by decide +kernel
theorem dX5_setCode_14 : decode cX5_setCode 14 = .ok (.aload_n 0, 1) := by decide +kernel
theorem dX5_setCode_15 : decode cX5_setCode 15 = .ok (.getfield 15, 3) := by decide +kernel
theorem dX5_setCode_18 : decode cX5_setCode 18 = .ok (.iconst 2, 1) := by decide +kernel
theorem dX5_setCode_19 : decode cX5_setCode 19 = .ok (.iload_n 3, 1) := by decide +kernel
theorem dX5_setCode_20 : decode cX5_setCode 20 = .ok (.iastore, 1) := by decide +kernel
theorem dX5_setCode_21 : decode cX5_setCode 21 = .ok (.aload_n 0, 1) := by decide +kernel
theorem dX5_setCode_22 : decode cX5_setCode 22 = .ok (.iload 4, 2) := by decide +kernel
theorem dX5_setCode_24 : decode cX5_setCode 24 = .ok (.putfield 54, 3) := by decide +kernel
theorem dX5_setCode_27 : decode cX5_setCode 27 = .ok (.aload_n 0, 1) := by decide +kernel
theorem dX5_setCode_28 : decode cX5_setCode 28 = .ok (.iload 5, 2) := by decide +kernel
theorem dX5_setCode_30 : decode cX5_setCode 30 = .ok (.putfield 57, 3) := by decide +kernel
theorem dX5_setCode_33 : decode cX5_setCode 33 = .ok (.return_, 1) := by decide +kernel
def s_X5_setCode (o : Nat) (a1 : Int32) (a2 : Int32) (a3 : Int32) (a4 : Int32) (a5 : Int32) (h : aH) : aO :=
  (gO h (.ref o) 5 5).bind fun x1 => (stI h (.ref x1) 0 a1).bind fun h6 => (gO h6 (.ref o) 5 5).bind fun x8 => (stI h6 (.ref x8) 1 a2).bind fun h13 => (gO h13 (.ref o) 5 5).bind fun x15 => (stI h13 (.ref x15) 2 a3).bind fun h20 => (pF h20 (.ref o) 5 6 (.int a4)).bind fun h24 => (pF h24 (.ref o) 5 7 (.int a5)).bind fun h30 => some (.inl none, h30)
section
variable {p : Program} {l : Launch} {e : Env} {s : State} {m : MethodId} {args : Array Value} {below : List Frame} {meth : Method} {c : Code} {D : va_G} {B0 : Nat} {X : Nat → Nat} {ws0 : va_W} {r : aR} {h' : aH} {mc ms : Nat}
theorem hy_X5_setCode : yX5_setCode.cls ≠ "java/lang/invoke/MethodHandle" ∧ yX5_setCode.cls ≠ "java/lang/invoke/VarHandle" ∧ (parseMethodDescriptor yX5_setCode.desc).map (fun d => d.parameters.length) = some 5 := by decide +kernel
theorem T_X5_setCode (o : Nat) (a1 : Int32) (a2 : Int32) (a3 : Int32) (a4 : Int32) (a5 : Int32) (h : aH) (r : aR) (h' : aH) (hs : s_X5_setCode o a1 a2 a3 a4 a5 h = some (r, h')) : Mt yX5_setCode (Cond.code yX5_setCode cX5_setCode 6 none :: aTB) 0 0 0 0 [.ref o, .int a1, .int a2, .int a3, .int a4, .int a5] h r h' := by
  unfold s_X5_setCode at hs
  refine Mt_of (k := 0) (by decide) rfl (fun p l e s m args below meth c D B0 X ws0 C => ?_)
  show Ev p l e { frames := 0, cells := 0, slots := 0, locals := 0 } s m args below meth c D B0 X ws0 r h' 0 0 6 0 0 0 [some (.ref o), some (.int a1), some (.int a2), some (.int a3), some (.int a4), some (.int a5)] [] h
  refine ev_aload_n C (x := .ref o) rfl trivial dX5_setCode_0 ?_
  obtain ⟨x1, e1, hs⟩ := aB hs
  refine ev_get C (ci := 5) (k := 5) rfl wu_5 (by decide) wf_X5_15 (gO_F e1) dX5_setCode_1 ?_
  refine ev_iconst C (v := 0) dX5_setCode_4 (by decide) ?_
  refine ev_iload_n C rfl dX5_setCode_5 ?_
  obtain ⟨h6, e6, hs⟩ := aB hs
  refine ev_iast C e6 dX5_setCode_6 ?_
  refine ev_aload_n C (x := .ref o) rfl trivial dX5_setCode_7 ?_
  obtain ⟨x8, e8, hs⟩ := aB hs
  refine ev_get C (ci := 5) (k := 5) rfl wu_5 (by decide) wf_X5_15 (gO_F e8) dX5_setCode_8 ?_
  refine ev_iconst C (v := 1) dX5_setCode_11 (by decide) ?_
  refine ev_iload_n C rfl dX5_setCode_12 ?_
  obtain ⟨h13, e13, hs⟩ := aB hs
  refine ev_iast C e13 dX5_setCode_13 ?_
  refine ev_aload_n C (x := .ref o) rfl trivial dX5_setCode_14 ?_
  obtain ⟨x15, e15, hs⟩ := aB hs
  refine ev_get C (ci := 5) (k := 5) rfl wu_5 (by decide) wf_X5_15 (gO_F e15) dX5_setCode_15 ?_
  refine ev_iconst C (v := 2) dX5_setCode_18 (by decide) ?_
  refine ev_iload_n C rfl dX5_setCode_19 ?_
  obtain ⟨h20, e20, hs⟩ := aB hs
  refine ev_iast C e20 dX5_setCode_20 ?_
  refine ev_aload_n C (x := .ref o) rfl trivial dX5_setCode_21 ?_
  refine ev_iload C rfl dX5_setCode_22 ?_
  obtain ⟨h24, e24, hs⟩ := aB hs
  refine ev_put C (ci := 5) (k := 6) rfl wu_5 (by decide) tyX5 tyX5_ok nmX5 wf_X5_54 rfl trivial e24 dX5_setCode_24 ?_
  refine ev_aload_n C (x := .ref o) rfl trivial dX5_setCode_27 ?_
  refine ev_iload C rfl dX5_setCode_28 ?_
  obtain ⟨h30, e30, hs⟩ := aB hs
  refine ev_put C (ci := 5) (k := 7) rfl wu_5 (by decide) tyX5 tyX5_ok nmX5 wf_X5_57 rfl trivial e30 dX5_setCode_30 ?_
  cases hs
  exact ev_vret C rfl rfl (Nat.le_refl _) (Nat.le_refl _) rfl dX5_setCode_33
end
-- X5_renew
theorem dX5_renew_0 : decode cX5_renew 0 = .ok (.aload_n 0, 1) := by decide +kernel
theorem dX5_renew_1 : decode cX5_renew 1 = .ok (.iconst 0, 1) := by decide +kernel
theorem dX5_renew_2 : decode cX5_renew 2 = .ok (.iconst 0, 1) := by decide +kernel
theorem dX5_renew_3 : decode cX5_renew 3 = .ok (.iconst 0, 1) := by decide +kernel
theorem dX5_renew_4 : decode cX5_renew 4 = .ok (.iconst 0, 1) := by decide +kernel
theorem dX5_renew_5 : decode cX5_renew 5 = .ok (.iconst 0, 1) := by decide +kernel
theorem dX5_renew_6 : decode cX5_renew 6 = .ok (.invokevirtual 40, 3) := by decide +kernel
theorem dX5_renew_9 : decode cX5_renew 9 = .ok (.aload_n 0, 1) := by decide +kernel
theorem dX5_renew_10 : decode cX5_renew 10 = .ok (.getfield 18, 3) := by decide +kernel
theorem dX5_renew_13 : decode cX5_renew 13 = .ok (.iconst (-1), 1) := by decide +kernel
theorem dX5_renew_14 : decode cX5_renew 14 = .ok (.invokestatic 44, 3) := by decide +kernel
theorem dX5_renew_17 : decode cX5_renew 17 = .ok (.aload_n 0, 1) := by decide +kernel
theorem dX5_renew_18 : decode cX5_renew 18 = .ok (.iconst 0, 1) := by decide +kernel
theorem dX5_renew_19 : decode cX5_renew 19 = .ok (.putfield 50, 3) := by decide +kernel
theorem dX5_renew_22 : decode cX5_renew 22 = .ok (.return_, 1) := by decide +kernel
def s_X5_renew (o : Nat) (h : aH) : aO :=
  kO h o 5 (cN (s_X5_setCode o 0 0 0 0 0 h) fun h6 => (gO h6 (.ref o) 5 9).bind fun x10 => cN (s_J7_fill_53178 x10 (-1) h6) fun h14 => (pF h14 (.ref o) 5 8 (.int 0)).bind fun h19 => some (.inl none, h19))
section
variable {p : Program} {l : Launch} {e : Env} {s : State} {m : MethodId} {args : Array Value} {below : List Frame} {meth : Method} {c : Code} {D : va_G} {B0 : Nat} {X : Nat → Nat} {ws0 : va_W} {r : aR} {h' : aH} {mc ms : Nat}
theorem hy_X5_renew : yX5_renew.cls ≠ "java/lang/invoke/MethodHandle" ∧ yX5_renew.cls ≠ "java/lang/invoke/VarHandle" ∧ (parseMethodDescriptor yX5_renew.desc).map (fun d => d.parameters.length) = some 0 := by decide +kernel
theorem T_X5_renew (o : Nat) (h : aH) (r : aR) (h' : aH) (hs : s_X5_renew o h = some (r, h')) : Mt yX5_renew (Cond.code yX5_renew cX5_renew 1 none :: aTB) 1 25 0 0 [.ref o] h r h' := by
  unfold s_X5_renew at hs
  refine Mt_of (k := 0) (by decide) rfl (fun p l e s m args below meth c D B0 X ws0 C => ?_)
  show Ev p l e { frames := 1, cells := 0, slots := 0, locals := 25 } s m args below meth c D B0 X ws0 r h' 0 0 1 0 0 0 [some (.ref o)] [] h
  refine ev_aload_n C (x := .ref o) rfl trivial dX5_renew_0 ?_
  refine ev_iconst C (v := 0) dX5_renew_1 (by decide) ?_
  refine ev_iconst C (v := 0) dX5_renew_2 (by decide) ?_
  refine ev_iconst C (v := 0) dX5_renew_3 (by decide) ?_
  refine ev_iconst C (v := 0) dX5_renew_4 (by decide) ?_
  refine ev_iconst C (v := 0) dX5_renew_5 (by decide) ?_
  obtain ⟨eo6, hs⟩ := kO_at hs
  obtain ⟨h6, e6, hs⟩ := cN_at hs
  refine ev_callV C (T_X5_setCode _ _ _ _ _ _ _ _ _ e6) (ci := 5) rfl eo6 wc_X5_setCode wm_X5_40 wi_X5_setCode ws_X5_setCode wz_X5 hy_X5_setCode ⟨(Nat.le_of_ble_eq_true rfl), (Nat.le_of_ble_eq_true rfl)⟩ ⟨(Nat.le_refl _), (Nat.le_refl _)⟩ (Nat.le_of_ble_eq_true rfl) rfl dX5_renew_6 ?_
  refine ev_aload_n C (x := .ref o) rfl trivial dX5_renew_9 ?_
  obtain ⟨x10, e10, hs⟩ := aB hs
  refine ev_get C (ci := 5) (k := 9) rfl wu_5 (by decide) wf_X5_18 (gO_F e10) dX5_renew_10 ?_
  refine ev_iconst C (v := (-1)) dX5_renew_13 (by decide) ?_
  obtain ⟨h14, e14, hs⟩ := cN_at hs
  refine ev_callS C (T_J7_fill_53178 _ _ _ _ _ e14) wc_J7_fill_53178 wm_X5_44 wt_J7_fill_53178 wz_J7 hy_J7_fill_53178 ⟨(Nat.le_of_ble_eq_true rfl), (Nat.le_of_ble_eq_true rfl)⟩ ⟨(Nat.le_refl _), (Nat.le_refl _)⟩ (Nat.le_of_ble_eq_true rfl) rfl dX5_renew_14 ?_
  refine ev_aload_n C (x := .ref o) rfl trivial dX5_renew_17 ?_
  refine ev_iconst C (v := 0) dX5_renew_18 (by decide) ?_
  obtain ⟨h19, e19, hs⟩ := aB hs
  refine ev_put C (ci := 5) (k := 8) rfl wu_5 (by decide) tyX5 tyX5_ok nmX5 wf_X5_50 rfl trivial e19 dX5_renew_19 ?_
  cases hs
  exact ev_vret C rfl rfl (Nat.le_refl _) (Nat.le_refl _) rfl dX5_renew_22
end
-- X5_codePush
theorem dX5_codePush_0 : decode cX5_codePush 0 = .ok (.aload_n 0, 1) := by decide +kernel
theorem dX5_codePush_1 : decode cX5_codePush 1 = .ok (.getfield 24, 3) := by decide +kernel
theorem dX5_codePush_4 : decode cX5_codePush 4 = .ok (.iconst 0, 1) := by decide +kernel
theorem dX5_codePush_5 : decode cX5_codePush 5 = .ok (.iload_n 1, 1) := by decide +kernel
theorem dX5_codePush_6 : decode cX5_codePush 6 = .ok (.iconst 0, 1) := by decide +kernel
theorem dX5_codePush_7 : decode cX5_codePush 7 = .ok (.aload_n 0, 1) := by decide +kernel
theorem dX5_codePush_8 : decode cX5_codePush 8 = .ok (.getfield 9, 3) := by decide +kernel
theorem dX5_codePush_11 : decode cX5_codePush 11 = .ok (.invokevirtual 60, 3) := by decide +kernel
theorem dX5_codePush_14 : decode cX5_codePush 14 = .ok (.aload_n 0, 1) := by decide +kernel
theorem dX5_codePush_15 : decode cX5_codePush 15 = .ok (.getfield 54, 3) := by decide +kernel
theorem dX5_codePush_18 : decode cX5_codePush 18 = .ok (.istore_n 2, 1) := by decide +kernel
theorem dX5_codePush_19 : decode cX5_codePush 19 = .ok (.iconst 0, 1) := by decide +kernel
theorem dX5_codePush_20 : decode cX5_codePush 20 = .ok (.istore_n 3, 1) := by decide +kernel
theorem dX5_codePush_21 : decode cX5_codePush 21 = .ok (.iload_n 3, 1) := by decide +kernel
theorem dX5_codePush_22 : decode cX5_codePush 22 = .ok (.aload_n 0, 1) := by decide +kernel
theorem dX5_codePush_23 : decode cX5_codePush 23 = .ok (.getfield 24, 3) := by decide +kernel
theorem dX5_codePush_26 : decode cX5_codePush 26 = .ok (.getfield 66, 3) := by decide +kernel
theorem dX5_codePush_29 : decode cX5_codePush 29 = .ok (.iconst 0, 1) := by decide +kernel
theorem dX5_codePush_30 : decode cX5_codePush 30 = .ok (.iaload, 1) := by decide +kernel
theorem dX5_codePush_31 : decode cX5_codePush 31 = .ok (.if_icmp .ge 25, 3) := by decide +kernel
theorem dX5_codePush_34 : decode cX5_codePush 34 = .ok (.iload_n 2, 1) := by decide +kernel
theorem dX5_codePush_35 : decode cX5_codePush 35 = .ok (.aload_n 0, 1) := by decide +kernel
theorem dX5_codePush_36 : decode cX5_codePush 36 = .ok (.getfield 15, 3) := by decide +kernel
theorem dX5_codePush_39 : decode cX5_codePush 39 = .ok (.iload_n 3, 1) := by decide +kernel
theorem dX5_codePush_40 : decode cX5_codePush 40 = .ok (.iaload, 1) := by decide +kernel
theorem dX5_codePush_41 : decode cX5_codePush 41 = .ok (.aload_n 0, 1) := by decide +kernel
theorem dX5_codePush_42 : decode cX5_codePush 42 = .ok (.getfield 9, 3) := by decide +kernel
theorem dX5_codePush_45 : decode cX5_codePush 45 = .ok (.iload_n 3, 1) := by decide +kernel
theorem dX5_codePush_46 : decode cX5_codePush 46 = .ok (.iaload, 1) := by decide +kernel
theorem dX5_codePush_47 : decode cX5_codePush 47 = .ok (.imul, 1) := by decide +kernel
theorem dX5_codePush_48 : decode cX5_codePush 48 = .ok (.iadd, 1) := by decide +kernel
theorem dX5_codePush_49 : decode cX5_codePush 49 = .ok (.istore_n 2, 1) := by decide +kernel
theorem dX5_codePush_50 : decode cX5_codePush 50 = .ok (.iinc 3 1, 3) := by decide +kernel
theorem dX5_codePush_53 : decode cX5_codePush 53 = .ok (.goto (-32), 3) := by decide +kernel
theorem dX5_codePush_56 : decode cX5_codePush 56 = .ok (.aload_n 0, 1) := by decide +kernel
theorem dX5_codePush_57 : decode cX5_codePush 57 = .ok (.getfield 57, 3) := by decide +kernel
theorem dX5_codePush_60 : decode cX5_codePush 60 = .ok (.ifCond .le 19, 3) := by decide +kernel
theorem dX5_codePush_63 : decode cX5_codePush 63 = .ok (.iload_n 2, 1) := by decide +kernel
theorem dX5_codePush_64 : decode cX5_codePush 64 = .ok (.iconst 1, 1) := by decide +kernel
theorem dX5_codePush_65 : decode cX5_codePush 65 = .ok (.aload_n 0, 1) := by decide +kernel
theorem dX5_codePush_66 : decode cX5_codePush 66 = .ok (.getfield 57, 3) := by decide +kernel
theorem dX5_codePush_69 : decode cX5_codePush 69 = .ok (.iconst 1, 1) := by decide +kernel
theorem dX5_codePush_70 : decode cX5_codePush 70 = .ok (.isub, 1) := by decide +kernel
theorem dX5_codePush_71 : decode cX5_codePush 71 = .ok (.ishl, 1) := by decide +kernel
theorem dX5_codePush_72 : decode cX5_codePush 72 = .ok (.iadd, 1) := by decide +kernel
theorem dX5_codePush_73 : decode cX5_codePush 73 = .ok (.aload_n 0, 1) := by decide +kernel
theorem dX5_codePush_74 : decode cX5_codePush 74 = .ok (.getfield 57, 3) := by decide +kernel
theorem dX5_codePush_77 : decode cX5_codePush 77 = .ok (.ishr, 1) := by decide +kernel
theorem dX5_codePush_78 : decode cX5_codePush 78 = .ok (.istore_n 2, 1) := by decide +kernel
theorem dX5_codePush_79 : decode cX5_codePush 79 = .ok (.getstatic 69, 3) := by decide +kernel
theorem dX5_codePush_82 : decode cX5_codePush 82 = .ok (.iconst 1, 1) := by decide +kernel
theorem dX5_codePush_83 : decode cX5_codePush 83 = .ok (.iaload, 1) := by decide +kernel
theorem dX5_codePush_84 : decode cX5_codePush 84 = .ok (.istore_n 3, 1) := by decide +kernel
theorem dX5_codePush_85 : decode cX5_codePush 85 = .ok (.aload_n 0, 1) := by decide +kernel
theorem dX5_codePush_86 : decode cX5_codePush 86 = .ok (.getfield 24, 3) := by decide +kernel
theorem dX5_codePush_89 : decode cX5_codePush 89 = .ok (.getfield 72, 3) := by decide +kernel
theorem dX5_codePush_92 : decode cX5_codePush 92 = .ok (.iload_n 3, 1) := by decide +kernel
theorem dX5_codePush_93 : decode cX5_codePush 93 = .ok (.iaload, 1) := by decide +kernel
theorem dX5_codePush_94 : decode cX5_codePush 94 = .ok (.aload_n 0, 1) := by decide +kernel
theorem dX5_codePush_95 : decode cX5_codePush 95 = .ok (.getfield 24, 3) := by decide +kernel
theorem dX5_codePush_98 : decode cX5_codePush 98 = .ok (.getfield 75, 3) := by decide +kernel
theorem dX5_codePush_101 : decode cX5_codePush 101 = .ok (.iload_n 3, 1) := by decide +kernel
theorem dX5_codePush_102 : decode cX5_codePush 102 = .ok (.iaload, 1) := by decide +kernel
theorem dX5_codePush_103 : decode cX5_codePush 103 = .ok (.iload_n 2, 1) := by decide +kernel
theorem dX5_codePush_104 : decode cX5_codePush 104 = .ok (.invokestatic 78, 3) := by decide +kernel
theorem dX5_codePush_107 : decode cX5_codePush 107 = .ok (.invokestatic 84, 3) := by decide +kernel
theorem dX5_codePush_110 : decode cX5_codePush 110 = .ok (.aload_n 0, 1) := by decide +kernel
theorem dX5_codePush_111 : decode cX5_codePush 111 = .ok (.getfield 24, 3) := by decide +kernel
theorem dX5_codePush_114 : decode cX5_codePush 114 = .ok (.getfield 72, 3) := by decide +kernel
theorem dX5_codePush_117 : decode cX5_codePush 117 = .ok (.iload_n 3, 1) := by decide +kernel
theorem dX5_codePush_118 : decode cX5_codePush 118 = .ok (.iaload, 1) := by decide +kernel
theorem dX5_codePush_119 : decode cX5_codePush 119 = .ok (.isub, 1) := by decide +kernel
theorem dX5_codePush_120 : decode cX5_codePush 120 = .ok (.ireturn, 1) := by decide +kernel
def s_X5_codePush_79  (l0 : Nat) (l2 : Int32) (h : aH) : aO :=
  (ldI .int h (.ref (aE + 1)) 1).bind fun x83 => (gO h (.ref l0) 5 0).bind fun x86 => (gO h (.ref x86) 2 2).bind fun x89 => (ldI .int h (.ref x89) x83).bind fun x93 => (gO h (.ref l0) 5 0).bind fun x95 => (gO h (.ref x95) 2 3).bind fun x98 => (ldI .int h (.ref x98) x83).bind fun x102 => (gO h (.ref l0) 5 0).bind fun x111 => (gO h (.ref x111) 2 2).bind fun x114 => (ldI .int h (.ref x114) x83).bind fun x118 => some (.inl (some (.int ((jmax x93 (jmin x102 l2)) - x118))), h)
def s_X5_codePush_21_b  (k21 : Nat → Int32 → Int32 → aH → aO) (l0 : Nat) (l2 : Int32) (l3 : Int32) (h : aH) : aO :=
  (gO h (.ref l0) 5 0).bind fun x23 => (gO h (.ref x23) 2 0).bind fun x26 => (ldI .int h (.ref x26) 0).bind fun x30 => if x30 ≤ l3 then ((gI h (.ref l0) 5 7).bind fun x57 => if x57 ≤ 0 then (s_X5_codePush_79 l0 l2 h) else ((gI h (.ref l0) 5 7).bind fun x66 => (gI h (.ref l0) 5 7).bind fun x74 => s_X5_codePush_79 l0 ((l2 + (1 <<< ((x66 - 1) &&& 31))) >>> (x74 &&& 31)) h)) else ((gO h (.ref l0) 5 5).bind fun x36 => (ldI .int h (.ref x36) l3).bind fun x40 => (gO h (.ref l0) 5 4).bind fun x42 => (ldI .int h (.ref x42) l3).bind fun x46 => k21 l0 (l2 + (x40 * x46)) (l3 + 1) h)
def s_X5_codePush_21  (n : Nat) : Nat → Int32 → Int32 → aH → aO := lpF (fun _ _ _ _ => none) (s_X5_codePush_21_b ) n
def s_X5_codePush (o : Nat) (a1 : Int32) (h : aH) : aO :=
  (gO h (.ref o) 5 0).bind fun x1 => (gO h (.ref o) 5 4).bind fun x8 => kO h x1 2 (cN (s_X2_spread x1 0 a1 0 x8 h) fun h11 => (gI h11 (.ref o) 5 6).bind fun x15 => s_X5_codePush_21 FU o x15 0 h11)
section
variable {p : Program} {l : Launch} {e : Env} {s : State} {m : MethodId} {args : Array Value} {below : List Frame} {meth : Method} {c : Code} {D : va_G} {B0 : Nat} {X : Nat → Nat} {ws0 : va_W} {r : aR} {h' : aH} {mc ms : Nat}
theorem t_X5_codePush_79 (C : Cx p l s m args meth c B0 X RX5 "codePush" cX5_codePush 4 (some .int) [])   {l0 : Nat} {l2 : Int32} {h : aH} (hs : s_X5_codePush_79  l0 l2 h = some (r, h')) : Ev p l e { frames := 2, cells := mc, slots := ms, locals := 50 } s m args below meth c D B0 X ws0 r h' mc ms 4 mc ms 79 [some (.ref l0), none, some (.int l2), none] [] h := by
  unfold s_X5_codePush_79 at hs
  refine ev_getsBASEN C wg_X5_69 dX5_codePush_79 ?_
  refine ev_iconst C (v := 1) dX5_codePush_82 (by decide) ?_
  obtain ⟨x83, e83, hs⟩ := aB hs
  refine ev_iald C e83 dX5_codePush_83 ?_
  refine ev_istore_n C (by decide) dX5_codePush_84 ?_
  refine ev_aload_n C (x := .ref l0) rfl trivial dX5_codePush_85 ?_
  obtain ⟨x86, e86, hs⟩ := aB hs
  refine ev_get C (ci := 5) (k := 0) rfl wu_5 (by decide) wf_X5_24 (gO_F e86) dX5_codePush_86 ?_
  obtain ⟨x89, e89, hs⟩ := aB hs
  refine ev_getN C (ci := 2) (k := 2) rfl wu_2 (by decide) wg_X5_72 (gO_F e89) dX5_codePush_89 ?_
  refine ev_iload_n C rfl dX5_codePush_92 ?_
  obtain ⟨x93, e93, hs⟩ := aB hs
  refine ev_iald C e93 dX5_codePush_93 ?_
  refine ev_aload_n C (x := .ref l0) rfl trivial dX5_codePush_94 ?_
  obtain ⟨x95, e95, hs⟩ := aB hs
  refine ev_get C (ci := 5) (k := 0) rfl wu_5 (by decide) wf_X5_24 (gO_F e95) dX5_codePush_95 ?_
  obtain ⟨x98, e98, hs⟩ := aB hs
  refine ev_getN C (ci := 2) (k := 3) rfl wu_2 (by decide) wg_X5_75 (gO_F e98) dX5_codePush_98 ?_
  refine ev_iload_n C rfl dX5_codePush_101 ?_
  obtain ⟨x102, e102, hs⟩ := aB hs
  refine ev_iald C e102 dX5_codePush_102 ?_
  refine ev_iload_n C rfl dX5_codePush_103 ?_
  refine ev_mmin C wm_X5_78 wt_mmin wz_J9 wc_mmin (Nat.le_of_ble_eq_true rfl) (Nat.le_of_ble_eq_true rfl) (Nat.le_refl _) (Nat.le_refl _) dX5_codePush_104 ?_
  refine ev_mmax C wm_X5_84 wt_mmax wz_J9 wc_mmax (Nat.le_of_ble_eq_true rfl) (Nat.le_of_ble_eq_true rfl) (Nat.le_refl _) (Nat.le_refl _) dX5_codePush_107 ?_
  refine ev_aload_n C (x := .ref l0) rfl trivial dX5_codePush_110 ?_
  obtain ⟨x111, e111, hs⟩ := aB hs
  refine ev_get C (ci := 5) (k := 0) rfl wu_5 (by decide) wf_X5_24 (gO_F e111) dX5_codePush_111 ?_
  obtain ⟨x114, e114, hs⟩ := aB hs
  refine ev_getN C (ci := 2) (k := 2) rfl wu_2 (by decide) wg_X5_72 (gO_F e114) dX5_codePush_114 ?_
  refine ev_iload_n C rfl dX5_codePush_117 ?_
  obtain ⟨x118, e118, hs⟩ := aB hs
  refine ev_iald C e118 dX5_codePush_118 ?_
  refine ev_isub C dX5_codePush_119 ?_
  cases hs
  exact ev_iret C rfl rfl (Nat.le_refl _) (Nat.le_refl _) rfl dX5_codePush_120
theorem t_X5_codePush_21_b (C : Cx p l s m args meth c B0 X RX5 "codePush" cX5_codePush 4 (some .int) [])   {k21 : Nat → Int32 → Int32 → aH → aO} (K21 : ∀ (l0 : Nat) (l2 : Int32) (l3 : Int32) (h : aH), k21 l0 l2 l3 h = some (r, h') → Ev p l e { frames := 2, cells := mc, slots := ms, locals := 50 } s m args below meth c D B0 X ws0 r h' mc ms 4 mc ms 21 [some (.ref l0), none, some (.int l2), some (.int l3)] [] h) {l0 : Nat} {l2 : Int32} {l3 : Int32} {h : aH} (hs : s_X5_codePush_21_b  k21 l0 l2 l3 h = some (r, h')) : Ev p l e { frames := 2, cells := mc, slots := ms, locals := 50 } s m args below meth c D B0 X ws0 r h' mc ms 4 mc ms 21 [some (.ref l0), none, some (.int l2), some (.int l3)] [] h := by
  unfold s_X5_codePush_21_b at hs
  refine ev_iload_n C rfl dX5_codePush_21 ?_
  refine ev_aload_n C (x := .ref l0) rfl trivial dX5_codePush_22 ?_
  obtain ⟨x23, e23, hs⟩ := aB hs
  refine ev_get C (ci := 5) (k := 0) rfl wu_5 (by decide) wf_X5_24 (gO_F e23) dX5_codePush_23 ?_
  obtain ⟨x26, e26, hs⟩ := aB hs
  refine ev_getN C (ci := 2) (k := 0) rfl wu_2 (by decide) wg_X5_66 (gO_F e26) dX5_codePush_26 ?_
  refine ev_iconst C (v := 0) dX5_codePush_29 (by decide) ?_
  obtain ⟨x30, e30, hs⟩ := aB hs
  refine ev_iald C e30 dX5_codePush_30 ?_
  refine ev_icmp_ge C (tgt := 56) (by decide) dX5_codePush_31 (fun q31 => ?_) (fun q31 => ?_)
  · replace hs := (if_pos q31).symm.trans hs
    refine ev_aload_n C (x := .ref l0) rfl trivial dX5_codePush_56 ?_
    obtain ⟨x57, e57, hs⟩ := aB hs
    refine ev_get C (ci := 5) (k := 7) rfl wu_5 (by decide) wf_X5_57 (gI_F e57) dX5_codePush_57 ?_
    refine ev_if_le C (tgt := 79) (by decide) dX5_codePush_60 (fun q60 => ?_) (fun q60 => ?_)
    · replace hs := (if_pos q60).symm.trans hs
      exact Ev.keep [true, true, true, false] (t_X5_codePush_79 C  hs)
    · replace hs := (if_neg q60).symm.trans hs
      refine ev_iload_n C rfl dX5_codePush_63 ?_
      refine ev_iconst C (v := 1) dX5_codePush_64 (by decide) ?_
      refine ev_aload_n C (x := .ref l0) rfl trivial dX5_codePush_65 ?_
      obtain ⟨x66, e66, hs⟩ := aB hs
      refine ev_get C (ci := 5) (k := 7) rfl wu_5 (by decide) wf_X5_57 (gI_F e66) dX5_codePush_66 ?_
      refine ev_iconst C (v := 1) dX5_codePush_69 (by decide) ?_
      refine ev_isub C dX5_codePush_70 ?_
      refine ev_ishl C dX5_codePush_71 ?_
      refine ev_iadd C dX5_codePush_72 ?_
      refine ev_aload_n C (x := .ref l0) rfl trivial dX5_codePush_73 ?_
      obtain ⟨x74, e74, hs⟩ := aB hs
      refine ev_get C (ci := 5) (k := 7) rfl wu_5 (by decide) wf_X5_57 (gI_F e74) dX5_codePush_74 ?_
      refine ev_ishr C dX5_codePush_77 ?_
      refine ev_istore_n C (by decide) dX5_codePush_78 ?_
      exact Ev.keep [true, true, true, false] (t_X5_codePush_79 C  hs)
  · replace hs := (if_neg q31).symm.trans hs
    refine ev_iload_n C rfl dX5_codePush_34 ?_
    refine ev_aload_n C (x := .ref l0) rfl trivial dX5_codePush_35 ?_
    obtain ⟨x36, e36, hs⟩ := aB hs
    refine ev_get C (ci := 5) (k := 5) rfl wu_5 (by decide) wf_X5_15 (gO_F e36) dX5_codePush_36 ?_
    refine ev_iload_n C rfl dX5_codePush_39 ?_
    obtain ⟨x40, e40, hs⟩ := aB hs
    refine ev_iald C e40 dX5_codePush_40 ?_
    refine ev_aload_n C (x := .ref l0) rfl trivial dX5_codePush_41 ?_
    obtain ⟨x42, e42, hs⟩ := aB hs
    refine ev_get C (ci := 5) (k := 4) rfl wu_5 (by decide) wf_X5_9 (gO_F e42) dX5_codePush_42 ?_
    refine ev_iload_n C rfl dX5_codePush_45 ?_
    obtain ⟨x46, e46, hs⟩ := aB hs
    refine ev_iald C e46 dX5_codePush_46 ?_
    refine ev_imul C dX5_codePush_47 ?_
    refine ev_iadd C dX5_codePush_48 ?_
    refine ev_istore_n C (by decide) dX5_codePush_49 ?_
    refine ev_iinc C (i := 3) (n := 1) (x := l3) (v := l3 + 1) rfl (congrArg (fun z => l3 + z) (show Int32.ofInt 1 = 1 by decide)) (by decide) dX5_codePush_50 ?_
    refine ev_goto C (tgt := 21) (by decide) dX5_codePush_53 ?_
    exact (K21 _ _ _ _ hs)
theorem t_X5_codePush_21 (C : Cx p l s m args meth c B0 X RX5 "codePush" cX5_codePush 4 (some .int) [])   : ∀ (n : Nat) {l0 : Nat} {l2 : Int32} {l3 : Int32} {h : aH} (hs : s_X5_codePush_21  n l0 l2 l3 h = some (r, h')), Ev p l e { frames := 2, cells := mc, slots := ms, locals := 50 } s m args below meth c D B0 X ws0 r h' mc ms 4 mc ms 21 [some (.ref l0), none, some (.int l2), some (.int l3)] [] h
  | 0, _, _, _, _, hs => nomatch hs
  | n + 1, _, _, _, _, hs => t_X5_codePush_21_b C  (k21 := s_X5_codePush_21  n) (fun _ _ _ _ hs => t_X5_codePush_21 C  n hs) hs
theorem hy_X5_codePush : yX5_codePush.cls ≠ "java/lang/invoke/MethodHandle" ∧ yX5_codePush.cls ≠ "java/lang/invoke/VarHandle" ∧ (parseMethodDescriptor yX5_codePush.desc).map (fun d => d.parameters.length) = some 1 := by decide +kernel
theorem T_X5_codePush (o : Nat) (a1 : Int32) (h : aH) (r : aR) (h' : aH) (hs : s_X5_codePush o a1 h = some (r, h')) : Mt yX5_codePush (Cond.code yX5_codePush cX5_codePush 4 (some .int) :: aTB) 2 50 0 0 [.ref o, .int a1] h r h' := by
  unfold s_X5_codePush at hs
  refine Mt_of (k := 2) (by decide) rfl (fun p l e s m args below meth c D B0 X ws0 C => ?_)
  show Ev p l e { frames := 2, cells := 0, slots := 0, locals := 50 } s m args below meth c D B0 X ws0 r h' 0 0 4 0 0 0 [some (.ref o), some (.int a1), none, none] [] h
  refine ev_aload_n C (x := .ref o) rfl trivial dX5_codePush_0 ?_
  obtain ⟨x1, e1, hs⟩ := aB hs
  refine ev_get C (ci := 5) (k := 0) rfl wu_5 (by decide) wf_X5_24 (gO_F e1) dX5_codePush_1 ?_
  refine ev_iconst C (v := 0) dX5_codePush_4 (by decide) ?_
  refine ev_iload_n C rfl dX5_codePush_5 ?_
  refine ev_iconst C (v := 0) dX5_codePush_6 (by decide) ?_
  refine ev_aload_n C (x := .ref o) rfl trivial dX5_codePush_7 ?_
  obtain ⟨x8, e8, hs⟩ := aB hs
  refine ev_get C (ci := 5) (k := 4) rfl wu_5 (by decide) wf_X5_9 (gO_F e8) dX5_codePush_8 ?_
  obtain ⟨eo11, hs⟩ := kO_at hs
  obtain ⟨h11, e11, hs⟩ := cN_at hs
  refine ev_callVN C (T_X2_spread _ _ _ _ _ _ _ _ e11) (ci := 2) rfl eo11 wc_X2_spread wn_X5_60 wi_X2_spread ws_X2_spread wz_X2 hy_X2_spread ⟨(Nat.le_of_ble_eq_true rfl), (Nat.le_of_ble_eq_true rfl)⟩ ⟨(Nat.le_refl _), (Nat.le_refl _)⟩ (Nat.le_of_ble_eq_true rfl) rfl dX5_codePush_11 ?_
  refine ev_aload_n C (x := .ref o) rfl trivial dX5_codePush_14 ?_
  obtain ⟨x15, e15, hs⟩ := aB hs
  refine ev_get C (ci := 5) (k := 6) rfl wu_5 (by decide) wf_X5_54 (gI_F e15) dX5_codePush_15 ?_
  refine ev_istore_n C (by decide) dX5_codePush_18 ?_
  refine ev_iconst C (v := 0) dX5_codePush_19 (by decide) ?_
  refine ev_istore_n C (by decide) dX5_codePush_20 ?_
  exact Ev.keep [true, false, true, true] (t_X5_codePush_21 C  FU hs)
end
-- X5_straying
theorem dX5_straying_0 : decode cX5_straying 0 = .ok (.iconst 0, 1) := by decide +kernel
theorem dX5_straying_1 : decode cX5_straying 1 = .ok (.istore_n 1, 1) := by decide +kernel
theorem dX5_straying_2 : decode cX5_straying 2 = .ok (.iconst 0, 1) := by decide +kernel
theorem dX5_straying_3 : decode cX5_straying 3 = .ok (.istore_n 2, 1) := by decide +kernel
theorem dX5_straying_4 : decode cX5_straying 4 = .ok (.iload_n 2, 1) := by decide +kernel
theorem dX5_straying_5 : decode cX5_straying 5 = .ok (.aload_n 0, 1) := by decide +kernel
theorem dX5_straying_6 : decode cX5_straying 6 = .ok (.getfield 24, 3) := by decide +kernel
theorem dX5_straying_9 : decode cX5_straying 9 = .ok (.getfield 87, 3) := by decide +kernel
theorem dX5_straying_12 : decode cX5_straying 12 = .ok (.if_icmp .ge 38, 3) := by decide +kernel
theorem dX5_straying_15 : decode cX5_straying 15 = .ok (.aload_n 0, 1) := by decide +kernel
theorem dX5_straying_16 : decode cX5_straying 16 = .ok (.getfield 36, 3) := by decide +kernel
theorem dX5_straying_19 : decode cX5_straying 19 = .ok (.getfield 90, 3) := by decide +kernel
theorem dX5_straying_22 : decode cX5_straying 22 = .ok (.iload_n 2, 1) := by decide +kernel
theorem dX5_straying_23 : decode cX5_straying 23 = .ok (.iaload, 1) := by decide +kernel
theorem dX5_straying_24 : decode cX5_straying 24 = .ok (.istore_n 3, 1) := by decide +kernel
theorem dX5_straying_25 : decode cX5_straying 25 = .ok (.iload_n 3, 1) := by decide +kernel
theorem dX5_straying_26 : decode cX5_straying 26 = .ok (.ifCond .eq 18, 3) := by decide +kernel
theorem dX5_straying_29 : decode cX5_straying 29 = .ok (.iload_n 3, 1) := by decide +kernel
theorem dX5_straying_30 : decode cX5_straying 30 = .ok (.aload_n 0, 1) := by decide +kernel
theorem dX5_straying_31 : decode cX5_straying 31 = .ok (.iload_n 2, 1) := by decide +kernel
theorem dX5_straying_32 : decode cX5_straying 32 = .ok (.invokevirtual 95, 3) := by decide +kernel
theorem dX5_straying_35 : decode cX5_straying 35 = .ok (.ishr, 1) := by decide +kernel
theorem dX5_straying_36 : decode cX5_straying 36 = .ok (.iconst 1, 1) := by decide +kernel
theorem dX5_straying_37 : decode cX5_straying 37 = .ok (.iand, 1) := by decide +kernel
theorem dX5_straying_38 : decode cX5_straying 38 = .ok (.ifCond .ne 6, 3) := by decide +kernel
theorem dX5_straying_41 : decode cX5_straying 41 = .ok (.iinc 1 1, 3) := by decide +kernel
theorem dX5_straying_44 : decode cX5_straying 44 = .ok (.iinc 2 1, 3) := by decide +kernel
theorem dX5_straying_47 : decode cX5_straying 47 = .ok (.goto (-43), 3) := by decide +kernel
theorem dX5_straying_50 : decode cX5_straying 50 = .ok (.iload_n 1, 1) := by decide +kernel
theorem dX5_straying_51 : decode cX5_straying 51 = .ok (.ireturn, 1) := by decide +kernel
def s_X5_straying_4_b  (k4 : Nat → Int32 → Int32 → aH → aO) (l0 : Nat) (l1 : Int32) (l2 : Int32) (h : aH) : aO :=
  (gO h (.ref l0) 5 0).bind fun x6 => (gI h (.ref x6) 2 12).bind fun x9 => if x9 ≤ l2 then (some (.inl (some (.int l1)), h)) else ((gO h (.ref l0) 5 3).bind fun x16 => (gO h (.ref x16) 7 8).bind fun x19 => (ldI .int h (.ref x19) l2).bind fun x23 => if x23 = 0 then (k4 l0 l1 (l2 + 1) h) else (kO h l0 5 (cI (s_X5_codePush l0 l2 h) fun x32 h32 => if ((x23 >>> (x32 &&& 31)) &&& 1) = 0 then (k4 l0 (l1 + 1) (l2 + 1) h32) else (k4 l0 l1 (l2 + 1) h32))))
def s_X5_straying_4  (n : Nat) : Nat → Int32 → Int32 → aH → aO := lpF (fun _ _ _ _ => none) (s_X5_straying_4_b ) n
def s_X5_straying (o : Nat) (h : aH) : aO :=
  s_X5_straying_4 FU o 0 0 h
section
variable {p : Program} {l : Launch} {e : Env} {s : State} {m : MethodId} {args : Array Value} {below : List Frame} {meth : Method} {c : Code} {D : va_G} {B0 : Nat} {X : Nat → Nat} {ws0 : va_W} {r : aR} {h' : aH} {mc ms : Nat}
theorem t_X5_straying_4_b (C : Cx p l s m args meth c B0 X RX5 "straying" cX5_straying 4 (some .int) [])   {k4 : Nat → Int32 → Int32 → aH → aO} (K4 : ∀ (l0 : Nat) (l1 : Int32) (l2 : Int32) (h : aH), k4 l0 l1 l2 h = some (r, h') → Ev p l e { frames := 3, cells := mc, slots := ms, locals := 73 } s m args below meth c D B0 X ws0 r h' mc ms 4 mc ms 4 [some (.ref l0), some (.int l1), some (.int l2), none] [] h) {l0 : Nat} {l1 : Int32} {l2 : Int32} {h : aH} (hs : s_X5_straying_4_b  k4 l0 l1 l2 h = some (r, h')) : Ev p l e { frames := 3, cells := mc, slots := ms, locals := 73 } s m args below meth c D B0 X ws0 r h' mc ms 4 mc ms 4 [some (.ref l0), some (.int l1), some (.int l2), none] [] h := by
  unfold s_X5_straying_4_b at hs
  refine ev_iload_n C rfl dX5_straying_4 ?_
  refine ev_aload_n C (x := .ref l0) rfl trivial dX5_straying_5 ?_
  obtain ⟨x6, e6, hs⟩ := aB hs
  refine ev_get C (ci := 5) (k := 0) rfl wu_5 (by decide) wf_X5_24 (gO_F e6) dX5_straying_6 ?_
  obtain ⟨x9, e9, hs⟩ := aB hs
  refine ev_getN C (ci := 2) (k := 12) rfl wu_2 (by decide) wg_X5_87 (gI_F e9) dX5_straying_9 ?_
  refine ev_icmp_ge C (tgt := 50) (by decide) dX5_straying_12 (fun q12 => ?_) (fun q12 => ?_)
  · replace hs := (if_pos q12).symm.trans hs
    refine ev_iload_n C rfl dX5_straying_50 ?_
    cases hs
    exact ev_iret C rfl rfl (Nat.le_refl _) (Nat.le_refl _) rfl dX5_straying_51
  · replace hs := (if_neg q12).symm.trans hs
    refine ev_aload_n C (x := .ref l0) rfl trivial dX5_straying_15 ?_
    obtain ⟨x16, e16, hs⟩ := aB hs
    refine ev_get C (ci := 5) (k := 3) rfl wu_5 (by decide) wf_X5_36 (gO_F e16) dX5_straying_16 ?_
    obtain ⟨x19, e19, hs⟩ := aB hs
    refine ev_getN C (ci := 7) (k := 8) rfl wu_7 (by decide) wg_X5_90 (gO_F e19) dX5_straying_19 ?_
    refine ev_iload_n C rfl dX5_straying_22 ?_
    obtain ⟨x23, e23, hs⟩ := aB hs
    refine ev_iald C e23 dX5_straying_23 ?_
    refine ev_istore_n C (by decide) dX5_straying_24 ?_
    refine ev_iload_n C rfl dX5_straying_25 ?_
    refine ev_if_eq C (tgt := 44) (by decide) dX5_straying_26 (fun q26 => ?_) (fun q26 => ?_)
    · replace hs := (if_pos q26).symm.trans hs
      refine ev_iinc C (i := 2) (n := 1) (x := l2) (v := l2 + 1) rfl (congrArg (fun z => l2 + z) (show Int32.ofInt 1 = 1 by decide)) (by decide) dX5_straying_44 ?_
      refine ev_goto C (tgt := 4) (by decide) dX5_straying_47 ?_
      exact Ev.keep [true, true, true, false] (K4 _ _ _ _ hs)
    · replace hs := (if_neg q26).symm.trans hs
      refine ev_iload_n C rfl dX5_straying_29 ?_
      refine ev_aload_n C (x := .ref l0) rfl trivial dX5_straying_30 ?_
      refine ev_iload_n C rfl dX5_straying_31 ?_
      obtain ⟨eo32, hs⟩ := kO_at hs
      obtain ⟨x32, h32, e32, hs⟩ := cI_at hs
      refine ev_callV C (T_X5_codePush _ _ _ _ _ e32) (ci := 5) rfl eo32 wc_X5_codePush wm_X5_95 wi_X5_codePush ws_X5_codePush wz_X5 hy_X5_codePush ⟨(Nat.le_of_ble_eq_true rfl), (Nat.le_of_ble_eq_true rfl)⟩ ⟨(Nat.le_refl _), (Nat.le_refl _)⟩ (Nat.le_of_ble_eq_true rfl) rfl dX5_straying_32 ?_
      refine ev_ishr C dX5_straying_35 ?_
      refine ev_iconst C (v := 1) dX5_straying_36 (by decide) ?_
      refine ev_iand C dX5_straying_37 ?_
      refine ev_if_ne C (tgt := 44) (by decide) dX5_straying_38 (fun q38 => ?_) (fun q38 => ?_)
      · replace hs := (if_neg q38).symm.trans hs
        refine ev_iinc C (i := 2) (n := 1) (x := l2) (v := l2 + 1) rfl (congrArg (fun z => l2 + z) (show Int32.ofInt 1 = 1 by decide)) (by decide) dX5_straying_44 ?_
        refine ev_goto C (tgt := 4) (by decide) dX5_straying_47 ?_
        exact Ev.keep [true, true, true, false] (K4 _ _ _ _ hs)
      · replace hs := (if_pos q38).symm.trans hs
        refine ev_iinc C (i := 1) (n := 1) (x := l1) (v := l1 + 1) rfl (congrArg (fun z => l1 + z) (show Int32.ofInt 1 = 1 by decide)) (by decide) dX5_straying_41 ?_
        refine ev_iinc C (i := 2) (n := 1) (x := l2) (v := l2 + 1) rfl (congrArg (fun z => l2 + z) (show Int32.ofInt 1 = 1 by decide)) (by decide) dX5_straying_44 ?_
        refine ev_goto C (tgt := 4) (by decide) dX5_straying_47 ?_
        exact Ev.keep [true, true, true, false] (K4 _ _ _ _ hs)
theorem t_X5_straying_4 (C : Cx p l s m args meth c B0 X RX5 "straying" cX5_straying 4 (some .int) [])   : ∀ (n : Nat) {l0 : Nat} {l1 : Int32} {l2 : Int32} {h : aH} (hs : s_X5_straying_4  n l0 l1 l2 h = some (r, h')), Ev p l e { frames := 3, cells := mc, slots := ms, locals := 73 } s m args below meth c D B0 X ws0 r h' mc ms 4 mc ms 4 [some (.ref l0), some (.int l1), some (.int l2), none] [] h
  | 0, _, _, _, _, hs => nomatch hs
  | n + 1, _, _, _, _, hs => t_X5_straying_4_b C  (k4 := s_X5_straying_4  n) (fun _ _ _ _ hs => t_X5_straying_4 C  n hs) hs
theorem hy_X5_straying : yX5_straying.cls ≠ "java/lang/invoke/MethodHandle" ∧ yX5_straying.cls ≠ "java/lang/invoke/VarHandle" ∧ (parseMethodDescriptor yX5_straying.desc).map (fun d => d.parameters.length) = some 0 := by decide +kernel
theorem T_X5_straying (o : Nat) (h : aH) (r : aR) (h' : aH) (hs : s_X5_straying o h = some (r, h')) : Mt yX5_straying (Cond.code yX5_straying cX5_straying 4 (some .int) :: aTB) 3 73 0 0 [.ref o] h r h' := by
  unfold s_X5_straying at hs
  refine Mt_of (k := 3) (by decide) rfl (fun p l e s m args below meth c D B0 X ws0 C => ?_)
  show Ev p l e { frames := 3, cells := 0, slots := 0, locals := 73 } s m args below meth c D B0 X ws0 r h' 0 0 4 0 0 0 [some (.ref o), none, none, none] [] h
  refine ev_iconst C (v := 0) dX5_straying_0 (by decide) ?_
  refine ev_istore_n C (by decide) dX5_straying_1 ?_
  refine ev_iconst C (v := 0) dX5_straying_2 (by decide) ?_
  refine ev_istore_n C (by decide) dX5_straying_3 ?_
  exact (t_X5_straying_4 C  FU hs)
end
-- X5_round
theorem dX5_round_0 : decode cX5_round 0 = .ok (.aload_n 0, 1) := by decide +kernel
theorem dX5_round_1 : decode cX5_round 1 = .ok (.getfield 21, 3) := by decide +kernel
theorem dX5_round_4 : decode cX5_round 4 = .ok (.iconst (-1), 1) := by decide +kernel
theorem dX5_round_5 : decode cX5_round 5 = .ok (.invokestatic 44, 3) := by decide +kernel
theorem dX5_round_8 : decode cX5_round 8 = .ok (.iload_n 1, 1) := by decide +kernel
theorem dX5_round_9 : decode cX5_round 9 = .ok (.istore_n 2, 1) := by decide +kernel
theorem dX5_round_10 : decode cX5_round 10 = .ok (.iconst 0, 1) := by decide +kernel
theorem dX5_round_11 : decode cX5_round 11 = .ok (.istore_n 3, 1) := by decide +kernel
theorem dX5_round_12 : decode cX5_round 12 = .ok (.iload_n 3, 1) := by decide +kernel
theorem dX5_round_13 : decode cX5_round 13 = .ok (.aload_n 0, 1) := by decide +kernel
theorem dX5_round_14 : decode cX5_round 14 = .ok (.getfield 24, 3) := by decide +kernel
theorem dX5_round_17 : decode cX5_round 17 = .ok (.getfield 87, 3) := by decide +kernel
theorem dX5_round_20 : decode cX5_round 20 = .ok (.if_icmp .gt 71, 3) := by decide +kernel
theorem dX5_round_23 : decode cX5_round 23 = .ok (.aload_n 0, 1) := by decide +kernel
theorem dX5_round_24 : decode cX5_round 24 = .ok (.getfield 21, 3) := by decide +kernel
theorem dX5_round_27 : decode cX5_round 27 = .ok (.iload_n 2, 1) := by decide +kernel
theorem dX5_round_28 : decode cX5_round 28 = .ok (.iaload, 1) := by decide +kernel
theorem dX5_round_29 : decode cX5_round 29 = .ok (.ifCond .lt 12, 3) := by decide +kernel
theorem dX5_round_32 : decode cX5_round 32 = .ok (.iload_n 3, 1) := by decide +kernel
theorem dX5_round_33 : decode cX5_round 33 = .ok (.aload_n 0, 1) := by decide +kernel
theorem dX5_round_34 : decode cX5_round 34 = .ok (.getfield 21, 3) := by decide +kernel
theorem dX5_round_37 : decode cX5_round 37 = .ok (.iload_n 2, 1) := by decide +kernel
theorem dX5_round_38 : decode cX5_round 38 = .ok (.iaload, 1) := by decide +kernel
theorem dX5_round_39 : decode cX5_round 39 = .ok (.isub, 1) := by decide +kernel
theorem dX5_round_40 : decode cX5_round 40 = .ok (.ireturn, 1) := by decide +kernel
theorem dX5_round_41 : decode cX5_round 41 = .ok (.aload_n 0, 1) := by decide +kernel
theorem dX5_round_42 : decode cX5_round 42 = .ok (.getfield 21, 3) := by decide +kernel
theorem dX5_round_45 : decode cX5_round 45 = .ok (.iload_n 2, 1) := by decide +kernel
theorem dX5_round_46 : decode cX5_round 46 = .ok (.iload_n 3, 1) := by decide +kernel
theorem dX5_round_47 : decode cX5_round 47 = .ok (.iastore, 1) := by decide +kernel
theorem dX5_round_48 : decode cX5_round 48 = .ok (.aload_n 0, 1) := by decide +kernel
theorem dX5_round_49 : decode cX5_round 49 = .ok (.getfield 24, 3) := by decide +kernel
theorem dX5_round_52 : decode cX5_round 52 = .ok (.iload_n 2, 1) := by decide +kernel
theorem dX5_round_53 : decode cX5_round 53 = .ok (.aload_n 0, 1) := by decide +kernel
theorem dX5_round_54 : decode cX5_round 54 = .ok (.iload_n 2, 1) := by decide +kernel
theorem dX5_round_55 : decode cX5_round 55 = .ok (.invokevirtual 95, 3) := by decide +kernel
theorem dX5_round_58 : decode cX5_round 58 = .ok (.iconst 0, 1) := by decide +kernel
theorem dX5_round_59 : decode cX5_round 59 = .ok (.aload_n 0, 1) := by decide +kernel
theorem dX5_round_60 : decode cX5_round 60 = .ok (.getfield 9, 3) := by decide +kernel
theorem dX5_round_63 : decode cX5_round 63 = .ok (.invokevirtual 99, 3) := by decide +kernel
theorem dX5_round_66 : decode cX5_round 66 = .ok (.aload_n 0, 1) := by decide +kernel
theorem dX5_round_67 : decode cX5_round 67 = .ok (.getfield 24, 3) := by decide +kernel
theorem dX5_round_70 : decode cX5_round 70 = .ok (.aload_n 0, 1) := by decide +kernel
theorem dX5_round_71 : decode cX5_round 71 = .ok (.getfield 9, 3) := by decide +kernel
theorem dX5_round_74 : decode cX5_round 74 = .ok (.invokevirtual 102, 3) := by decide +kernel
theorem dX5_round_77 : decode cX5_round 77 = .ok (.istore_n 2, 1) := by decide +kernel
theorem dX5_round_78 : decode cX5_round 78 = .ok (.iload_n 2, 1) := by decide +kernel
theorem dX5_round_79 : decode cX5_round 79 = .ok (.ifCond .ge 6, 3) := by decide +kernel
theorem dX5_round_82 : decode cX5_round 82 = .ok (.bipush (-2), 2) := by decide +kernel
theorem dX5_round_84 : decode cX5_round 84 = .ok (.ireturn, 1) := by decide +kernel
theorem dX5_round_85 : decode cX5_round 85 = .ok (.iinc 3 1, 3) := by decide +kernel
theorem dX5_round_88 : decode cX5_round 88 = .ok (.goto (-76), 3) := by decide +kernel
theorem dX5_round_91 : decode cX5_round 91 = .ok (.bipush (-2), 2) := by decide +kernel
theorem dX5_round_93 : decode cX5_round 93 = .ok (.ireturn, 1) := by decide +kernel
def s_X5_round_12_b  (k12 : Nat → Int32 → Int32 → aH → aO) (l0 : Nat) (l2 : Int32) (l3 : Int32) (h : aH) : aO :=
  (gO h (.ref l0) 5 0).bind fun x14 => (gI h (.ref x14) 2 12).bind fun x17 => if x17 < l3 then (some (.inl (some (.int (-2))), h)) else ((gO h (.ref l0) 5 10).bind fun x24 => (ldI .int h (.ref x24) l2).bind fun x28 => if x28 < 0 then ((gO h (.ref l0) 5 10).bind fun x42 => (stI h (.ref x42) l2 l3).bind fun h47 => (gO h47 (.ref l0) 5 0).bind fun x49 => kO h47 l0 5 (cI (s_X5_codePush l0 l2 h47) fun x55 h55 => (gO h55 (.ref l0) 5 4).bind fun x60 => kO h55 x49 2 (cN (s_X2_spreadMove x49 l2 x55 0 x60 h55) fun h63 => (gO h63 (.ref l0) 5 0).bind fun x67 => (gO h63 (.ref l0) 5 4).bind fun x71 => kO h63 x67 2 (cI (s_X2_lead x67 x71 h63) fun x74 h74 => if 0 ≤ x74 then (k12 l0 x74 (l3 + 1) h74) else (some (.inl (some (.int (-2))), h74)))))) else ((gO h (.ref l0) 5 10).bind fun x34 => (ldI .int h (.ref x34) l2).bind fun x38 => some (.inl (some (.int (l3 - x38))), h)))
def s_X5_round_12  (n : Nat) : Nat → Int32 → Int32 → aH → aO := lpF (fun _ _ _ _ => none) (s_X5_round_12_b ) n
def s_X5_round (o : Nat) (a1 : Int32) (h : aH) : aO :=
  (gO h (.ref o) 5 10).bind fun x1 => cN (s_J7_fill_53178 x1 (-1) h) fun h5 => s_X5_round_12 FU o a1 0 h5
section
variable {p : Program} {l : Launch} {e : Env} {s : State} {m : MethodId} {args : Array Value} {below : List Frame} {meth : Method} {c : Code} {D : va_G} {B0 : Nat} {X : Nat → Nat} {ws0 : va_W} {r : aR} {h' : aH} {mc ms : Nat}
theorem t_X5_round_12_b (C : Cx p l s m args meth c B0 X RX5 "round" cX5_round 4 (some .int) [])   {k12 : Nat → Int32 → Int32 → aH → aO} (K12 : ∀ (l0 : Nat) (l2 : Int32) (l3 : Int32) (h : aH), k12 l0 l2 l3 h = some (r, h') → Ev p l e { frames := 4, cells := mc, slots := ms, locals := 102 } s m args below meth c D B0 X ws0 r h' mc ms 4 mc ms 12 [some (.ref l0), none, some (.int l2), some (.int l3)] [] h) {l0 : Nat} {l2 : Int32} {l3 : Int32} {h : aH} (hs : s_X5_round_12_b  k12 l0 l2 l3 h = some (r, h')) : Ev p l e { frames := 4, cells := mc, slots := ms, locals := 102 } s m args below meth c D B0 X ws0 r h' mc ms 4 mc ms 12 [some (.ref l0), none, some (.int l2), some (.int l3)] [] h := by
  unfold s_X5_round_12_b at hs
  refine ev_iload_n C rfl dX5_round_12 ?_
  refine ev_aload_n C (x := .ref l0) rfl trivial dX5_round_13 ?_
  obtain ⟨x14, e14, hs⟩ := aB hs
  refine ev_get C (ci := 5) (k := 0) rfl wu_5 (by decide) wf_X5_24 (gO_F e14) dX5_round_14 ?_
  obtain ⟨x17, e17, hs⟩ := aB hs
  refine ev_getN C (ci := 2) (k := 12) rfl wu_2 (by decide) wg_X5_87 (gI_F e17) dX5_round_17 ?_
  refine ev_icmp_gt C (tgt := 91) (by decide) dX5_round_20 (fun q20 => ?_) (fun q20 => ?_)
  · replace hs := (if_pos q20).symm.trans hs
    refine ev_bipush C (v := (-2)) dX5_round_91 (by decide) ?_
    cases hs
    exact ev_iret C rfl rfl (Nat.le_refl _) (Nat.le_refl _) rfl dX5_round_93
  · replace hs := (if_neg q20).symm.trans hs
    refine ev_aload_n C (x := .ref l0) rfl trivial dX5_round_23 ?_
    obtain ⟨x24, e24, hs⟩ := aB hs
    refine ev_get C (ci := 5) (k := 10) rfl wu_5 (by decide) wf_X5_21 (gO_F e24) dX5_round_24 ?_
    refine ev_iload_n C rfl dX5_round_27 ?_
    obtain ⟨x28, e28, hs⟩ := aB hs
    refine ev_iald C e28 dX5_round_28 ?_
    refine ev_if_lt C (tgt := 41) (by decide) dX5_round_29 (fun q29 => ?_) (fun q29 => ?_)
    · replace hs := (if_pos q29).symm.trans hs
      refine ev_aload_n C (x := .ref l0) rfl trivial dX5_round_41 ?_
      obtain ⟨x42, e42, hs⟩ := aB hs
      refine ev_get C (ci := 5) (k := 10) rfl wu_5 (by decide) wf_X5_21 (gO_F e42) dX5_round_42 ?_
      refine ev_iload_n C rfl dX5_round_45 ?_
      refine ev_iload_n C rfl dX5_round_46 ?_
      obtain ⟨h47, e47, hs⟩ := aB hs
      refine ev_iast C e47 dX5_round_47 ?_
      refine ev_aload_n C (x := .ref l0) rfl trivial dX5_round_48 ?_
      obtain ⟨x49, e49, hs⟩ := aB hs
      refine ev_get C (ci := 5) (k := 0) rfl wu_5 (by decide) wf_X5_24 (gO_F e49) dX5_round_49 ?_
      refine ev_iload_n C rfl dX5_round_52 ?_
      refine ev_aload_n C (x := .ref l0) rfl trivial dX5_round_53 ?_
      refine ev_iload_n C rfl dX5_round_54 ?_
      obtain ⟨eo55, hs⟩ := kO_at hs
      obtain ⟨x55, h55, e55, hs⟩ := cI_at hs
      refine ev_callV C (T_X5_codePush _ _ _ _ _ e55) (ci := 5) rfl eo55 wc_X5_codePush wm_X5_95 wi_X5_codePush ws_X5_codePush wz_X5 hy_X5_codePush ⟨(Nat.le_of_ble_eq_true rfl), (Nat.le_of_ble_eq_true rfl)⟩ ⟨(Nat.le_refl _), (Nat.le_refl _)⟩ (Nat.le_of_ble_eq_true rfl) rfl dX5_round_55 ?_
      refine ev_iconst C (v := 0) dX5_round_58 (by decide) ?_
      refine ev_aload_n C (x := .ref l0) rfl trivial dX5_round_59 ?_
      obtain ⟨x60, e60, hs⟩ := aB hs
      refine ev_get C (ci := 5) (k := 4) rfl wu_5 (by decide) wf_X5_9 (gO_F e60) dX5_round_60 ?_
      obtain ⟨eo63, hs⟩ := kO_at hs
      obtain ⟨h63, e63, hs⟩ := cN_at hs
      refine ev_callVN C (T_X2_spreadMove _ _ _ _ _ _ _ _ e63) (ci := 2) rfl eo63 wc_X2_spreadMove wn_X5_99 wi_X2_spreadMove ws_X2_spreadMove wz_X2 hy_X2_spreadMove ⟨(Nat.le_of_ble_eq_true rfl), (Nat.le_of_ble_eq_true rfl)⟩ ⟨(Nat.le_refl _), (Nat.le_refl _)⟩ (Nat.le_of_ble_eq_true rfl) rfl dX5_round_63 ?_
      refine ev_aload_n C (x := .ref l0) rfl trivial dX5_round_66 ?_
      obtain ⟨x67, e67, hs⟩ := aB hs
      refine ev_get C (ci := 5) (k := 0) rfl wu_5 (by decide) wf_X5_24 (gO_F e67) dX5_round_67 ?_
      refine ev_aload_n C (x := .ref l0) rfl trivial dX5_round_70 ?_
      obtain ⟨x71, e71, hs⟩ := aB hs
      refine ev_get C (ci := 5) (k := 4) rfl wu_5 (by decide) wf_X5_9 (gO_F e71) dX5_round_71 ?_
      obtain ⟨eo74, hs⟩ := kO_at hs
      obtain ⟨x74, h74, e74, hs⟩ := cI_at hs
      refine ev_callVN C (T_X2_lead _ _ _ _ _ e74) (ci := 2) rfl eo74 wc_X2_lead wn_X5_102 wi_X2_lead ws_X2_lead wz_X2 hy_X2_lead ⟨(Nat.le_of_ble_eq_true rfl), (Nat.le_of_ble_eq_true rfl)⟩ ⟨(Nat.le_refl _), (Nat.le_refl _)⟩ (Nat.le_of_ble_eq_true rfl) rfl dX5_round_74 ?_
      refine ev_istore_n C (by decide) dX5_round_77 ?_
      refine ev_iload_n C rfl dX5_round_78 ?_
      refine ev_if_ge C (tgt := 85) (by decide) dX5_round_79 (fun q79 => ?_) (fun q79 => ?_)
      · replace hs := (if_pos q79).symm.trans hs
        refine ev_iinc C (i := 3) (n := 1) (x := l3) (v := l3 + 1) rfl (congrArg (fun z => l3 + z) (show Int32.ofInt 1 = 1 by decide)) (by decide) dX5_round_85 ?_
        refine ev_goto C (tgt := 12) (by decide) dX5_round_88 ?_
        exact (K12 _ _ _ _ hs)
      · replace hs := (if_neg q79).symm.trans hs
        refine ev_bipush C (v := (-2)) dX5_round_82 (by decide) ?_
        cases hs
        exact ev_iret C rfl rfl (Nat.le_refl _) (Nat.le_refl _) rfl dX5_round_84
    · replace hs := (if_neg q29).symm.trans hs
      refine ev_iload_n C rfl dX5_round_32 ?_
      refine ev_aload_n C (x := .ref l0) rfl trivial dX5_round_33 ?_
      obtain ⟨x34, e34, hs⟩ := aB hs
      refine ev_get C (ci := 5) (k := 10) rfl wu_5 (by decide) wf_X5_21 (gO_F e34) dX5_round_34 ?_
      refine ev_iload_n C rfl dX5_round_37 ?_
      obtain ⟨x38, e38, hs⟩ := aB hs
      refine ev_iald C e38 dX5_round_38 ?_
      refine ev_isub C dX5_round_39 ?_
      cases hs
      exact ev_iret C rfl rfl (Nat.le_refl _) (Nat.le_refl _) rfl dX5_round_40
theorem t_X5_round_12 (C : Cx p l s m args meth c B0 X RX5 "round" cX5_round 4 (some .int) [])   : ∀ (n : Nat) {l0 : Nat} {l2 : Int32} {l3 : Int32} {h : aH} (hs : s_X5_round_12  n l0 l2 l3 h = some (r, h')), Ev p l e { frames := 4, cells := mc, slots := ms, locals := 102 } s m args below meth c D B0 X ws0 r h' mc ms 4 mc ms 12 [some (.ref l0), none, some (.int l2), some (.int l3)] [] h
  | 0, _, _, _, _, hs => nomatch hs
  | n + 1, _, _, _, _, hs => t_X5_round_12_b C  (k12 := s_X5_round_12  n) (fun _ _ _ _ hs => t_X5_round_12 C  n hs) hs
theorem hy_X5_round : yX5_round.cls ≠ "java/lang/invoke/MethodHandle" ∧ yX5_round.cls ≠ "java/lang/invoke/VarHandle" ∧ (parseMethodDescriptor yX5_round.desc).map (fun d => d.parameters.length) = some 1 := by decide +kernel
theorem T_X5_round (o : Nat) (a1 : Int32) (h : aH) (r : aR) (h' : aH) (hs : s_X5_round o a1 h = some (r, h')) : Mt yX5_round (Cond.code yX5_round cX5_round 4 (some .int) :: aTB) 4 102 0 0 [.ref o, .int a1] h r h' := by
  unfold s_X5_round at hs
  refine Mt_of (k := 2) (by decide) rfl (fun p l e s m args below meth c D B0 X ws0 C => ?_)
  show Ev p l e { frames := 4, cells := 0, slots := 0, locals := 102 } s m args below meth c D B0 X ws0 r h' 0 0 4 0 0 0 [some (.ref o), some (.int a1), none, none] [] h
  refine ev_aload_n C (x := .ref o) rfl trivial dX5_round_0 ?_
  obtain ⟨x1, e1, hs⟩ := aB hs
  refine ev_get C (ci := 5) (k := 10) rfl wu_5 (by decide) wf_X5_21 (gO_F e1) dX5_round_1 ?_
  refine ev_iconst C (v := (-1)) dX5_round_4 (by decide) ?_
  obtain ⟨h5, e5, hs⟩ := cN_at hs
  refine ev_callS C (T_J7_fill_53178 _ _ _ _ _ e5) wc_J7_fill_53178 wm_X5_44 wt_J7_fill_53178 wz_J7 hy_J7_fill_53178 ⟨(Nat.le_of_ble_eq_true rfl), (Nat.le_of_ble_eq_true rfl)⟩ ⟨(Nat.le_refl _), (Nat.le_refl _)⟩ (Nat.le_of_ble_eq_true rfl) rfl dX5_round_5 ?_
  refine ev_iload_n C rfl dX5_round_8 ?_
  refine ev_istore_n C (by decide) dX5_round_9 ?_
  refine ev_iconst C (v := 0) dX5_round_10 (by decide) ?_
  refine ev_istore_n C (by decide) dX5_round_11 ?_
  exact Ev.keep [true, false, true, true] (t_X5_round_12 C  FU hs)
end
-- X5_setClaim
theorem dX5_setClaim_0 : decode cX5_setClaim 0 = .ok (.aload_n 0, 1) := by decide +kernel
theorem dX5_setClaim_1 : decode cX5_setClaim 1 = .ok (.dup, 1) := by decide +kernel
theorem dX5_setClaim_2 : decode cX5_setClaim 2 = .ok (.getfield 50, 3) := by decide +kernel
theorem dX5_setClaim_5 : decode cX5_setClaim 5 = .ok (.iload_n 2, 1) := by decide +kernel
theorem dX5_setClaim_6 : decode cX5_setClaim 6 = .ok (.ifCond .ge 7, 3) := by decide +kernel
theorem dX5_setClaim_9 : decode cX5_setClaim 9 = .ok (.iconst 0, 1) := by decide +kernel
theorem dX5_setClaim_10 : decode cX5_setClaim 10 = .ok (.goto 4, 3) := by decide +kernel
theorem dX5_setClaim_13 : decode cX5_setClaim 13 = .ok (.iconst 1, 1) := by decide +kernel
theorem dX5_setClaim_14 : decode cX5_setClaim 14 = .ok (.aload_n 0, 1) := by decide +kernel
theorem dX5_setClaim_15 : decode cX5_setClaim 15 = .ok (.getfield 18, 3) := by decide +kernel
theorem dX5_setClaim_18 : decode cX5_setClaim 18 = .ok (.iload_n 1, 1) := by decide +kernel
theorem dX5_setClaim_19 : decode cX5_setClaim 19 = .ok (.iaload, 1) := by decide +kernel
theorem dX5_setClaim_20 : decode cX5_setClaim 20 = .ok (.ifCond .ge 7, 3) := by decide +kernel
theorem dX5_setClaim_23 : decode cX5_setClaim 23 = .ok (.iconst 0, 1) := by decide +kernel
theorem dX5_setClaim_24 : decode cX5_setClaim 24 = .ok (.goto 4, 3) := by decide +kernel
theorem dX5_setClaim_27 : decode cX5_setClaim 27 = .ok (.iconst 1, 1) := by decide +kernel
theorem dX5_setClaim_28 : decode cX5_setClaim 28 = .ok (.isub, 1) := by decide +kernel
theorem dX5_setClaim_29 : decode cX5_setClaim 29 = .ok (.iadd, 1) := by decide +kernel
theorem dX5_setClaim_30 : decode cX5_setClaim 30 = .ok (.putfield 50, 3) := by decide +kernel
theorem dX5_setClaim_33 : decode cX5_setClaim 33 = .ok (.aload_n 0, 1) := by decide +kernel
theorem dX5_setClaim_34 : decode cX5_setClaim 34 = .ok (.getfield 18, 3) := by decide +kernel
theorem dX5_setClaim_37 : decode cX5_setClaim 37 = .ok (.iload_n 1, 1) := by decide +kernel
theorem dX5_setClaim_38 : decode cX5_setClaim 38 = .ok (.iload_n 2, 1) := by decide +kernel
theorem dX5_setClaim_39 : decode cX5_setClaim 39 = .ok (.iastore, 1) := by decide +kernel
theorem dX5_setClaim_40 : decode cX5_setClaim 40 = .ok (.return_, 1) := by decide +kernel
def s_X5_setClaim_28  (l0 : Nat) (l1 : Int32) (l2 : Int32) (s0 : Int32) (s1 : Int32) (s2 : Int32) (s3 : Nat) (h : aH) : aO :=
  (pF h (.ref s3) 5 8 (.int (s2 + (s1 - s0)))).bind fun h30 => (gO h30 (.ref l0) 5 9).bind fun x34 => (stI h30 (.ref x34) l1 l2).bind fun h39 => some (.inl none, h39)
def s_X5_setClaim_14  (l0 : Nat) (l1 : Int32) (l2 : Int32) (s0 : Int32) (s1 : Int32) (s2 : Nat) (h : aH) : aO :=
  (gO h (.ref l0) 5 9).bind fun x15 => (ldI .int h (.ref x15) l1).bind fun x19 => if 0 ≤ x19 then (s_X5_setClaim_28 l0 l1 l2 1 s0 s1 s2 h) else (s_X5_setClaim_28 l0 l1 l2 0 s0 s1 s2 h)
def s_X5_setClaim (o : Nat) (a1 : Int32) (a2 : Int32) (h : aH) : aO :=
  (gI h (.ref o) 5 8).bind fun x2 => if 0 ≤ a2 then (s_X5_setClaim_14 o a1 a2 1 x2 o h) else (s_X5_setClaim_14 o a1 a2 0 x2 o h)
section
variable {p : Program} {l : Launch} {e : Env} {s : State} {m : MethodId} {args : Array Value} {below : List Frame} {meth : Method} {c : Code} {D : va_G} {B0 : Nat} {X : Nat → Nat} {ws0 : va_W} {r : aR} {h' : aH} {mc ms : Nat}
theorem t_X5_setClaim_28 (C : Cx p l s m args meth c B0 X RX5 "setClaim" cX5_setClaim 3 none [])   {l0 : Nat} {l1 : Int32} {l2 : Int32} {s0 : Int32} {s1 : Int32} {s2 : Int32} {s3 : Nat} {h : aH} (hs : s_X5_setClaim_28  l0 l1 l2 s0 s1 s2 s3 h = some (r, h')) : Ev p l e { frames := 0, cells := mc, slots := ms, locals := 0 } s m args below meth c D B0 X ws0 r h' mc ms 3 mc ms 28 [some (.ref l0), some (.int l1), some (.int l2)] [.int s0, .int s1, .int s2, .ref s3] h := by
  unfold s_X5_setClaim_28 at hs
  refine ev_isub C dX5_setClaim_28 ?_
  refine ev_iadd C dX5_setClaim_29 ?_
  obtain ⟨h30, e30, hs⟩ := aB hs
  refine ev_put C (ci := 5) (k := 8) rfl wu_5 (by decide) tyX5 tyX5_ok nmX5 wf_X5_50 rfl trivial e30 dX5_setClaim_30 ?_
  refine ev_aload_n C (x := .ref l0) rfl trivial dX5_setClaim_33 ?_
  obtain ⟨x34, e34, hs⟩ := aB hs
  refine ev_get C (ci := 5) (k := 9) rfl wu_5 (by decide) wf_X5_18 (gO_F e34) dX5_setClaim_34 ?_
  refine ev_iload_n C rfl dX5_setClaim_37 ?_
  refine ev_iload_n C rfl dX5_setClaim_38 ?_
  obtain ⟨h39, e39, hs⟩ := aB hs
  refine ev_iast C e39 dX5_setClaim_39 ?_
  cases hs
  exact ev_vret C rfl rfl (Nat.le_refl _) (Nat.le_refl _) rfl dX5_setClaim_40
theorem t_X5_setClaim_14 (C : Cx p l s m args meth c B0 X RX5 "setClaim" cX5_setClaim 3 none [])   {l0 : Nat} {l1 : Int32} {l2 : Int32} {s0 : Int32} {s1 : Int32} {s2 : Nat} {h : aH} (hs : s_X5_setClaim_14  l0 l1 l2 s0 s1 s2 h = some (r, h')) : Ev p l e { frames := 0, cells := mc, slots := ms, locals := 0 } s m args below meth c D B0 X ws0 r h' mc ms 3 mc ms 14 [some (.ref l0), some (.int l1), some (.int l2)] [.int s0, .int s1, .ref s2] h := by
  unfold s_X5_setClaim_14 at hs
  refine ev_aload_n C (x := .ref l0) rfl trivial dX5_setClaim_14 ?_
  obtain ⟨x15, e15, hs⟩ := aB hs
  refine ev_get C (ci := 5) (k := 9) rfl wu_5 (by decide) wf_X5_18 (gO_F e15) dX5_setClaim_15 ?_
  refine ev_iload_n C rfl dX5_setClaim_18 ?_
  obtain ⟨x19, e19, hs⟩ := aB hs
  refine ev_iald C e19 dX5_setClaim_19 ?_
  refine ev_if_ge C (tgt := 27) (by decide) dX5_setClaim_20 (fun q20 => ?_) (fun q20 => ?_)
  · replace hs := (if_pos q20).symm.trans hs
    refine ev_iconst C (v := 1) dX5_setClaim_27 (by decide) ?_
    exact (t_X5_setClaim_28 C  hs)
  · replace hs := (if_neg q20).symm.trans hs
    refine ev_iconst C (v := 0) dX5_setClaim_23 (by decide) ?_
    refine ev_goto C (tgt := 28) (by decide) dX5_setClaim_24 ?_
    exact (t_X5_setClaim_28 C  hs)
theorem hy_X5_setClaim : yX5_setClaim.cls ≠ "java/lang/invoke/MethodHandle" ∧ yX5_setClaim.cls ≠ "java/lang/invoke/VarHandle" ∧ (parseMethodDescriptor yX5_setClaim.desc).map (fun d => d.parameters.length) = some 2 := by decide +kernel
theorem T_X5_setClaim (o : Nat) (a1 : Int32) (a2 : Int32) (h : aH) (r : aR) (h' : aH) (hs : s_X5_setClaim o a1 a2 h = some (r, h')) : Mt yX5_setClaim (Cond.code yX5_setClaim cX5_setClaim 3 none :: aTB) 0 0 0 0 [.ref o, .int a1, .int a2] h r h' := by
  unfold s_X5_setClaim at hs
  refine Mt_of (k := 0) (by decide) rfl (fun p l e s m args below meth c D B0 X ws0 C => ?_)
  show Ev p l e { frames := 0, cells := 0, slots := 0, locals := 0 } s m args below meth c D B0 X ws0 r h' 0 0 3 0 0 0 [some (.ref o), some (.int a1), some (.int a2)] [] h
  refine ev_aload_n C (x := .ref o) rfl trivial dX5_setClaim_0 ?_
  refine ev_dup C rfl dX5_setClaim_1 ?_
  obtain ⟨x2, e2, hs⟩ := aB hs
  refine ev_get C (ci := 5) (k := 8) rfl wu_5 (by decide) wf_X5_50 (gI_F e2) dX5_setClaim_2 ?_
  refine ev_iload_n C rfl dX5_setClaim_5 ?_
  refine ev_if_ge C (tgt := 13) (by decide) dX5_setClaim_6 (fun q6 => ?_) (fun q6 => ?_)
  · replace hs := (if_pos q6).symm.trans hs
    refine ev_iconst C (v := 1) dX5_setClaim_13 (by decide) ?_
    exact (t_X5_setClaim_14 C  hs)
  · replace hs := (if_neg q6).symm.trans hs
    refine ev_iconst C (v := 0) dX5_setClaim_9 (by decide) ?_
    refine ev_goto C (tgt := 14) (by decide) dX5_setClaim_10 ?_
    exact (t_X5_setClaim_14 C  hs)
end
-- X5_isClaimed
theorem dX5_isClaimed_0 : decode cX5_isClaimed 0 = .ok (.aload_n 0, 1) := by decide +kernel
theorem dX5_isClaimed_1 : decode cX5_isClaimed 1 = .ok (.getfield 18, 3) := by decide +kernel
theorem dX5_isClaimed_4 : decode cX5_isClaimed 4 = .ok (.iload_n 1, 1) := by decide +kernel
theorem dX5_isClaimed_5 : decode cX5_isClaimed 5 = .ok (.iaload, 1) := by decide +kernel
theorem dX5_isClaimed_6 : decode cX5_isClaimed 6 = .ok (.ifCond .lt 7, 3) := by decide +kernel
theorem dX5_isClaimed_9 : decode cX5_isClaimed 9 = .ok (.iconst 1, 1) := by decide +kernel
theorem dX5_isClaimed_10 : decode cX5_isClaimed 10 = .ok (.goto 4, 3) := by decide +kernel
theorem dX5_isClaimed_13 : decode cX5_isClaimed 13 = .ok (.iconst 0, 1) := by decide +kernel
theorem dX5_isClaimed_14 : decode cX5_isClaimed 14 = .ok (.ireturn, 1) := by decide +kernel
def s_X5_isClaimed (o : Nat) (a1 : Int32) (h : aH) : aO :=
  (gO h (.ref o) 5 9).bind fun x1 => (ldI .int h (.ref x1) a1).bind fun x5 => if x5 < 0 then (rtZ 0 h) else (rtZ 1 h)
section
variable {p : Program} {l : Launch} {e : Env} {s : State} {m : MethodId} {args : Array Value} {below : List Frame} {meth : Method} {c : Code} {D : va_G} {B0 : Nat} {X : Nat → Nat} {ws0 : va_W} {r : aR} {h' : aH} {mc ms : Nat}
theorem hy_X5_isClaimed : yX5_isClaimed.cls ≠ "java/lang/invoke/MethodHandle" ∧ yX5_isClaimed.cls ≠ "java/lang/invoke/VarHandle" ∧ (parseMethodDescriptor yX5_isClaimed.desc).map (fun d => d.parameters.length) = some 1 := by decide +kernel
theorem T_X5_isClaimed (o : Nat) (a1 : Int32) (h : aH) (r : aR) (h' : aH) (hs : s_X5_isClaimed o a1 h = some (r, h')) : Mt yX5_isClaimed (Cond.code yX5_isClaimed cX5_isClaimed 2 (some .boolean) :: aTB) 0 0 0 0 [.ref o, .int a1] h r h' := by
  unfold s_X5_isClaimed at hs
  refine Mt_of (k := 0) (by decide) rfl (fun p l e s m args below meth c D B0 X ws0 C => ?_)
  show Ev p l e { frames := 0, cells := 0, slots := 0, locals := 0 } s m args below meth c D B0 X ws0 r h' 0 0 2 0 0 0 [some (.ref o), some (.int a1)] [] h
  refine ev_aload_n C (x := .ref o) rfl trivial dX5_isClaimed_0 ?_
  obtain ⟨x1, e1, hs⟩ := aB hs
  refine ev_get C (ci := 5) (k := 9) rfl wu_5 (by decide) wf_X5_18 (gO_F e1) dX5_isClaimed_1 ?_
  refine ev_iload_n C rfl dX5_isClaimed_4 ?_
  obtain ⟨x5, e5, hs⟩ := aB hs
  refine ev_iald C e5 dX5_isClaimed_5 ?_
  refine ev_if_lt C (tgt := 13) (by decide) dX5_isClaimed_6 (fun q6 => ?_) (fun q6 => ?_)
  · replace hs := (if_pos q6).symm.trans hs
    refine ev_iconst C (v := 0) dX5_isClaimed_13 (by decide) ?_
    obtain ⟨hz, rfl, rfl⟩ := rtZ_at hs
    exact ev_zret C rfl hz rfl (Nat.le_refl _) (Nat.le_refl _) rfl dX5_isClaimed_14
  · replace hs := (if_neg q6).symm.trans hs
    refine ev_iconst C (v := 1) dX5_isClaimed_9 (by decide) ?_
    refine ev_goto C (tgt := 14) (by decide) dX5_isClaimed_10 ?_
    obtain ⟨hz, rfl, rfl⟩ := rtZ_at hs
    exact ev_zret C rfl hz rfl (Nat.le_refl _) (Nat.le_refl _) rfl dX5_isClaimed_14
end
-- X10_isGoal
theorem dX10_isGoal_0 : decode cX10_isGoal 0 = .ok (.aload_n 0, 1) := by decide +kernel
theorem dX10_isGoal_1 : decode cX10_isGoal 1 = .ok (.getfield 18, 3) := by decide +kernel
theorem dX10_isGoal_4 : decode cX10_isGoal 4 = .ok (.iload_n 1, 1) := by decide +kernel
theorem dX10_isGoal_5 : decode cX10_isGoal 5 = .ok (.iconst 5, 1) := by decide +kernel
theorem dX10_isGoal_6 : decode cX10_isGoal 6 = .ok (.ishr, 1) := by decide +kernel
theorem dX10_isGoal_7 : decode cX10_isGoal 7 = .ok (.iaload, 1) := by decide +kernel
theorem dX10_isGoal_8 : decode cX10_isGoal 8 = .ok (.iload_n 1, 1) := by decide +kernel
theorem dX10_isGoal_9 : decode cX10_isGoal 9 = .ok (.bipush 31, 2) := by decide +kernel
theorem dX10_isGoal_11 : decode cX10_isGoal 11 = .ok (.iand, 1) := by decide +kernel
theorem dX10_isGoal_12 : decode cX10_isGoal 12 = .ok (.ishr, 1) := by decide +kernel
theorem dX10_isGoal_13 : decode cX10_isGoal 13 = .ok (.iconst 1, 1) := by decide +kernel
theorem dX10_isGoal_14 : decode cX10_isGoal 14 = .ok (.iand, 1) := by decide +kernel
theorem dX10_isGoal_15 : decode cX10_isGoal 15 = .ok (.ifCond .eq 7, 3) := by decide +kernel
theorem dX10_isGoal_18 : decode cX10_isGoal 18 = .ok (.iconst 1, 1) := by decide +kernel
theorem dX10_isGoal_19 : decode cX10_isGoal 19 = .ok (.goto 4, 3) := by decide +kernel
theorem dX10_isGoal_22 : decode cX10_isGoal 22 = .ok (.iconst 0, 1) := by decide +kernel
theorem dX10_isGoal_23 : decode cX10_isGoal 23 = .ok (.ireturn, 1) := by decide +kernel
def s_X10_isGoal (o : Nat) (a1 : Int32) (h : aH) : aO :=
  (gO h (.ref o) 10 5).bind fun x1 => (ldI .int h (.ref x1) (a1 >>> (5 &&& 31))).bind fun x7 => if ((x7 >>> ((a1 &&& 31) &&& 31)) &&& 1) = 0 then (rtZ 0 h) else (rtZ 1 h)
section
variable {p : Program} {l : Launch} {e : Env} {s : State} {m : MethodId} {args : Array Value} {below : List Frame} {meth : Method} {c : Code} {D : va_G} {B0 : Nat} {X : Nat → Nat} {ws0 : va_W} {r : aR} {h' : aH} {mc ms : Nat}
theorem hy_X10_isGoal : yX10_isGoal.cls ≠ "java/lang/invoke/MethodHandle" ∧ yX10_isGoal.cls ≠ "java/lang/invoke/VarHandle" ∧ (parseMethodDescriptor yX10_isGoal.desc).map (fun d => d.parameters.length) = some 1 := by decide +kernel
theorem T_X10_isGoal (o : Nat) (a1 : Int32) (h : aH) (r : aR) (h' : aH) (hs : s_X10_isGoal o a1 h = some (r, h')) : Mt yX10_isGoal (Cond.code yX10_isGoal cX10_isGoal 2 (some .boolean) :: aTB) 0 0 0 0 [.ref o, .int a1] h r h' := by
  unfold s_X10_isGoal at hs
  refine Mt_of (k := 0) (by decide) rfl (fun p l e s m args below meth c D B0 X ws0 C => ?_)
  show Ev p l e { frames := 0, cells := 0, slots := 0, locals := 0 } s m args below meth c D B0 X ws0 r h' 0 0 2 0 0 0 [some (.ref o), some (.int a1)] [] h
  refine ev_aload_n C (x := .ref o) rfl trivial dX10_isGoal_0 ?_
  obtain ⟨x1, e1, hs⟩ := aB hs
  refine ev_get C (ci := 10) (k := 5) rfl wu_10 (by decide) wf_X10_18 (gO_F e1) dX10_isGoal_1 ?_
  refine ev_iload_n C rfl dX10_isGoal_4 ?_
  refine ev_iconst C (v := 5) dX10_isGoal_5 (by decide) ?_
  refine ev_ishr C dX10_isGoal_6 ?_
  obtain ⟨x7, e7, hs⟩ := aB hs
  refine ev_iald C e7 dX10_isGoal_7 ?_
  refine ev_iload_n C rfl dX10_isGoal_8 ?_
  refine ev_bipush C (v := 31) dX10_isGoal_9 (by decide) ?_
  refine ev_iand C dX10_isGoal_11 ?_
  refine ev_ishr C dX10_isGoal_12 ?_
  refine ev_iconst C (v := 1) dX10_isGoal_13 (by decide) ?_
  refine ev_iand C dX10_isGoal_14 ?_
  refine ev_if_eq C (tgt := 22) (by decide) dX10_isGoal_15 (fun q15 => ?_) (fun q15 => ?_)
  · replace hs := (if_pos q15).symm.trans hs
    refine ev_iconst C (v := 0) dX10_isGoal_22 (by decide) ?_
    obtain ⟨hz, rfl, rfl⟩ := rtZ_at hs
    exact ev_zret C rfl hz rfl (Nat.le_refl _) (Nat.le_refl _) rfl dX10_isGoal_23
  · replace hs := (if_neg q15).symm.trans hs
    refine ev_iconst C (v := 1) dX10_isGoal_18 (by decide) ?_
    refine ev_goto C (tgt := 23) (by decide) dX10_isGoal_19 ?_
    obtain ⟨hz, rfl, rfl⟩ := rtZ_at hs
    exact ev_zret C rfl hz rfl (Nat.le_refl _) (Nat.le_refl _) rfl dX10_isGoal_23
end
-- X5_leadsToLess
theorem dX5_leadsToLess_0 : decode cX5_leadsToLess 0 = .ok (.iconst 0, 1) := by decide +kernel
theorem dX5_leadsToLess_1 : decode cX5_leadsToLess 1 = .ok (.istore_n 3, 1) := by decide +kernel
theorem dX5_leadsToLess_2 : decode cX5_leadsToLess 2 = .ok (.iload_n 3, 1) := by decide +kernel
theorem dX5_leadsToLess_3 : decode cX5_leadsToLess 3 = .ok (.aload_n 0, 1) := by decide +kernel
theorem dX5_leadsToLess_4 : decode cX5_leadsToLess 4 = .ok (.getfield 24, 3) := by decide +kernel
theorem dX5_leadsToLess_7 : decode cX5_leadsToLess 7 = .ok (.getfield 128, 3) := by decide +kernel
theorem dX5_leadsToLess_10 : decode cX5_leadsToLess 10 = .ok (.if_icmp .ge 54, 3) := by decide +kernel
theorem dX5_leadsToLess_13 : decode cX5_leadsToLess 13 = .ok (.aload_n 0, 1) := by decide +kernel
theorem dX5_leadsToLess_14 : decode cX5_leadsToLess 14 = .ok (.getfield 28, 3) := by decide +kernel
theorem dX5_leadsToLess_17 : decode cX5_leadsToLess 17 = .ok (.iload_n 1, 1) := by decide +kernel
theorem dX5_leadsToLess_18 : decode cX5_leadsToLess 18 = .ok (.iload_n 2, 1) := by decide +kernel
theorem dX5_leadsToLess_19 : decode cX5_leadsToLess 19 = .ok (.iload_n 3, 1) := by decide +kernel
theorem dX5_leadsToLess_20 : decode cX5_leadsToLess 20 = .ok (.invokevirtual 131, 3) := by decide +kernel
theorem dX5_leadsToLess_23 : decode cX5_leadsToLess 23 = .ok (.istore 4, 2) := by decide +kernel
theorem dX5_leadsToLess_25 : decode cX5_leadsToLess 25 = .ok (.iload 4, 2) := by decide +kernel
theorem dX5_leadsToLess_27 : decode cX5_leadsToLess 27 = .ok (.ifCond .lt 29, 3) := by decide +kernel
theorem dX5_leadsToLess_30 : decode cX5_leadsToLess 30 = .ok (.aload_n 0, 1) := by decide +kernel
theorem dX5_leadsToLess_31 : decode cX5_leadsToLess 31 = .ok (.getfield 18, 3) := by decide +kernel
theorem dX5_leadsToLess_34 : decode cX5_leadsToLess 34 = .ok (.iload 4, 2) := by decide +kernel
theorem dX5_leadsToLess_36 : decode cX5_leadsToLess 36 = .ok (.iaload, 1) := by decide +kernel
theorem dX5_leadsToLess_37 : decode cX5_leadsToLess 37 = .ok (.ifCond .lt 19, 3) := by decide +kernel
theorem dX5_leadsToLess_40 : decode cX5_leadsToLess 40 = .ok (.aload_n 0, 1) := by decide +kernel
theorem dX5_leadsToLess_41 : decode cX5_leadsToLess 41 = .ok (.getfield 18, 3) := by decide +kernel
theorem dX5_leadsToLess_44 : decode cX5_leadsToLess 44 = .ok (.iload 4, 2) := by decide +kernel
theorem dX5_leadsToLess_46 : decode cX5_leadsToLess 46 = .ok (.iaload, 1) := by decide +kernel
theorem dX5_leadsToLess_47 : decode cX5_leadsToLess 47 = .ok (.aload_n 0, 1) := by decide +kernel
theorem dX5_leadsToLess_48 : decode cX5_leadsToLess 48 = .ok (.getfield 18, 3) := by decide +kernel
theorem dX5_leadsToLess_51 : decode cX5_leadsToLess 51 = .ok (.iload_n 1, 1) := by decide +kernel
theorem dX5_leadsToLess_52 : decode cX5_leadsToLess 52 = .ok (.iaload, 1) := by decide +kernel
theorem dX5_leadsToLess_53 : decode cX5_leadsToLess 53 = .ok (.if_icmp .lt 5, 3) := by decide +kernel
theorem dX5_leadsToLess_56 : decode cX5_leadsToLess 56 = .ok (.iconst 0, 1) := by decide +kernel
theorem dX5_leadsToLess_57 : decode cX5_leadsToLess 57 = .ok (.ireturn, 1) := by decide +kernel
theorem dX5_leadsToLess_58 : decode cX5_leadsToLess 58 = .ok (.iinc 3 1, 3) := by decide +kernel
theorem dX5_leadsToLess_61 : decode cX5_leadsToLess 61 = .ok (.goto (-59), 3) := by decide +kernel
theorem dX5_leadsToLess_64 : decode cX5_leadsToLess 64 = .ok (.iconst 1, 1) := by decide +kernel
theorem dX5_leadsToLess_65 : decode cX5_leadsToLess 65 = .ok (.ireturn, 1) := by decide +kernel
def s_X5_leadsToLess_2_b  (k2 : Nat → Int32 → Int32 → Int32 → aH → aO) (l0 : Nat) (l1 : Int32) (l2 : Int32) (l3 : Int32) (h : aH) : aO :=
  (gO h (.ref l0) 5 0).bind fun x4 => (gI h (.ref x4) 2 14).bind fun x7 => if x7 ≤ l3 then (rtZ 1 h) else ((gO h (.ref l0) 5 1).bind fun x14 => kO h x14 3 (cI (s_X3_leadOf x14 l1 l2 l3 h) fun x20 h20 => if x20 < 0 then (rtZ 0 h20) else ((gO h20 (.ref l0) 5 9).bind fun x31 => (ldI .int h20 (.ref x31) x20).bind fun x36 => if x36 < 0 then (rtZ 0 h20) else ((gO h20 (.ref l0) 5 9).bind fun x41 => (ldI .int h20 (.ref x41) x20).bind fun x46 => (gO h20 (.ref l0) 5 9).bind fun x48 => (ldI .int h20 (.ref x48) l1).bind fun x52 => if x46 < x52 then (k2 l0 l1 l2 (l3 + 1) h20) else (rtZ 0 h20)))))
def s_X5_leadsToLess_2  (n : Nat) : Nat → Int32 → Int32 → Int32 → aH → aO := lpF (fun _ _ _ _ _ => none) (s_X5_leadsToLess_2_b ) n
def s_X5_leadsToLess (o : Nat) (a1 : Int32) (a2 : Int32) (h : aH) : aO :=
  s_X5_leadsToLess_2 FU o a1 a2 0 h
section
variable {p : Program} {l : Launch} {e : Env} {s : State} {m : MethodId} {args : Array Value} {below : List Frame} {meth : Method} {c : Code} {D : va_G} {B0 : Nat} {X : Nat → Nat} {ws0 : va_W} {r : aR} {h' : aH} {mc ms : Nat}
theorem t_X5_leadsToLess_2_b (C : Cx p l s m args meth c B0 X RX5 "leadsToLess" cX5_leadsToLess 5 (some .boolean) [])   {k2 : Nat → Int32 → Int32 → Int32 → aH → aO} (K2 : ∀ (l0 : Nat) (l1 : Int32) (l2 : Int32) (l3 : Int32) (h : aH), k2 l0 l1 l2 l3 h = some (r, h') → Ev p l e { frames := 1, cells := mc, slots := ms, locals := 23 } s m args below meth c D B0 X ws0 r h' mc ms 5 mc ms 2 [some (.ref l0), some (.int l1), some (.int l2), some (.int l3), none] [] h) {l0 : Nat} {l1 : Int32} {l2 : Int32} {l3 : Int32} {h : aH} (hs : s_X5_leadsToLess_2_b  k2 l0 l1 l2 l3 h = some (r, h')) : Ev p l e { frames := 1, cells := mc, slots := ms, locals := 23 } s m args below meth c D B0 X ws0 r h' mc ms 5 mc ms 2 [some (.ref l0), some (.int l1), some (.int l2), some (.int l3), none] [] h := by
  unfold s_X5_leadsToLess_2_b at hs
  refine ev_iload_n C rfl dX5_leadsToLess_2 ?_
  refine ev_aload_n C (x := .ref l0) rfl trivial dX5_leadsToLess_3 ?_
  obtain ⟨x4, e4, hs⟩ := aB hs
  refine ev_get C (ci := 5) (k := 0) rfl wu_5 (by decide) wf_X5_24 (gO_F e4) dX5_leadsToLess_4 ?_
  obtain ⟨x7, e7, hs⟩ := aB hs
  refine ev_getN C (ci := 2) (k := 14) rfl wu_2 (by decide) wg_X5_128 (gI_F e7) dX5_leadsToLess_7 ?_
  refine ev_icmp_ge C (tgt := 64) (by decide) dX5_leadsToLess_10 (fun q10 => ?_) (fun q10 => ?_)
  · replace hs := (if_pos q10).symm.trans hs
    refine ev_iconst C (v := 1) dX5_leadsToLess_64 (by decide) ?_
    obtain ⟨hz, rfl, rfl⟩ := rtZ_at hs
    exact ev_zret C rfl hz rfl (Nat.le_refl _) (Nat.le_refl _) rfl dX5_leadsToLess_65
  · replace hs := (if_neg q10).symm.trans hs
    refine ev_aload_n C (x := .ref l0) rfl trivial dX5_leadsToLess_13 ?_
    obtain ⟨x14, e14, hs⟩ := aB hs
    refine ev_get C (ci := 5) (k := 1) rfl wu_5 (by decide) wf_X5_28 (gO_F e14) dX5_leadsToLess_14 ?_
    refine ev_iload_n C rfl dX5_leadsToLess_17 ?_
    refine ev_iload_n C rfl dX5_leadsToLess_18 ?_
    refine ev_iload_n C rfl dX5_leadsToLess_19 ?_
    obtain ⟨eo20, hs⟩ := kO_at hs
    obtain ⟨x20, h20, e20, hs⟩ := cI_at hs
    refine ev_callVN C (T_X3_leadOf _ _ _ _ _ _ _ e20) (ci := 3) rfl eo20 wc_X3_leadOf wn_X5_131 wi_X3_leadOf ws_X3_leadOf wz_X3 hy_X3_leadOf ⟨(Nat.le_of_ble_eq_true rfl), (Nat.le_of_ble_eq_true rfl)⟩ ⟨(Nat.le_refl _), (Nat.le_refl _)⟩ (Nat.le_of_ble_eq_true rfl) rfl dX5_leadsToLess_20 ?_
    refine ev_istore C (by decide) dX5_leadsToLess_23 ?_
    refine ev_iload C rfl dX5_leadsToLess_25 ?_
    refine ev_if_lt C (tgt := 56) (by decide) dX5_leadsToLess_27 (fun q27 => ?_) (fun q27 => ?_)
    · replace hs := (if_pos q27).symm.trans hs
      refine ev_iconst C (v := 0) dX5_leadsToLess_56 (by decide) ?_
      obtain ⟨hz, rfl, rfl⟩ := rtZ_at hs
      exact ev_zret C rfl hz rfl (Nat.le_refl _) (Nat.le_refl _) rfl dX5_leadsToLess_57
    · replace hs := (if_neg q27).symm.trans hs
      refine ev_aload_n C (x := .ref l0) rfl trivial dX5_leadsToLess_30 ?_
      obtain ⟨x31, e31, hs⟩ := aB hs
      refine ev_get C (ci := 5) (k := 9) rfl wu_5 (by decide) wf_X5_18 (gO_F e31) dX5_leadsToLess_31 ?_
      refine ev_iload C rfl dX5_leadsToLess_34 ?_
      obtain ⟨x36, e36, hs⟩ := aB hs
      refine ev_iald C e36 dX5_leadsToLess_36 ?_
      refine ev_if_lt C (tgt := 56) (by decide) dX5_leadsToLess_37 (fun q37 => ?_) (fun q37 => ?_)
      · replace hs := (if_pos q37).symm.trans hs
        refine ev_iconst C (v := 0) dX5_leadsToLess_56 (by decide) ?_
        obtain ⟨hz, rfl, rfl⟩ := rtZ_at hs
        exact ev_zret C rfl hz rfl (Nat.le_refl _) (Nat.le_refl _) rfl dX5_leadsToLess_57
      · replace hs := (if_neg q37).symm.trans hs
        refine ev_aload_n C (x := .ref l0) rfl trivial dX5_leadsToLess_40 ?_
        obtain ⟨x41, e41, hs⟩ := aB hs
        refine ev_get C (ci := 5) (k := 9) rfl wu_5 (by decide) wf_X5_18 (gO_F e41) dX5_leadsToLess_41 ?_
        refine ev_iload C rfl dX5_leadsToLess_44 ?_
        obtain ⟨x46, e46, hs⟩ := aB hs
        refine ev_iald C e46 dX5_leadsToLess_46 ?_
        refine ev_aload_n C (x := .ref l0) rfl trivial dX5_leadsToLess_47 ?_
        obtain ⟨x48, e48, hs⟩ := aB hs
        refine ev_get C (ci := 5) (k := 9) rfl wu_5 (by decide) wf_X5_18 (gO_F e48) dX5_leadsToLess_48 ?_
        refine ev_iload_n C rfl dX5_leadsToLess_51 ?_
        obtain ⟨x52, e52, hs⟩ := aB hs
        refine ev_iald C e52 dX5_leadsToLess_52 ?_
        refine ev_icmp_lt C (tgt := 58) (by decide) dX5_leadsToLess_53 (fun q53 => ?_) (fun q53 => ?_)
        · replace hs := (if_pos q53).symm.trans hs
          refine ev_iinc C (i := 3) (n := 1) (x := l3) (v := l3 + 1) rfl (congrArg (fun z => l3 + z) (show Int32.ofInt 1 = 1 by decide)) (by decide) dX5_leadsToLess_58 ?_
          refine ev_goto C (tgt := 2) (by decide) dX5_leadsToLess_61 ?_
          exact Ev.keep [true, true, true, true, false] (K2 _ _ _ _ _ hs)
        · replace hs := (if_neg q53).symm.trans hs
          refine ev_iconst C (v := 0) dX5_leadsToLess_56 (by decide) ?_
          obtain ⟨hz, rfl, rfl⟩ := rtZ_at hs
          exact ev_zret C rfl hz rfl (Nat.le_refl _) (Nat.le_refl _) rfl dX5_leadsToLess_57
theorem t_X5_leadsToLess_2 (C : Cx p l s m args meth c B0 X RX5 "leadsToLess" cX5_leadsToLess 5 (some .boolean) [])   : ∀ (n : Nat) {l0 : Nat} {l1 : Int32} {l2 : Int32} {l3 : Int32} {h : aH} (hs : s_X5_leadsToLess_2  n l0 l1 l2 l3 h = some (r, h')), Ev p l e { frames := 1, cells := mc, slots := ms, locals := 23 } s m args below meth c D B0 X ws0 r h' mc ms 5 mc ms 2 [some (.ref l0), some (.int l1), some (.int l2), some (.int l3), none] [] h
  | 0, _, _, _, _, _, hs => nomatch hs
  | n + 1, _, _, _, _, _, hs => t_X5_leadsToLess_2_b C  (k2 := s_X5_leadsToLess_2  n) (fun _ _ _ _ _ hs => t_X5_leadsToLess_2 C  n hs) hs
theorem hy_X5_leadsToLess : yX5_leadsToLess.cls ≠ "java/lang/invoke/MethodHandle" ∧ yX5_leadsToLess.cls ≠ "java/lang/invoke/VarHandle" ∧ (parseMethodDescriptor yX5_leadsToLess.desc).map (fun d => d.parameters.length) = some 2 := by decide +kernel
theorem T_X5_leadsToLess (o : Nat) (a1 : Int32) (a2 : Int32) (h : aH) (r : aR) (h' : aH) (hs : s_X5_leadsToLess o a1 a2 h = some (r, h')) : Mt yX5_leadsToLess (Cond.code yX5_leadsToLess cX5_leadsToLess 5 (some .boolean) :: aTB) 1 23 0 0 [.ref o, .int a1, .int a2] h r h' := by
  unfold s_X5_leadsToLess at hs
  refine Mt_of (k := 2) (by decide) rfl (fun p l e s m args below meth c D B0 X ws0 C => ?_)
  show Ev p l e { frames := 1, cells := 0, slots := 0, locals := 23 } s m args below meth c D B0 X ws0 r h' 0 0 5 0 0 0 [some (.ref o), some (.int a1), some (.int a2), none, none] [] h
  refine ev_iconst C (v := 0) dX5_leadsToLess_0 (by decide) ?_
  refine ev_istore_n C (by decide) dX5_leadsToLess_1 ?_
  exact (t_X5_leadsToLess_2 C  FU hs)
end
-- X5_stands
theorem dX5_stands_0 : decode cX5_stands 0 = .ok (.aload_n 0, 1) := by decide +kernel
theorem dX5_stands_1 : decode cX5_stands 1 = .ok (.getfield 32, 3) := by decide +kernel
theorem dX5_stands_4 : decode cX5_stands 4 = .ok (.iload_n 1, 1) := by decide +kernel
theorem dX5_stands_5 : decode cX5_stands 5 = .ok (.invokevirtual 113, 3) := by decide +kernel
theorem dX5_stands_8 : decode cX5_stands 8 = .ok (.ifCond .ne 5, 3) := by decide +kernel
theorem dX5_stands_11 : decode cX5_stands 11 = .ok (.iconst 0, 1) := by decide +kernel
theorem dX5_stands_12 : decode cX5_stands 12 = .ok (.ireturn, 1) := by decide +kernel
theorem dX5_stands_13 : decode cX5_stands 13 = .ok (.aload_n 0, 1) := by decide +kernel
theorem dX5_stands_14 : decode cX5_stands 14 = .ok (.getfield 18, 3) := by decide +kernel
theorem dX5_stands_17 : decode cX5_stands 17 = .ok (.iload_n 1, 1) := by decide +kernel
theorem dX5_stands_18 : decode cX5_stands 18 = .ok (.iaload, 1) := by decide +kernel
theorem dX5_stands_19 : decode cX5_stands 19 = .ok (.ifCond .ne 12, 3) := by decide +kernel
theorem dX5_stands_22 : decode cX5_stands 22 = .ok (.aload_n 0, 1) := by decide +kernel
theorem dX5_stands_23 : decode cX5_stands 23 = .ok (.getfield 32, 3) := by decide +kernel
theorem dX5_stands_26 : decode cX5_stands 26 = .ok (.iload_n 1, 1) := by decide +kernel
theorem dX5_stands_27 : decode cX5_stands 27 = .ok (.invokevirtual 118, 3) := by decide +kernel
theorem dX5_stands_30 : decode cX5_stands 30 = .ok (.ireturn, 1) := by decide +kernel
theorem dX5_stands_31 : decode cX5_stands 31 = .ok (.iconst 0, 1) := by decide +kernel
theorem dX5_stands_32 : decode cX5_stands 32 = .ok (.istore_n 2, 1) := by decide +kernel
theorem dX5_stands_33 : decode cX5_stands 33 = .ok (.iload_n 2, 1) := by decide +kernel
theorem dX5_stands_34 : decode cX5_stands 34 = .ok (.aload_n 0, 1) := by decide +kernel
theorem dX5_stands_35 : decode cX5_stands 35 = .ok (.getfield 24, 3) := by decide +kernel
theorem dX5_stands_38 : decode cX5_stands 38 = .ok (.getfield 121, 3) := by decide +kernel
theorem dX5_stands_41 : decode cX5_stands 41 = .ok (.if_icmp .ge 20, 3) := by decide +kernel
theorem dX5_stands_44 : decode cX5_stands 44 = .ok (.aload_n 0, 1) := by decide +kernel
theorem dX5_stands_45 : decode cX5_stands 45 = .ok (.iload_n 1, 1) := by decide +kernel
theorem dX5_stands_46 : decode cX5_stands 46 = .ok (.iload_n 2, 1) := by decide +kernel
theorem dX5_stands_47 : decode cX5_stands 47 = .ok (.invokevirtual 124, 3) := by decide +kernel
theorem dX5_stands_50 : decode cX5_stands 50 = .ok (.ifCond .eq 5, 3) := by decide +kernel
theorem dX5_stands_53 : decode cX5_stands 53 = .ok (.iconst 1, 1) := by decide +kernel
theorem dX5_stands_54 : decode cX5_stands 54 = .ok (.ireturn, 1) := by decide +kernel
theorem dX5_stands_55 : decode cX5_stands 55 = .ok (.iinc 2 1, 3) := by decide +kernel
theorem dX5_stands_58 : decode cX5_stands 58 = .ok (.goto (-25), 3) := by decide +kernel
theorem dX5_stands_61 : decode cX5_stands 61 = .ok (.iconst 0, 1) := by decide +kernel
theorem dX5_stands_62 : decode cX5_stands 62 = .ok (.ireturn, 1) := by decide +kernel
def s_X5_stands_33_b  (k33 : Nat → Int32 → Int32 → aH → aO) (l0 : Nat) (l1 : Int32) (l2 : Int32) (h : aH) : aO :=
  (gO h (.ref l0) 5 0).bind fun x35 => (gI h (.ref x35) 2 13).bind fun x38 => if x38 ≤ l2 then (rtZ 0 h) else (kO h l0 5 (cI (s_X5_leadsToLess l0 l1 l2 h) fun x47 h47 => if x47 = 0 then (k33 l0 l1 (l2 + 1) h47) else (rtZ 1 h47)))
def s_X5_stands_33  (n : Nat) : Nat → Int32 → Int32 → aH → aO := lpF (fun _ _ _ _ => none) (s_X5_stands_33_b ) n
def s_X5_stands (o : Nat) (a1 : Int32) (h : aH) : aO :=
  (gO h (.ref o) 5 2).bind fun x1 => kO h x1 10 (cI (s_X10_isGood x1 a1 h) fun x5 h5 => if x5 = 0 then (rtZ 0 h5) else ((gO h5 (.ref o) 5 9).bind fun x14 => (ldI .int h5 (.ref x14) a1).bind fun x18 => if x18 = 0 then ((gO h5 (.ref o) 5 2).bind fun x23 => kO h5 x23 10 (cI (s_X10_isGoal x23 a1 h5) fun x27 h27 => rtZ x27 h27)) else (s_X5_stands_33 FU o a1 0 h5)))
section
variable {p : Program} {l : Launch} {e : Env} {s : State} {m : MethodId} {args : Array Value} {below : List Frame} {meth : Method} {c : Code} {D : va_G} {B0 : Nat} {X : Nat → Nat} {ws0 : va_W} {r : aR} {h' : aH} {mc ms : Nat}
theorem t_X5_stands_33_b (C : Cx p l s m args meth c B0 X RX5 "stands" cX5_stands 3 (some .boolean) [])   {k33 : Nat → Int32 → Int32 → aH → aO} (K33 : ∀ (l0 : Nat) (l1 : Int32) (l2 : Int32) (h : aH), k33 l0 l1 l2 h = some (r, h') → Ev p l e { frames := 2, cells := mc, slots := ms, locals := 47 } s m args below meth c D B0 X ws0 r h' mc ms 3 mc ms 33 [some (.ref l0), some (.int l1), some (.int l2)] [] h) {l0 : Nat} {l1 : Int32} {l2 : Int32} {h : aH} (hs : s_X5_stands_33_b  k33 l0 l1 l2 h = some (r, h')) : Ev p l e { frames := 2, cells := mc, slots := ms, locals := 47 } s m args below meth c D B0 X ws0 r h' mc ms 3 mc ms 33 [some (.ref l0), some (.int l1), some (.int l2)] [] h := by
  unfold s_X5_stands_33_b at hs
  refine ev_iload_n C rfl dX5_stands_33 ?_
  refine ev_aload_n C (x := .ref l0) rfl trivial dX5_stands_34 ?_
  obtain ⟨x35, e35, hs⟩ := aB hs
  refine ev_get C (ci := 5) (k := 0) rfl wu_5 (by decide) wf_X5_24 (gO_F e35) dX5_stands_35 ?_
  obtain ⟨x38, e38, hs⟩ := aB hs
  refine ev_getN C (ci := 2) (k := 13) rfl wu_2 (by decide) wg_X5_121 (gI_F e38) dX5_stands_38 ?_
  refine ev_icmp_ge C (tgt := 61) (by decide) dX5_stands_41 (fun q41 => ?_) (fun q41 => ?_)
  · replace hs := (if_pos q41).symm.trans hs
    refine ev_iconst C (v := 0) dX5_stands_61 (by decide) ?_
    obtain ⟨hz, rfl, rfl⟩ := rtZ_at hs
    exact ev_zret C rfl hz rfl (Nat.le_refl _) (Nat.le_refl _) rfl dX5_stands_62
  · replace hs := (if_neg q41).symm.trans hs
    refine ev_aload_n C (x := .ref l0) rfl trivial dX5_stands_44 ?_
    refine ev_iload_n C rfl dX5_stands_45 ?_
    refine ev_iload_n C rfl dX5_stands_46 ?_
    obtain ⟨eo47, hs⟩ := kO_at hs
    obtain ⟨x47, h47, e47, hs⟩ := cI_at hs
    refine ev_callV C (T_X5_leadsToLess _ _ _ _ _ _ e47) (ci := 5) rfl eo47 wc_X5_leadsToLess wm_X5_124 wi_X5_leadsToLess ws_X5_leadsToLess wz_X5 hy_X5_leadsToLess ⟨(Nat.le_of_ble_eq_true rfl), (Nat.le_of_ble_eq_true rfl)⟩ ⟨(Nat.le_refl _), (Nat.le_refl _)⟩ (Nat.le_of_ble_eq_true rfl) rfl dX5_stands_47 ?_
    refine ev_if_eq C (tgt := 55) (by decide) dX5_stands_50 (fun q50 => ?_) (fun q50 => ?_)
    · replace hs := (if_pos q50).symm.trans hs
      refine ev_iinc C (i := 2) (n := 1) (x := l2) (v := l2 + 1) rfl (congrArg (fun z => l2 + z) (show Int32.ofInt 1 = 1 by decide)) (by decide) dX5_stands_55 ?_
      refine ev_goto C (tgt := 33) (by decide) dX5_stands_58 ?_
      exact (K33 _ _ _ _ hs)
    · replace hs := (if_neg q50).symm.trans hs
      refine ev_iconst C (v := 1) dX5_stands_53 (by decide) ?_
      obtain ⟨hz, rfl, rfl⟩ := rtZ_at hs
      exact ev_zret C rfl hz rfl (Nat.le_refl _) (Nat.le_refl _) rfl dX5_stands_54
theorem t_X5_stands_33 (C : Cx p l s m args meth c B0 X RX5 "stands" cX5_stands 3 (some .boolean) [])   : ∀ (n : Nat) {l0 : Nat} {l1 : Int32} {l2 : Int32} {h : aH} (hs : s_X5_stands_33  n l0 l1 l2 h = some (r, h')), Ev p l e { frames := 2, cells := mc, slots := ms, locals := 47 } s m args below meth c D B0 X ws0 r h' mc ms 3 mc ms 33 [some (.ref l0), some (.int l1), some (.int l2)] [] h
  | 0, _, _, _, _, hs => nomatch hs
  | n + 1, _, _, _, _, hs => t_X5_stands_33_b C  (k33 := s_X5_stands_33  n) (fun _ _ _ _ hs => t_X5_stands_33 C  n hs) hs
theorem hy_X5_stands : yX5_stands.cls ≠ "java/lang/invoke/MethodHandle" ∧ yX5_stands.cls ≠ "java/lang/invoke/VarHandle" ∧ (parseMethodDescriptor yX5_stands.desc).map (fun d => d.parameters.length) = some 1 := by decide +kernel
theorem T_X5_stands (o : Nat) (a1 : Int32) (h : aH) (r : aR) (h' : aH) (hs : s_X5_stands o a1 h = some (r, h')) : Mt yX5_stands (Cond.code yX5_stands cX5_stands 3 (some .boolean) :: aTB) 2 47 0 0 [.ref o, .int a1] h r h' := by
  unfold s_X5_stands at hs
  refine Mt_of (k := 1) (by decide) rfl (fun p l e s m args below meth c D B0 X ws0 C => ?_)
  show Ev p l e { frames := 2, cells := 0, slots := 0, locals := 47 } s m args below meth c D B0 X ws0 r h' 0 0 3 0 0 0 [some (.ref o), some (.int a1), none] [] h
  refine ev_aload_n C (x := .ref o) rfl trivial dX5_stands_0 ?_
  obtain ⟨x1, e1, hs⟩ := aB hs
  refine ev_get C (ci := 5) (k := 2) rfl wu_5 (by decide) wf_X5_32 (gO_F e1) dX5_stands_1 ?_
  refine ev_iload_n C rfl dX5_stands_4 ?_
  obtain ⟨eo5, hs⟩ := kO_at hs
  obtain ⟨x5, h5, e5, hs⟩ := cI_at hs
  refine ev_callVN C (T_X10_isGood _ _ _ _ _ e5) (ci := 10) rfl eo5 wc_X10_isGood wn_X5_113 wi_X10_isGood ws_X10_isGood wz_X10 hy_X10_isGood ⟨(Nat.le_of_ble_eq_true rfl), (Nat.le_of_ble_eq_true rfl)⟩ ⟨(Nat.le_refl _), (Nat.le_refl _)⟩ (Nat.le_of_ble_eq_true rfl) rfl dX5_stands_5 ?_
  refine ev_if_ne C (tgt := 13) (by decide) dX5_stands_8 (fun q8 => ?_) (fun q8 => ?_)
  · replace hs := (if_neg q8).symm.trans hs
    refine ev_aload_n C (x := .ref o) rfl trivial dX5_stands_13 ?_
    obtain ⟨x14, e14, hs⟩ := aB hs
    refine ev_get C (ci := 5) (k := 9) rfl wu_5 (by decide) wf_X5_18 (gO_F e14) dX5_stands_14 ?_
    refine ev_iload_n C rfl dX5_stands_17 ?_
    obtain ⟨x18, e18, hs⟩ := aB hs
    refine ev_iald C e18 dX5_stands_18 ?_
    refine ev_if_ne C (tgt := 31) (by decide) dX5_stands_19 (fun q19 => ?_) (fun q19 => ?_)
    · replace hs := (if_neg q19).symm.trans hs
      refine ev_iconst C (v := 0) dX5_stands_31 (by decide) ?_
      refine ev_istore_n C (by decide) dX5_stands_32 ?_
      exact (t_X5_stands_33 C  FU hs)
    · replace hs := (if_pos q19).symm.trans hs
      refine ev_aload_n C (x := .ref o) rfl trivial dX5_stands_22 ?_
      obtain ⟨x23, e23, hs⟩ := aB hs
      refine ev_get C (ci := 5) (k := 2) rfl wu_5 (by decide) wf_X5_32 (gO_F e23) dX5_stands_23 ?_
      refine ev_iload_n C rfl dX5_stands_26 ?_
      obtain ⟨eo27, hs⟩ := kO_at hs
      obtain ⟨x27, h27, e27, hs⟩ := cI_at hs
      refine ev_callVN C (T_X10_isGoal _ _ _ _ _ e27) (ci := 10) rfl eo27 wc_X10_isGoal wn_X5_118 wi_X10_isGoal ws_X10_isGoal wz_X10 hy_X10_isGoal ⟨(Nat.le_of_ble_eq_true rfl), (Nat.le_of_ble_eq_true rfl)⟩ ⟨(Nat.le_refl _), (Nat.le_refl _)⟩ (Nat.le_of_ble_eq_true rfl) rfl dX5_stands_27 ?_
      obtain ⟨hz, rfl, rfl⟩ := rtZ_at hs
      exact ev_zret C rfl hz rfl (Nat.le_refl _) (Nat.le_refl _) rfl dX5_stands_30
  · replace hs := (if_pos q8).symm.trans hs
    refine ev_iconst C (v := 0) dX5_stands_11 (by decide) ?_
    obtain ⟨hz, rfl, rfl⟩ := rtZ_at hs
    exact ev_zret C rfl hz rfl (Nat.le_refl _) (Nat.le_refl _) rfl dX5_stands_12
end
-- X5_firstBreak
theorem dX5_firstBreak_0 : decode cX5_firstBreak 0 = .ok (.iconst 0, 1) := by decide +kernel
theorem dX5_firstBreak_1 : decode cX5_firstBreak 1 = .ok (.istore_n 1, 1) := by decide +kernel
theorem dX5_firstBreak_2 : decode cX5_firstBreak 2 = .ok (.iload_n 1, 1) := by decide +kernel
theorem dX5_firstBreak_3 : decode cX5_firstBreak 3 = .ok (.aload_n 0, 1) := by decide +kernel
theorem dX5_firstBreak_4 : decode cX5_firstBreak 4 = .ok (.getfield 24, 3) := by decide +kernel
theorem dX5_firstBreak_7 : decode cX5_firstBreak 7 = .ok (.getfield 87, 3) := by decide +kernel
theorem dX5_firstBreak_10 : decode cX5_firstBreak 10 = .ok (.if_icmp .ge 27, 3) := by decide +kernel
theorem dX5_firstBreak_13 : decode cX5_firstBreak 13 = .ok (.aload_n 0, 1) := by decide +kernel
theorem dX5_firstBreak_14 : decode cX5_firstBreak 14 = .ok (.iload_n 1, 1) := by decide +kernel
theorem dX5_firstBreak_15 : decode cX5_firstBreak 15 = .ok (.invokevirtual 106, 3) := by decide +kernel
theorem dX5_firstBreak_18 : decode cX5_firstBreak 18 = .ok (.ifCond .eq 13, 3) := by decide +kernel
theorem dX5_firstBreak_21 : decode cX5_firstBreak 21 = .ok (.aload_n 0, 1) := by decide +kernel
theorem dX5_firstBreak_22 : decode cX5_firstBreak 22 = .ok (.iload_n 1, 1) := by decide +kernel
theorem dX5_firstBreak_23 : decode cX5_firstBreak 23 = .ok (.invokevirtual 110, 3) := by decide +kernel
theorem dX5_firstBreak_26 : decode cX5_firstBreak 26 = .ok (.ifCond .ne 5, 3) := by decide +kernel
theorem dX5_firstBreak_29 : decode cX5_firstBreak 29 = .ok (.iload_n 1, 1) := by decide +kernel
theorem dX5_firstBreak_30 : decode cX5_firstBreak 30 = .ok (.ireturn, 1) := by decide +kernel
theorem dX5_firstBreak_31 : decode cX5_firstBreak 31 = .ok (.iinc 1 1, 3) := by decide +kernel
theorem dX5_firstBreak_34 : decode cX5_firstBreak 34 = .ok (.goto (-32), 3) := by decide +kernel
theorem dX5_firstBreak_37 : decode cX5_firstBreak 37 = .ok (.bipush (-2), 2) := by decide +kernel
theorem dX5_firstBreak_39 : decode cX5_firstBreak 39 = .ok (.ireturn, 1) := by decide +kernel
def s_X5_firstBreak_2_b  (k2 : Nat → Int32 → aH → aO) (l0 : Nat) (l1 : Int32) (h : aH) : aO :=
  (gO h (.ref l0) 5 0).bind fun x4 => (gI h (.ref x4) 2 12).bind fun x7 => if x7 ≤ l1 then (some (.inl (some (.int (-2))), h)) else (kO h l0 5 (cI (s_X5_isClaimed l0 l1 h) fun x15 h15 => if x15 = 0 then (k2 l0 (l1 + 1) h15) else (kO h15 l0 5 (cI (s_X5_stands l0 l1 h15) fun x23 h23 => if x23 = 0 then (some (.inl (some (.int l1)), h23)) else (k2 l0 (l1 + 1) h23)))))
def s_X5_firstBreak_2  (n : Nat) : Nat → Int32 → aH → aO := lpF (fun _ _ _ => none) (s_X5_firstBreak_2_b ) n
def s_X5_firstBreak (o : Nat) (h : aH) : aO :=
  s_X5_firstBreak_2 FU o 0 h
section
variable {p : Program} {l : Launch} {e : Env} {s : State} {m : MethodId} {args : Array Value} {below : List Frame} {meth : Method} {c : Code} {D : va_G} {B0 : Nat} {X : Nat → Nat} {ws0 : va_W} {r : aR} {h' : aH} {mc ms : Nat}
theorem t_X5_firstBreak_2_b (C : Cx p l s m args meth c B0 X RX5 "firstBreak" cX5_firstBreak 2 (some .int) [])   {k2 : Nat → Int32 → aH → aO} (K2 : ∀ (l0 : Nat) (l1 : Int32) (h : aH), k2 l0 l1 h = some (r, h') → Ev p l e { frames := 3, cells := mc, slots := ms, locals := 69 } s m args below meth c D B0 X ws0 r h' mc ms 2 mc ms 2 [some (.ref l0), some (.int l1)] [] h) {l0 : Nat} {l1 : Int32} {h : aH} (hs : s_X5_firstBreak_2_b  k2 l0 l1 h = some (r, h')) : Ev p l e { frames := 3, cells := mc, slots := ms, locals := 69 } s m args below meth c D B0 X ws0 r h' mc ms 2 mc ms 2 [some (.ref l0), some (.int l1)] [] h := by
  unfold s_X5_firstBreak_2_b at hs
  refine ev_iload_n C rfl dX5_firstBreak_2 ?_
  refine ev_aload_n C (x := .ref l0) rfl trivial dX5_firstBreak_3 ?_
  obtain ⟨x4, e4, hs⟩ := aB hs
  refine ev_get C (ci := 5) (k := 0) rfl wu_5 (by decide) wf_X5_24 (gO_F e4) dX5_firstBreak_4 ?_
  obtain ⟨x7, e7, hs⟩ := aB hs
  refine ev_getN C (ci := 2) (k := 12) rfl wu_2 (by decide) wg_X5_87 (gI_F e7) dX5_firstBreak_7 ?_
  refine ev_icmp_ge C (tgt := 37) (by decide) dX5_firstBreak_10 (fun q10 => ?_) (fun q10 => ?_)
  · replace hs := (if_pos q10).symm.trans hs
    refine ev_bipush C (v := (-2)) dX5_firstBreak_37 (by decide) ?_
    cases hs
    exact ev_iret C rfl rfl (Nat.le_refl _) (Nat.le_refl _) rfl dX5_firstBreak_39
  · replace hs := (if_neg q10).symm.trans hs
    refine ev_aload_n C (x := .ref l0) rfl trivial dX5_firstBreak_13 ?_
    refine ev_iload_n C rfl dX5_firstBreak_14 ?_
    obtain ⟨eo15, hs⟩ := kO_at hs
    obtain ⟨x15, h15, e15, hs⟩ := cI_at hs
    refine ev_callV C (T_X5_isClaimed _ _ _ _ _ e15) (ci := 5) rfl eo15 wc_X5_isClaimed wm_X5_106 wi_X5_isClaimed ws_X5_isClaimed wz_X5 hy_X5_isClaimed ⟨(Nat.le_of_ble_eq_true rfl), (Nat.le_of_ble_eq_true rfl)⟩ ⟨(Nat.le_refl _), (Nat.le_refl _)⟩ (Nat.le_of_ble_eq_true rfl) rfl dX5_firstBreak_15 ?_
    refine ev_if_eq C (tgt := 31) (by decide) dX5_firstBreak_18 (fun q18 => ?_) (fun q18 => ?_)
    · replace hs := (if_pos q18).symm.trans hs
      refine ev_iinc C (i := 1) (n := 1) (x := l1) (v := l1 + 1) rfl (congrArg (fun z => l1 + z) (show Int32.ofInt 1 = 1 by decide)) (by decide) dX5_firstBreak_31 ?_
      refine ev_goto C (tgt := 2) (by decide) dX5_firstBreak_34 ?_
      exact (K2 _ _ _ hs)
    · replace hs := (if_neg q18).symm.trans hs
      refine ev_aload_n C (x := .ref l0) rfl trivial dX5_firstBreak_21 ?_
      refine ev_iload_n C rfl dX5_firstBreak_22 ?_
      obtain ⟨eo23, hs⟩ := kO_at hs
      obtain ⟨x23, h23, e23, hs⟩ := cI_at hs
      refine ev_callV C (T_X5_stands _ _ _ _ _ e23) (ci := 5) rfl eo23 wc_X5_stands wm_X5_110 wi_X5_stands ws_X5_stands wz_X5 hy_X5_stands ⟨(Nat.le_of_ble_eq_true rfl), (Nat.le_of_ble_eq_true rfl)⟩ ⟨(Nat.le_refl _), (Nat.le_refl _)⟩ (Nat.le_of_ble_eq_true rfl) rfl dX5_firstBreak_23 ?_
      refine ev_if_ne C (tgt := 31) (by decide) dX5_firstBreak_26 (fun q26 => ?_) (fun q26 => ?_)
      · replace hs := (if_neg q26).symm.trans hs
        refine ev_iinc C (i := 1) (n := 1) (x := l1) (v := l1 + 1) rfl (congrArg (fun z => l1 + z) (show Int32.ofInt 1 = 1 by decide)) (by decide) dX5_firstBreak_31 ?_
        refine ev_goto C (tgt := 2) (by decide) dX5_firstBreak_34 ?_
        exact (K2 _ _ _ hs)
      · replace hs := (if_pos q26).symm.trans hs
        refine ev_iload_n C rfl dX5_firstBreak_29 ?_
        cases hs
        exact ev_iret C rfl rfl (Nat.le_refl _) (Nat.le_refl _) rfl dX5_firstBreak_30
theorem t_X5_firstBreak_2 (C : Cx p l s m args meth c B0 X RX5 "firstBreak" cX5_firstBreak 2 (some .int) [])   : ∀ (n : Nat) {l0 : Nat} {l1 : Int32} {h : aH} (hs : s_X5_firstBreak_2  n l0 l1 h = some (r, h')), Ev p l e { frames := 3, cells := mc, slots := ms, locals := 69 } s m args below meth c D B0 X ws0 r h' mc ms 2 mc ms 2 [some (.ref l0), some (.int l1)] [] h
  | 0, _, _, _, hs => nomatch hs
  | n + 1, _, _, _, hs => t_X5_firstBreak_2_b C  (k2 := s_X5_firstBreak_2  n) (fun _ _ _ hs => t_X5_firstBreak_2 C  n hs) hs
theorem hy_X5_firstBreak : yX5_firstBreak.cls ≠ "java/lang/invoke/MethodHandle" ∧ yX5_firstBreak.cls ≠ "java/lang/invoke/VarHandle" ∧ (parseMethodDescriptor yX5_firstBreak.desc).map (fun d => d.parameters.length) = some 0 := by decide +kernel
theorem T_X5_firstBreak (o : Nat) (h : aH) (r : aR) (h' : aH) (hs : s_X5_firstBreak o h = some (r, h')) : Mt yX5_firstBreak (Cond.code yX5_firstBreak cX5_firstBreak 2 (some .int) :: aTB) 3 69 0 0 [.ref o] h r h' := by
  unfold s_X5_firstBreak at hs
  refine Mt_of (k := 1) (by decide) rfl (fun p l e s m args below meth c D B0 X ws0 C => ?_)
  show Ev p l e { frames := 3, cells := 0, slots := 0, locals := 69 } s m args below meth c D B0 X ws0 r h' 0 0 2 0 0 0 [some (.ref o), none] [] h
  refine ev_iconst C (v := 0) dX5_firstBreak_0 (by decide) ?_
  refine ev_istore_n C (by decide) dX5_firstBreak_1 ?_
  exact (t_X5_firstBreak_2 C  FU hs)
end
-- X8_init
theorem dX8_init_0 : decode cX8_init 0 = .ok (.aload_n 0, 1) := by decide +kernel
theorem dX8_init_1 : decode cX8_init 1 = .ok (.invokespecial 3, 3) := by decide +kernel
theorem dX8_init_4 : decode cX8_init 4 = .ok (.aload_n 0, 1) := by decide +kernel
theorem dX8_init_5 : decode cX8_init 5 = .ok (.sipush 401, 3) := by decide +kernel
theorem dX8_init_8 : decode cX8_init 8 = .ok (.newarray .int, 2) := by decide +kernel
theorem dX8_init_10 : decode cX8_init 10 = .ok (.putfield 9, 3) := by decide +kernel
theorem dX8_init_13 : decode cX8_init 13 = .ok (.aload_n 0, 1) := by decide +kernel
theorem dX8_init_14 : decode cX8_init 14 = .ok (.sipush 401, 3) := by decide +kernel
theorem dX8_init_17 : decode cX8_init 17 = .ok (.newarray .int, 2) := by decide +kernel
theorem dX8_init_19 : decode cX8_init 19 = .ok (.putfield 15, 3) := by decide +kernel
theorem dX8_init_22 : decode cX8_init 22 = .ok (.aload_n 0, 1) := by decide +kernel
theorem dX8_init_23 : decode cX8_init 23 = .ok (.sipush 401, 3) := by decide +kernel
theorem dX8_init_26 : decode cX8_init 26 = .ok (.newarray .long, 2) := by decide +kernel
theorem dX8_init_28 : decode cX8_init 28 = .ok (.putfield 18, 3) := by decide +kernel
theorem dX8_init_31 : decode cX8_init 31 = .ok (.return_, 1) := by decide +kernel
def s_X8_init (o : Nat) (h : aH) : aP :=
  bP (nwA .int h 401) fun o8 h8 => ck (0 + 1) (0 + Int32.toNatClampNeg 401) ((pF h8 (.ref o) 8 1 (.ref o8)).bind fun h10 => bP (nwA .int h10 401) fun o17 h17 => ck (0 + 1 + 1) (0 + Int32.toNatClampNeg 401 + Int32.toNatClampNeg 401) ((pF h17 (.ref o) 8 2 (.ref o17)).bind fun h19 => bP (nwA .long h19 401) fun o26 h26 => ck (0 + 1 + 1 + 1) (0 + Int32.toNatClampNeg 401 + Int32.toNatClampNeg 401 + Int32.toNatClampNeg 401) (wC (0 + 1 + 1 + 1) (0 + Int32.toNatClampNeg 401 + Int32.toNatClampNeg 401 + Int32.toNatClampNeg 401) ((pF h26 (.ref o) 8 3 (.ref o26)).bind fun h28 => some (.inl none, h28)))))
section
variable {p : Program} {l : Launch} {e : Env} {s : State} {m : MethodId} {args : Array Value} {below : List Frame} {meth : Method} {c : Code} {D : va_G} {B0 : Nat} {X : Nat → Nat} {ws0 : va_W} {r : aR} {h' : aH} {mc ms : Nat}
theorem hy_X8_init : yX8_init.cls ≠ "java/lang/invoke/MethodHandle" ∧ yX8_init.cls ≠ "java/lang/invoke/VarHandle" ∧ (parseMethodDescriptor yX8_init.desc).map (fun d => d.parameters.length) = some 0 := by decide +kernel
theorem T_X8_init (o : Nat) (h : aH) (r : aR) (h' : aH) (mc ms : Nat) (hs : s_X8_init o h = some (r, h', mc, ms)) : Mt yX8_init (Cond.code yX8_init cX8_init 1 none :: aTB) 1 20 mc ms [.ref o] h r h' := by
  unfold s_X8_init at hs
  refine Mt_of (k := 0) (by decide) rfl (fun p l e s m args below meth c D B0 X ws0 C => ?_)
  show Ev p l e { frames := 1, cells := mc, slots := ms, locals := 20 } s m args below meth c D B0 X ws0 r h' mc ms 1 0 0 0 [some (.ref o)] [] h
  refine ev_aload_n C (x := .ref o) rfl trivial dX8_init_0 ?_
  refine ev_objInit C wm_X8_3 wi_oinit wc_oinit (Nat.le_of_ble_eq_true rfl) (Nat.le_of_ble_eq_true rfl) dX8_init_1 ?_
  refine ev_aload_n C (x := .ref o) rfl trivial dX8_init_4 ?_
  refine ev_sipush C (v := 401) dX8_init_5 (by decide) ?_
  obtain ⟨o8, h8, e8, hs⟩ := bP_at hs
  obtain ⟨c8, z8, hs⟩ := ck_at hs
  refine ev_newa C (atype := .int) (ty := .int) rfl wa_int (fun _ _ => rfl) e8 c8 z8 dX8_init_8 ?_
  obtain ⟨h10, e10, hs⟩ := aB hs
  refine ev_putF C (ci := 8) (k := 1) rfl wu_8 (by decide) tyX8 tyX8_ok nmX8 wf_X8_9 rfl rfl rfl trivial e10 dX8_init_10 ?_
  refine ev_aload_n C (x := .ref o) rfl trivial dX8_init_13 ?_
  refine ev_sipush C (v := 401) dX8_init_14 (by decide) ?_
  obtain ⟨o17, h17, e17, hs⟩ := bP_at hs
  obtain ⟨c17, z17, hs⟩ := ck_at hs
  refine ev_newa C (atype := .int) (ty := .int) rfl wa_int (fun _ _ => rfl) e17 c17 z17 dX8_init_17 ?_
  obtain ⟨h19, e19, hs⟩ := aB hs
  refine ev_putF C (ci := 8) (k := 2) rfl wu_8 (by decide) tyX8 tyX8_ok nmX8 wf_X8_15 rfl rfl rfl trivial e19 dX8_init_19 ?_
  refine ev_aload_n C (x := .ref o) rfl trivial dX8_init_22 ?_
  refine ev_sipush C (v := 401) dX8_init_23 (by decide) ?_
  obtain ⟨o26, h26, e26, hs⟩ := bP_at hs
  obtain ⟨c26, z26, hs⟩ := ck_at hs
  refine ev_newa C (atype := .long) (ty := .long) rfl wa_long (fun _ _ => rfl) e26 c26 z26 dX8_init_26 ?_
  obtain ⟨hw9, rfl, rfl⟩ := wC_at hs
  have hs := hw9
  obtain ⟨h28, e28, hs⟩ := aB hs
  refine ev_putF C (ci := 8) (k := 3) rfl wu_8 (by decide) tyX8 tyX8_ok nmX8 wf_X8_18 rfl rfl rfl trivial e28 dX8_init_28 ?_
  cases hs
  exact ev_vret C rfl rfl (Nat.le_refl _) (Nat.le_refl _) rfl dX8_init_31
end
-- X6_init
theorem dX6_init_0 : decode cX6_init 0 = .ok (.aload_n 0, 1) := by decide +kernel
theorem dX6_init_1 : decode cX6_init 1 = .ok (.invokespecial 3, 3) := by decide +kernel
theorem dX6_init_4 : decode cX6_init 4 = .ok (.aload_n 0, 1) := by decide +kernel
theorem dX6_init_5 : decode cX6_init 5 = .ok (.new 9, 3) := by decide +kernel
theorem dX6_init_8 : decode cX6_init 8 = .ok (.dup, 1) := by decide +kernel
theorem dX6_init_9 : decode cX6_init 9 = .ok (.invokespecial 11, 3) := by decide +kernel
theorem dX6_init_12 : decode cX6_init 12 = .ok (.putfield 12, 3) := by decide +kernel
theorem dX6_init_15 : decode cX6_init 15 = .ok (.aload_n 0, 1) := by decide +kernel
theorem dX6_init_16 : decode cX6_init 16 = .ok (.aload_n 1, 1) := by decide +kernel
theorem dX6_init_17 : decode cX6_init 17 = .ok (.putfield 18, 3) := by decide +kernel
theorem dX6_init_20 : decode cX6_init 20 = .ok (.aload_n 0, 1) := by decide +kernel
theorem dX6_init_21 : decode cX6_init 21 = .ok (.aload_n 1, 1) := by decide +kernel
theorem dX6_init_22 : decode cX6_init 22 = .ok (.getfield 22, 3) := by decide +kernel
theorem dX6_init_25 : decode cX6_init 25 = .ok (.putfield 28, 3) := by decide +kernel
theorem dX6_init_28 : decode cX6_init 28 = .ok (.return_, 1) := by decide +kernel
def s_X6_init (o : Nat) (a1 : Nat) (h : aH) : aP :=
  bP (nwO dfX8 8 h) fun o5 h5 => ck (0 + 1) (0 + 4) (dN (s_X8_init o5 h5) fun h9 n9 y9 => ck (0 + 1 + n9) (0 + 4 + y9) (wC (0 + 1 + n9) (0 + 4 + y9) ((pF h9 (.ref o) 6 7 (.ref o5)).bind fun h12 => (pF h12 (.ref o) 6 5 (.ref a1)).bind fun h17 => (gO h17 (.ref a1) 2 16).bind fun x22 => (pF h17 (.ref o) 6 6 (.ref x22)).bind fun h25 => some (.inl none, h25))))
section
variable {p : Program} {l : Launch} {e : Env} {s : State} {m : MethodId} {args : Array Value} {below : List Frame} {meth : Method} {c : Code} {D : va_G} {B0 : Nat} {X : Nat → Nat} {ws0 : va_W} {r : aR} {h' : aH} {mc ms : Nat}
theorem hy_X6_init : yX6_init.cls ≠ "java/lang/invoke/MethodHandle" ∧ yX6_init.cls ≠ "java/lang/invoke/VarHandle" ∧ (parseMethodDescriptor yX6_init.desc).map (fun d => d.parameters.length) = some 1 := by decide +kernel
theorem T_X6_init (o : Nat) (a1 : Nat) (h : aH) (r : aR) (h' : aH) (mc ms : Nat) (hs : s_X6_init o a1 h = some (r, h', mc, ms)) : Mt yX6_init (Cond.code yX6_init cX6_init 2 none :: aTB) 2 40 mc ms [.ref o, .ref a1] h r h' := by
  unfold s_X6_init at hs
  refine Mt_of (k := 0) (by decide) rfl (fun p l e s m args below meth c D B0 X ws0 C => ?_)
  show Ev p l e { frames := 2, cells := mc, slots := ms, locals := 40 } s m args below meth c D B0 X ws0 r h' mc ms 2 0 0 0 [some (.ref o), some (.ref a1)] [] h
  refine ev_aload_n C (x := .ref o) rfl trivial dX6_init_0 ?_
  refine ev_objInit C wm_X6_3 wi_oinit wc_oinit (Nat.le_of_ble_eq_true rfl) (Nat.le_of_ble_eq_true rfl) dX6_init_1 ?_
  refine ev_aload_n C (x := .ref o) rfl trivial dX6_init_4 ?_
  obtain ⟨o5, h5, e5, hs⟩ := bP_at hs
  obtain ⟨c5, z5, hs⟩ := ck_at hs
  refine ev_new C (ci := 8) rfl wu_8 tyX8 tyX8_ok wk_X6_9 wj_X8 wz_X8 dfX8_ok dfX8_se e5 c5 z5 dX6_init_5 ?_
  refine ev_dup C rfl dX6_init_8 ?_
  obtain ⟨h9, n9, y9, e9, hs⟩ := dN_at hs
  obtain ⟨c9, z9, hs⟩ := ck_at hs
  refine ev_callIN C (T_X8_init _ _ _ _ _ _ e9) wc_X8_init wn_X6_11 wi_X8_init wz_X8 rfl hy_X8_init ⟨(Nat.le_of_ble_eq_true rfl), (Nat.le_of_ble_eq_true rfl)⟩ ⟨c9, z9⟩ (Nat.le_of_ble_eq_true rfl) rfl dX6_init_9 ?_
  obtain ⟨hw9, rfl, rfl⟩ := wC_at hs
  have hs := hw9
  obtain ⟨h12, e12, hs⟩ := aB hs
  refine ev_putF C (ci := 6) (k := 7) rfl wu_6 (by decide) tyX6 tyX6_ok nmX6 wf_X6_12 rfl rfl rfl trivial e12 dX6_init_12 ?_
  refine ev_aload_n C (x := .ref o) rfl trivial dX6_init_15 ?_
  refine ev_aload_n C (x := .ref a1) rfl trivial dX6_init_16 ?_
  obtain ⟨h17, e17, hs⟩ := aB hs
  refine ev_put C (ci := 6) (k := 5) rfl wu_6 (by decide) tyX6 tyX6_ok nmX6 wf_X6_18 rfl trivial e17 dX6_init_17 ?_
  refine ev_aload_n C (x := .ref o) rfl trivial dX6_init_20 ?_
  refine ev_aload_n C (x := .ref a1) rfl trivial dX6_init_21 ?_
  obtain ⟨x22, e22, hs⟩ := aB hs
  refine ev_getN C (ci := 2) (k := 16) rfl wu_2 (by decide) wg_X6_22 (gO_F e22) dX6_init_22 ?_
  obtain ⟨h25, e25, hs⟩ := aB hs
  refine ev_put C (ci := 6) (k := 6) rfl wu_6 (by decide) tyX6 tyX6_ok nmX6 wf_X6_28 rfl trivial e25 dX6_init_25 ?_
  cases hs
  exact ev_vret C rfl rfl (Nat.le_refl _) (Nat.le_refl _) rfl dX6_init_28
end
-- X8_isLetter
theorem dX8_isLetter_0 : decode cX8_isLetter 0 = .ok (.iload_n 0, 1) := by decide +kernel
theorem dX8_isLetter_1 : decode cX8_isLetter 1 = .ok (.bipush 97, 2) := by decide +kernel
theorem dX8_isLetter_3 : decode cX8_isLetter 3 = .ok (.if_icmp .lt 13, 3) := by decide +kernel
theorem dX8_isLetter_6 : decode cX8_isLetter 6 = .ok (.iload_n 0, 1) := by decide +kernel
theorem dX8_isLetter_7 : decode cX8_isLetter 7 = .ok (.bipush 122, 2) := by decide +kernel
theorem dX8_isLetter_9 : decode cX8_isLetter 9 = .ok (.if_icmp .gt 7, 3) := by decide +kernel
theorem dX8_isLetter_12 : decode cX8_isLetter 12 = .ok (.iconst 1, 1) := by decide +kernel
theorem dX8_isLetter_13 : decode cX8_isLetter 13 = .ok (.goto 4, 3) := by decide +kernel
theorem dX8_isLetter_16 : decode cX8_isLetter 16 = .ok (.iconst 0, 1) := by decide +kernel
theorem dX8_isLetter_17 : decode cX8_isLetter 17 = .ok (.ireturn, 1) := by decide +kernel
def s_X8_isLetter (a1 : Int32) (h : aH) : aO :=
  if a1 < 97 then (rtZ 0 h) else (if 122 < a1 then (rtZ 0 h) else (rtZ 1 h))
section
variable {p : Program} {l : Launch} {e : Env} {s : State} {m : MethodId} {args : Array Value} {below : List Frame} {meth : Method} {c : Code} {D : va_G} {B0 : Nat} {X : Nat → Nat} {ws0 : va_W} {r : aR} {h' : aH} {mc ms : Nat}
theorem hy_X8_isLetter : yX8_isLetter.cls ≠ "java/lang/invoke/MethodHandle" ∧ yX8_isLetter.cls ≠ "java/lang/invoke/VarHandle" ∧ (parseMethodDescriptor yX8_isLetter.desc).map (fun d => d.parameters.length) = some 1 := by decide +kernel
theorem T_X8_isLetter (a1 : Int32) (h : aH) (r : aR) (h' : aH) (hs : s_X8_isLetter a1 h = some (r, h')) : Mt yX8_isLetter (Cond.code yX8_isLetter cX8_isLetter 1 (some .boolean) :: aTB) 0 0 0 0 [.int a1] h r h' := by
  unfold s_X8_isLetter at hs
  refine Mt_of (k := 0) (by decide) rfl (fun p l e s m args below meth c D B0 X ws0 C => ?_)
  show Ev p l e { frames := 0, cells := 0, slots := 0, locals := 0 } s m args below meth c D B0 X ws0 r h' 0 0 1 0 0 0 [some (.int a1)] [] h
  refine ev_iload_n C rfl dX8_isLetter_0 ?_
  refine ev_bipush C (v := 97) dX8_isLetter_1 (by decide) ?_
  refine ev_icmp_lt C (tgt := 16) (by decide) dX8_isLetter_3 (fun q3 => ?_) (fun q3 => ?_)
  · replace hs := (if_pos q3).symm.trans hs
    refine ev_iconst C (v := 0) dX8_isLetter_16 (by decide) ?_
    obtain ⟨hz, rfl, rfl⟩ := rtZ_at hs
    exact ev_zret C rfl hz rfl (Nat.le_refl _) (Nat.le_refl _) rfl dX8_isLetter_17
  · replace hs := (if_neg q3).symm.trans hs
    refine ev_iload_n C rfl dX8_isLetter_6 ?_
    refine ev_bipush C (v := 122) dX8_isLetter_7 (by decide) ?_
    refine ev_icmp_gt C (tgt := 16) (by decide) dX8_isLetter_9 (fun q9 => ?_) (fun q9 => ?_)
    · replace hs := (if_pos q9).symm.trans hs
      refine ev_iconst C (v := 0) dX8_isLetter_16 (by decide) ?_
      obtain ⟨hz, rfl, rfl⟩ := rtZ_at hs
      exact ev_zret C rfl hz rfl (Nat.le_refl _) (Nat.le_refl _) rfl dX8_isLetter_17
    · replace hs := (if_neg q9).symm.trans hs
      refine ev_iconst C (v := 1) dX8_isLetter_12 (by decide) ?_
      refine ev_goto C (tgt := 17) (by decide) dX8_isLetter_13 ?_
      obtain ⟨hz, rfl, rfl⟩ := rtZ_at hs
      exact ev_zret C rfl hz rfl (Nat.le_refl _) (Nat.le_refl _) rfl dX8_isLetter_17
end
-- X8_add
theorem dX8_add_0 : decode cX8_add 0 = .ok (.aload_n 0, 1) := by decide +kernel
theorem dX8_add_1 : decode cX8_add 1 = .ok (.getfield 22, 3) := by decide +kernel
theorem dX8_add_4 : decode cX8_add 4 = .ok (.sipush 400, 3) := by decide +kernel
theorem dX8_add_7 : decode cX8_add 7 = .ok (.if_icmp .gt 43, 3) := by decide +kernel
theorem dX8_add_10 : decode cX8_add 10 = .ok (.aload_n 0, 1) := by decide +kernel
theorem dX8_add_11 : decode cX8_add 11 = .ok (.getfield 9, 3) := by decide +kernel
theorem dX8_add_14 : decode cX8_add 14 = .ok (.aload_n 0, 1) := by decide +kernel
theorem dX8_add_15 : decode cX8_add 15 = .ok (.getfield 22, 3) := by decide +kernel
theorem dX8_add_18 : decode cX8_add 18 = .ok (.iload_n 1, 1) := by decide +kernel
theorem dX8_add_19 : decode cX8_add 19 = .ok (.iastore, 1) := by decide +kernel
theorem dX8_add_20 : decode cX8_add 20 = .ok (.aload_n 0, 1) := by decide +kernel
theorem dX8_add_21 : decode cX8_add 21 = .ok (.getfield 15, 3) := by decide +kernel
theorem dX8_add_24 : decode cX8_add 24 = .ok (.aload_n 0, 1) := by decide +kernel
theorem dX8_add_25 : decode cX8_add 25 = .ok (.getfield 22, 3) := by decide +kernel
theorem dX8_add_28 : decode cX8_add 28 = .ok (.iload_n 2, 1) := by decide +kernel
theorem dX8_add_29 : decode cX8_add 29 = .ok (.iastore, 1) := by decide +kernel
theorem dX8_add_30 : decode cX8_add 30 = .ok (.aload_n 0, 1) := by decide +kernel
theorem dX8_add_31 : decode cX8_add 31 = .ok (.getfield 18, 3) := by decide +kernel
theorem dX8_add_34 : decode cX8_add 34 = .ok (.aload_n 0, 1) := by decide +kernel
theorem dX8_add_35 : decode cX8_add 35 = .ok (.getfield 22, 3) := by decide +kernel
theorem dX8_add_38 : decode cX8_add 38 = .ok (.lload_n 3, 1) := by decide +kernel
theorem dX8_add_39 : decode cX8_add 39 = .ok (.lastore, 1) := by decide +kernel
theorem dX8_add_40 : decode cX8_add 40 = .ok (.aload_n 0, 1) := by decide +kernel
theorem dX8_add_41 : decode cX8_add 41 = .ok (.dup, 1) := by decide +kernel
theorem dX8_add_42 : decode cX8_add 42 = .ok (.getfield 22, 3) := by decide +kernel
theorem dX8_add_45 : decode cX8_add 45 = .ok (.iconst 1, 1) := by decide +kernel
theorem dX8_add_46 : decode cX8_add 46 = .ok (.iadd, 1) := by decide +kernel
theorem dX8_add_47 : decode cX8_add 47 = .ok (.putfield 22, 3) := by decide +kernel
theorem dX8_add_50 : decode cX8_add 50 = .ok (.return_, 1) := by decide +kernel
def s_X8_add (o : Nat) (a1 : Int32) (a2 : Int32) (a3 : Int64) (h : aH) : aO :=
  (gI h (.ref o) 8 0).bind fun x1 => if 400 < x1 then (some (.inl none, h)) else ((gO h (.ref o) 8 1).bind fun x11 => (gI h (.ref o) 8 0).bind fun x15 => (stI h (.ref x11) x15 a1).bind fun h19 => (gO h19 (.ref o) 8 2).bind fun x21 => (gI h19 (.ref o) 8 0).bind fun x25 => (stI h19 (.ref x21) x25 a2).bind fun h29 => (gO h29 (.ref o) 8 3).bind fun x31 => (gI h29 (.ref o) 8 0).bind fun x35 => (stJ h29 (.ref x31) x35 a3).bind fun h39 => (gI h39 (.ref o) 8 0).bind fun x42 => (pF h39 (.ref o) 8 0 (.int (x42 + 1))).bind fun h47 => some (.inl none, h47))
section
variable {p : Program} {l : Launch} {e : Env} {s : State} {m : MethodId} {args : Array Value} {below : List Frame} {meth : Method} {c : Code} {D : va_G} {B0 : Nat} {X : Nat → Nat} {ws0 : va_W} {r : aR} {h' : aH} {mc ms : Nat}
theorem hy_X8_add : yX8_add.cls ≠ "java/lang/invoke/MethodHandle" ∧ yX8_add.cls ≠ "java/lang/invoke/VarHandle" ∧ (parseMethodDescriptor yX8_add.desc).map (fun d => d.parameters.length) = some 3 := by decide +kernel
theorem T_X8_add (o : Nat) (a1 : Int32) (a2 : Int32) (a3 : Int64) (h : aH) (r : aR) (h' : aH) (hs : s_X8_add o a1 a2 a3 h = some (r, h')) : Mt yX8_add (Cond.code yX8_add cX8_add 5 none :: aTB) 0 0 0 0 [.ref o, .int a1, .int a2, .long a3] h r h' := by
  unfold s_X8_add at hs
  refine Mt_of (k := 0) (by decide) rfl (fun p l e s m args below meth c D B0 X ws0 C => ?_)
  show Ev p l e { frames := 0, cells := 0, slots := 0, locals := 0 } s m args below meth c D B0 X ws0 r h' 0 0 5 0 0 0 [some (.ref o), some (.int a1), some (.int a2), some (.long a3), none] [] h
  refine ev_aload_n C (x := .ref o) rfl trivial dX8_add_0 ?_
  obtain ⟨x1, e1, hs⟩ := aB hs
  refine ev_get C (ci := 8) (k := 0) rfl wu_8 (by decide) wf_X8_22 (gI_F e1) dX8_add_1 ?_
  refine ev_sipush C (v := 400) dX8_add_4 (by decide) ?_
  refine ev_icmp_gt C (tgt := 50) (by decide) dX8_add_7 (fun q7 => ?_) (fun q7 => ?_)
  · replace hs := (if_pos q7).symm.trans hs
    cases hs
    exact ev_vret C rfl rfl (Nat.le_refl _) (Nat.le_refl _) rfl dX8_add_50
  · replace hs := (if_neg q7).symm.trans hs
    refine ev_aload_n C (x := .ref o) rfl trivial dX8_add_10 ?_
    obtain ⟨x11, e11, hs⟩ := aB hs
    refine ev_get C (ci := 8) (k := 1) rfl wu_8 (by decide) wf_X8_9 (gO_F e11) dX8_add_11 ?_
    refine ev_aload_n C (x := .ref o) rfl trivial dX8_add_14 ?_
    obtain ⟨x15, e15, hs⟩ := aB hs
    refine ev_get C (ci := 8) (k := 0) rfl wu_8 (by decide) wf_X8_22 (gI_F e15) dX8_add_15 ?_
    refine ev_iload_n C rfl dX8_add_18 ?_
    obtain ⟨h19, e19, hs⟩ := aB hs
    refine ev_iast C e19 dX8_add_19 ?_
    refine ev_aload_n C (x := .ref o) rfl trivial dX8_add_20 ?_
    obtain ⟨x21, e21, hs⟩ := aB hs
    refine ev_get C (ci := 8) (k := 2) rfl wu_8 (by decide) wf_X8_15 (gO_F e21) dX8_add_21 ?_
    refine ev_aload_n C (x := .ref o) rfl trivial dX8_add_24 ?_
    obtain ⟨x25, e25, hs⟩ := aB hs
    refine ev_get C (ci := 8) (k := 0) rfl wu_8 (by decide) wf_X8_22 (gI_F e25) dX8_add_25 ?_
    refine ev_iload_n C rfl dX8_add_28 ?_
    obtain ⟨h29, e29, hs⟩ := aB hs
    refine ev_iast C e29 dX8_add_29 ?_
    refine ev_aload_n C (x := .ref o) rfl trivial dX8_add_30 ?_
    obtain ⟨x31, e31, hs⟩ := aB hs
    refine ev_get C (ci := 8) (k := 3) rfl wu_8 (by decide) wf_X8_18 (gO_F e31) dX8_add_31 ?_
    refine ev_aload_n C (x := .ref o) rfl trivial dX8_add_34 ?_
    obtain ⟨x35, e35, hs⟩ := aB hs
    refine ev_get C (ci := 8) (k := 0) rfl wu_8 (by decide) wf_X8_22 (gI_F e35) dX8_add_35 ?_
    refine ev_lload_n C rfl dX8_add_38 ?_
    obtain ⟨h39, e39, hs⟩ := aB hs
    refine ev_last C e39 dX8_add_39 ?_
    refine ev_aload_n C (x := .ref o) rfl trivial dX8_add_40 ?_
    refine ev_dup C rfl dX8_add_41 ?_
    obtain ⟨x42, e42, hs⟩ := aB hs
    refine ev_get C (ci := 8) (k := 0) rfl wu_8 (by decide) wf_X8_22 (gI_F e42) dX8_add_42 ?_
    refine ev_iconst C (v := 1) dX8_add_45 (by decide) ?_
    refine ev_iadd C dX8_add_46 ?_
    obtain ⟨h47, e47, hs⟩ := aB hs
    refine ev_put C (ci := 8) (k := 0) rfl wu_8 (by decide) tyX8 tyX8_ok nmX8 wf_X8_22 rfl trivial e47 dX8_add_47 ?_
    cases hs
    exact ev_vret C rfl rfl (Nat.le_refl _) (Nat.le_refl _) rfl dX8_add_50
end
-- X8_cutWord
theorem dX8_cutWord_0 : decode cX8_cutWord 0 = .ok (.iload_n 2, 1) := by decide +kernel
theorem dX8_cutWord_1 : decode cX8_cutWord 1 = .ok (.istore 4, 2) := by decide +kernel
theorem dX8_cutWord_3 : decode cX8_cutWord 3 = .ok (.lconst 0, 1) := by decide +kernel
theorem dX8_cutWord_4 : decode cX8_cutWord 4 = .ok (.lstore 5, 2) := by decide +kernel
theorem dX8_cutWord_6 : decode cX8_cutWord 6 = .ok (.iload 4, 2) := by decide +kernel
theorem dX8_cutWord_8 : decode cX8_cutWord 8 = .ok (.iload_n 3, 1) := by decide +kernel
theorem dX8_cutWord_9 : decode cX8_cutWord 9 = .ok (.if_icmp .ge 39, 3) := by decide +kernel
theorem dX8_cutWord_12 : decode cX8_cutWord 12 = .ok (.aload_n 1, 1) := by decide +kernel
theorem dX8_cutWord_13 : decode cX8_cutWord 13 = .ok (.iload 4, 2) := by decide +kernel
theorem dX8_cutWord_15 : decode cX8_cutWord 15 = .ok (.iaload, 1) := by decide +kernel
theorem dX8_cutWord_16 : decode cX8_cutWord 16 = .ok (.invokestatic 26, 3) := by decide +kernel
theorem dX8_cutWord_19 : decode cX8_cutWord 19 = .ok (.ifCond .eq 29, 3) := by decide +kernel
theorem dX8_cutWord_22 : decode cX8_cutWord 22 = .ok (.lload 5, 2) := by decide +kernel
theorem dX8_cutWord_24 : decode cX8_cutWord 24 = .ok (.ldc2_w 47, 3) := by decide +kernel
theorem dX8_cutWord_27 : decode cX8_cutWord 27 = .ok (.lmul, 1) := by decide +kernel
theorem dX8_cutWord_28 : decode cX8_cutWord 28 = .ok (.aload_n 1, 1) := by decide +kernel
theorem dX8_cutWord_29 : decode cX8_cutWord 29 = .ok (.iload 4, 2) := by decide +kernel
theorem dX8_cutWord_31 : decode cX8_cutWord 31 = .ok (.iaload, 1) := by decide +kernel
theorem dX8_cutWord_32 : decode cX8_cutWord 32 = .ok (.i2l, 1) := by decide +kernel
theorem dX8_cutWord_33 : decode cX8_cutWord 33 = .ok (.ladd, 1) := by decide +kernel
theorem dX8_cutWord_34 : decode cX8_cutWord 34 = .ok (.ldc2_w 49, 3) := by decide +kernel
theorem dX8_cutWord_37 : decode cX8_cutWord 37 = .ok (.lsub, 1) := by decide +kernel
theorem dX8_cutWord_38 : decode cX8_cutWord 38 = .ok (.lconst 1, 1) := by decide +kernel
theorem dX8_cutWord_39 : decode cX8_cutWord 39 = .ok (.ladd, 1) := by decide +kernel
theorem dX8_cutWord_40 : decode cX8_cutWord 40 = .ok (.lstore 5, 2) := by decide +kernel
theorem dX8_cutWord_42 : decode cX8_cutWord 42 = .ok (.iinc 4 1, 3) := by decide +kernel
theorem dX8_cutWord_45 : decode cX8_cutWord 45 = .ok (.goto (-39), 3) := by decide +kernel
theorem dX8_cutWord_48 : decode cX8_cutWord 48 = .ok (.aload_n 0, 1) := by decide +kernel
theorem dX8_cutWord_49 : decode cX8_cutWord 49 = .ok (.iload 4, 2) := by decide +kernel
theorem dX8_cutWord_51 : decode cX8_cutWord 51 = .ok (.iload_n 2, 1) := by decide +kernel
theorem dX8_cutWord_52 : decode cX8_cutWord 52 = .ok (.isub, 1) := by decide +kernel
theorem dX8_cutWord_53 : decode cX8_cutWord 53 = .ok (.bipush 8, 2) := by decide +kernel
theorem dX8_cutWord_55 : decode cX8_cutWord 55 = .ok (.if_icmp .gt 7, 3) := by decide +kernel
theorem dX8_cutWord_58 : decode cX8_cutWord 58 = .ok (.iconst 1, 1) := by decide +kernel
theorem dX8_cutWord_59 : decode cX8_cutWord 59 = .ok (.goto 4, 3) := by decide +kernel
theorem dX8_cutWord_62 : decode cX8_cutWord 62 = .ok (.iconst 3, 1) := by decide +kernel
theorem dX8_cutWord_63 : decode cX8_cutWord 63 = .ok (.iload_n 2, 1) := by decide +kernel
theorem dX8_cutWord_64 : decode cX8_cutWord 64 = .ok (.lload 5, 2) := by decide +kernel
theorem dX8_cutWord_66 : decode cX8_cutWord 66 = .ok (.invokevirtual 43, 3) := by decide +kernel
theorem dX8_cutWord_69 : decode cX8_cutWord 69 = .ok (.iload 4, 2) := by decide +kernel
theorem dX8_cutWord_71 : decode cX8_cutWord 71 = .ok (.ireturn, 1) := by decide +kernel
def s_X8_cutWord_63  (l2 : Int32) (l4 : Int32) (l5 : Int64) (s0 : Int32) (s1 : Nat) (h : aH) : aO :=
  kO h s1 8 (cN (s_X8_add s1 s0 l2 l5 h) fun h66 => some (.inl (some (.int l4)), h66))
def s_X8_cutWord_48  (l0 : Nat) (l2 : Int32) (l4 : Int32) (l5 : Int64) (h : aH) : aO :=
  if 8 < (l4 - l2) then (s_X8_cutWord_63 l2 l4 l5 3 l0 h) else (s_X8_cutWord_63 l2 l4 l5 1 l0 h)
def s_X8_cutWord_6_b  (k6 : Nat → Nat → Int32 → Int32 → Int32 → Int64 → aH → aO) (l0 : Nat) (l1 : Nat) (l2 : Int32) (l3 : Int32) (l4 : Int32) (l5 : Int64) (h : aH) : aO :=
  if l3 ≤ l4 then (s_X8_cutWord_48 l0 l2 l4 l5 h) else ((ldI .int h (.ref l1) l4).bind fun x15 => cI (s_X8_isLetter x15 h) fun x16 h16 => if x16 = 0 then (s_X8_cutWord_48 l0 l2 l4 l5 h16) else ((ldI .int h16 (.ref l1) l4).bind fun x31 => k6 l0 l1 l2 l3 (l4 + 1) ((((l5 * 27) + x31.toInt64) - 97) + 1) h16))
def s_X8_cutWord_6  (n : Nat) : Nat → Nat → Int32 → Int32 → Int32 → Int64 → aH → aO := lpF (fun _ _ _ _ _ _ _ => none) (s_X8_cutWord_6_b ) n
def s_X8_cutWord (o : Nat) (a1 : Nat) (a2 : Int32) (a3 : Int32) (h : aH) : aO :=
  s_X8_cutWord_6 FU o a1 a2 a3 a2 0 h
section
variable {p : Program} {l : Launch} {e : Env} {s : State} {m : MethodId} {args : Array Value} {below : List Frame} {meth : Method} {c : Code} {D : va_G} {B0 : Nat} {X : Nat → Nat} {ws0 : va_W} {r : aR} {h' : aH} {mc ms : Nat}
theorem t_X8_cutWord_63 (C : Cx p l s m args meth c B0 X RX8 "cutWord" cX8_cutWord 7 (some .int) [])   {l2 : Int32} {l4 : Int32} {l5 : Int64} {s0 : Int32} {s1 : Nat} {h : aH} (hs : s_X8_cutWord_63  l2 l4 l5 s0 s1 h = some (r, h')) : Ev p l e { frames := 1, cells := mc, slots := ms, locals := 24 } s m args below meth c D B0 X ws0 r h' mc ms 7 mc ms 63 [none, none, some (.int l2), none, some (.int l4), some (.long l5), none] [.int s0, .ref s1] h := by
  unfold s_X8_cutWord_63 at hs
  refine ev_iload_n C rfl dX8_cutWord_63 ?_
  refine ev_lload C rfl dX8_cutWord_64 ?_
  obtain ⟨eo66, hs⟩ := kO_at hs
  obtain ⟨h66, e66, hs⟩ := cN_at hs
  refine ev_callV C (T_X8_add _ _ _ _ _ _ _ e66) (ci := 8) rfl eo66 wc_X8_add wm_X8_43 wi_X8_add ws_X8_add wz_X8 hy_X8_add ⟨(Nat.le_of_ble_eq_true rfl), (Nat.le_of_ble_eq_true rfl)⟩ ⟨(Nat.le_refl _), (Nat.le_refl _)⟩ (Nat.le_of_ble_eq_true rfl) rfl dX8_cutWord_66 ?_
  refine ev_iload C rfl dX8_cutWord_69 ?_
  cases hs
  exact ev_iret C rfl rfl (Nat.le_refl _) (Nat.le_refl _) rfl dX8_cutWord_71
theorem t_X8_cutWord_48 (C : Cx p l s m args meth c B0 X RX8 "cutWord" cX8_cutWord 7 (some .int) [])   {l0 : Nat} {l2 : Int32} {l4 : Int32} {l5 : Int64} {h : aH} (hs : s_X8_cutWord_48  l0 l2 l4 l5 h = some (r, h')) : Ev p l e { frames := 1, cells := mc, slots := ms, locals := 24 } s m args below meth c D B0 X ws0 r h' mc ms 7 mc ms 48 [some (.ref l0), none, some (.int l2), none, some (.int l4), some (.long l5), none] [] h := by
  unfold s_X8_cutWord_48 at hs
  refine ev_aload_n C (x := .ref l0) rfl trivial dX8_cutWord_48 ?_
  refine ev_iload C rfl dX8_cutWord_49 ?_
  refine ev_iload_n C rfl dX8_cutWord_51 ?_
  refine ev_isub C dX8_cutWord_52 ?_
  refine ev_bipush C (v := 8) dX8_cutWord_53 (by decide) ?_
  refine ev_icmp_gt C (tgt := 62) (by decide) dX8_cutWord_55 (fun q55 => ?_) (fun q55 => ?_)
  · replace hs := (if_pos q55).symm.trans hs
    refine ev_iconst C (v := 3) dX8_cutWord_62 (by decide) ?_
    exact Ev.keep [false, true, true, true, true, true, true] (t_X8_cutWord_63 C  hs)
  · replace hs := (if_neg q55).symm.trans hs
    refine ev_iconst C (v := 1) dX8_cutWord_58 (by decide) ?_
    refine ev_goto C (tgt := 63) (by decide) dX8_cutWord_59 ?_
    exact Ev.keep [false, true, true, true, true, true, true] (t_X8_cutWord_63 C  hs)
theorem t_X8_cutWord_6_b (C : Cx p l s m args meth c B0 X RX8 "cutWord" cX8_cutWord 7 (some .int) [])   {k6 : Nat → Nat → Int32 → Int32 → Int32 → Int64 → aH → aO} (K6 : ∀ (l0 : Nat) (l1 : Nat) (l2 : Int32) (l3 : Int32) (l4 : Int32) (l5 : Int64) (h : aH), k6 l0 l1 l2 l3 l4 l5 h = some (r, h') → Ev p l e { frames := 1, cells := mc, slots := ms, locals := 24 } s m args below meth c D B0 X ws0 r h' mc ms 7 mc ms 6 [some (.ref l0), some (.ref l1), some (.int l2), some (.int l3), some (.int l4), some (.long l5), none] [] h) {l0 : Nat} {l1 : Nat} {l2 : Int32} {l3 : Int32} {l4 : Int32} {l5 : Int64} {h : aH} (hs : s_X8_cutWord_6_b  k6 l0 l1 l2 l3 l4 l5 h = some (r, h')) : Ev p l e { frames := 1, cells := mc, slots := ms, locals := 24 } s m args below meth c D B0 X ws0 r h' mc ms 7 mc ms 6 [some (.ref l0), some (.ref l1), some (.int l2), some (.int l3), some (.int l4), some (.long l5), none] [] h := by
  unfold s_X8_cutWord_6_b at hs
  refine ev_iload C rfl dX8_cutWord_6 ?_
  refine ev_iload_n C rfl dX8_cutWord_8 ?_
  refine ev_icmp_ge C (tgt := 48) (by decide) dX8_cutWord_9 (fun q9 => ?_) (fun q9 => ?_)
  · replace hs := (if_pos q9).symm.trans hs
    exact Ev.keep [true, false, true, false, true, true, true] (t_X8_cutWord_48 C  hs)
  · replace hs := (if_neg q9).symm.trans hs
    refine ev_aload_n C (x := .ref l1) rfl trivial dX8_cutWord_12 ?_
    refine ev_iload C rfl dX8_cutWord_13 ?_
    obtain ⟨x15, e15, hs⟩ := aB hs
    refine ev_iald C e15 dX8_cutWord_15 ?_
    obtain ⟨x16, h16, e16, hs⟩ := cI_at hs
    refine ev_callS C (T_X8_isLetter _ _ _ _ e16) wc_X8_isLetter wm_X8_26 wt_X8_isLetter wz_X8 hy_X8_isLetter ⟨(Nat.le_of_ble_eq_true rfl), (Nat.le_of_ble_eq_true rfl)⟩ ⟨(Nat.le_refl _), (Nat.le_refl _)⟩ (Nat.le_of_ble_eq_true rfl) rfl dX8_cutWord_16 ?_
    refine ev_if_eq C (tgt := 48) (by decide) dX8_cutWord_19 (fun q19 => ?_) (fun q19 => ?_)
    · replace hs := (if_pos q19).symm.trans hs
      exact Ev.keep [true, false, true, false, true, true, true] (t_X8_cutWord_48 C  hs)
    · replace hs := (if_neg q19).symm.trans hs
      refine ev_lload C rfl dX8_cutWord_22 ?_
      refine ev_ldc2 C wv_X8_47 dX8_cutWord_24 ?_
      refine ev_lmul C dX8_cutWord_27 ?_
      refine ev_aload_n C (x := .ref l1) rfl trivial dX8_cutWord_28 ?_
      refine ev_iload C rfl dX8_cutWord_29 ?_
      obtain ⟨x31, e31, hs⟩ := aB hs
      refine ev_iald C e31 dX8_cutWord_31 ?_
      refine ev_i2l C dX8_cutWord_32 ?_
      refine ev_ladd C dX8_cutWord_33 ?_
      refine ev_ldc2 C wv_X8_49 dX8_cutWord_34 ?_
      refine ev_lsub C dX8_cutWord_37 ?_
      refine ev_lconst C (v := 1) dX8_cutWord_38 (by decide) ?_
      refine ev_ladd C dX8_cutWord_39 ?_
      refine ev_lstore C (by decide) dX8_cutWord_40 ?_
      refine ev_iinc C (i := 4) (n := 1) (x := l4) (v := l4 + 1) rfl (congrArg (fun z => l4 + z) (show Int32.ofInt 1 = 1 by decide)) (by decide) dX8_cutWord_42 ?_
      refine ev_goto C (tgt := 6) (by decide) dX8_cutWord_45 ?_
      exact (K6 _ _ _ _ _ _ _ hs)
theorem t_X8_cutWord_6 (C : Cx p l s m args meth c B0 X RX8 "cutWord" cX8_cutWord 7 (some .int) [])   : ∀ (n : Nat) {l0 : Nat} {l1 : Nat} {l2 : Int32} {l3 : Int32} {l4 : Int32} {l5 : Int64} {h : aH} (hs : s_X8_cutWord_6  n l0 l1 l2 l3 l4 l5 h = some (r, h')), Ev p l e { frames := 1, cells := mc, slots := ms, locals := 24 } s m args below meth c D B0 X ws0 r h' mc ms 7 mc ms 6 [some (.ref l0), some (.ref l1), some (.int l2), some (.int l3), some (.int l4), some (.long l5), none] [] h
  | 0, _, _, _, _, _, _, _, hs => nomatch hs
  | n + 1, _, _, _, _, _, _, _, hs => t_X8_cutWord_6_b C  (k6 := s_X8_cutWord_6  n) (fun _ _ _ _ _ _ _ hs => t_X8_cutWord_6 C  n hs) hs
theorem hy_X8_cutWord : yX8_cutWord.cls ≠ "java/lang/invoke/MethodHandle" ∧ yX8_cutWord.cls ≠ "java/lang/invoke/VarHandle" ∧ (parseMethodDescriptor yX8_cutWord.desc).map (fun d => d.parameters.length) = some 3 := by decide +kernel
theorem T_X8_cutWord (o : Nat) (a1 : Nat) (a2 : Int32) (a3 : Int32) (h : aH) (r : aR) (h' : aH) (hs : s_X8_cutWord o a1 a2 a3 h = some (r, h')) : Mt yX8_cutWord (Cond.code yX8_cutWord cX8_cutWord 7 (some .int) :: aTB) 1 24 0 0 [.ref o, .ref a1, .int a2, .int a3] h r h' := by
  unfold s_X8_cutWord at hs
  refine Mt_of (k := 3) (by decide) rfl (fun p l e s m args below meth c D B0 X ws0 C => ?_)
  show Ev p l e { frames := 1, cells := 0, slots := 0, locals := 24 } s m args below meth c D B0 X ws0 r h' 0 0 7 0 0 0 [some (.ref o), some (.ref a1), some (.int a2), some (.int a3), none, none, none] [] h
  refine ev_iload_n C rfl dX8_cutWord_0 ?_
  refine ev_istore C (by decide) dX8_cutWord_1 ?_
  refine ev_lconst C (v := 0) dX8_cutWord_3 (by decide) ?_
  refine ev_lstore C (by decide) dX8_cutWord_4 ?_
  exact (t_X8_cutWord_6 C  FU hs)
end
-- X8_isDigit
theorem dX8_isDigit_0 : decode cX8_isDigit 0 = .ok (.iload_n 0, 1) := by decide +kernel
theorem dX8_isDigit_1 : decode cX8_isDigit 1 = .ok (.bipush 48, 2) := by decide +kernel
theorem dX8_isDigit_3 : decode cX8_isDigit 3 = .ok (.if_icmp .lt 13, 3) := by decide +kernel
theorem dX8_isDigit_6 : decode cX8_isDigit 6 = .ok (.iload_n 0, 1) := by decide +kernel
theorem dX8_isDigit_7 : decode cX8_isDigit 7 = .ok (.bipush 57, 2) := by decide +kernel
theorem dX8_isDigit_9 : decode cX8_isDigit 9 = .ok (.if_icmp .gt 7, 3) := by decide +kernel
theorem dX8_isDigit_12 : decode cX8_isDigit 12 = .ok (.iconst 1, 1) := by decide +kernel
theorem dX8_isDigit_13 : decode cX8_isDigit 13 = .ok (.goto 4, 3) := by decide +kernel
theorem dX8_isDigit_16 : decode cX8_isDigit 16 = .ok (.iconst 0, 1) := by decide +kernel
theorem dX8_isDigit_17 : decode cX8_isDigit 17 = .ok (.ireturn, 1) := by decide +kernel
def s_X8_isDigit (a1 : Int32) (h : aH) : aO :=
  if a1 < 48 then (rtZ 0 h) else (if 57 < a1 then (rtZ 0 h) else (rtZ 1 h))
section
variable {p : Program} {l : Launch} {e : Env} {s : State} {m : MethodId} {args : Array Value} {below : List Frame} {meth : Method} {c : Code} {D : va_G} {B0 : Nat} {X : Nat → Nat} {ws0 : va_W} {r : aR} {h' : aH} {mc ms : Nat}
theorem hy_X8_isDigit : yX8_isDigit.cls ≠ "java/lang/invoke/MethodHandle" ∧ yX8_isDigit.cls ≠ "java/lang/invoke/VarHandle" ∧ (parseMethodDescriptor yX8_isDigit.desc).map (fun d => d.parameters.length) = some 1 := by decide +kernel
theorem T_X8_isDigit (a1 : Int32) (h : aH) (r : aR) (h' : aH) (hs : s_X8_isDigit a1 h = some (r, h')) : Mt yX8_isDigit (Cond.code yX8_isDigit cX8_isDigit 1 (some .boolean) :: aTB) 0 0 0 0 [.int a1] h r h' := by
  unfold s_X8_isDigit at hs
  refine Mt_of (k := 0) (by decide) rfl (fun p l e s m args below meth c D B0 X ws0 C => ?_)
  show Ev p l e { frames := 0, cells := 0, slots := 0, locals := 0 } s m args below meth c D B0 X ws0 r h' 0 0 1 0 0 0 [some (.int a1)] [] h
  refine ev_iload_n C rfl dX8_isDigit_0 ?_
  refine ev_bipush C (v := 48) dX8_isDigit_1 (by decide) ?_
  refine ev_icmp_lt C (tgt := 16) (by decide) dX8_isDigit_3 (fun q3 => ?_) (fun q3 => ?_)
  · replace hs := (if_pos q3).symm.trans hs
    refine ev_iconst C (v := 0) dX8_isDigit_16 (by decide) ?_
    obtain ⟨hz, rfl, rfl⟩ := rtZ_at hs
    exact ev_zret C rfl hz rfl (Nat.le_refl _) (Nat.le_refl _) rfl dX8_isDigit_17
  · replace hs := (if_neg q3).symm.trans hs
    refine ev_iload_n C rfl dX8_isDigit_6 ?_
    refine ev_bipush C (v := 57) dX8_isDigit_7 (by decide) ?_
    refine ev_icmp_gt C (tgt := 16) (by decide) dX8_isDigit_9 (fun q9 => ?_) (fun q9 => ?_)
    · replace hs := (if_pos q9).symm.trans hs
      refine ev_iconst C (v := 0) dX8_isDigit_16 (by decide) ?_
      obtain ⟨hz, rfl, rfl⟩ := rtZ_at hs
      exact ev_zret C rfl hz rfl (Nat.le_refl _) (Nat.le_refl _) rfl dX8_isDigit_17
    · replace hs := (if_neg q9).symm.trans hs
      refine ev_iconst C (v := 1) dX8_isDigit_12 (by decide) ?_
      refine ev_goto C (tgt := 17) (by decide) dX8_isDigit_13 ?_
      obtain ⟨hz, rfl, rfl⟩ := rtZ_at hs
      exact ev_zret C rfl hz rfl (Nat.le_refl _) (Nat.le_refl _) rfl dX8_isDigit_17
end
-- X8_cutWhole
theorem dX8_cutWhole_0 : decode cX8_cutWhole 0 = .ok (.iload_n 2, 1) := by decide +kernel
theorem dX8_cutWhole_1 : decode cX8_cutWhole 1 = .ok (.istore 4, 2) := by decide +kernel
theorem dX8_cutWhole_3 : decode cX8_cutWhole 3 = .ok (.lconst 0, 1) := by decide +kernel
theorem dX8_cutWhole_4 : decode cX8_cutWhole 4 = .ok (.lstore 5, 2) := by decide +kernel
theorem dX8_cutWhole_6 : decode cX8_cutWhole 6 = .ok (.iload 4, 2) := by decide +kernel
theorem dX8_cutWhole_8 : decode cX8_cutWhole 8 = .ok (.iload_n 3, 1) := by decide +kernel
theorem dX8_cutWhole_9 : decode cX8_cutWhole 9 = .ok (.if_icmp .ge 37, 3) := by decide +kernel
theorem dX8_cutWhole_12 : decode cX8_cutWhole 12 = .ok (.aload_n 1, 1) := by decide +kernel
theorem dX8_cutWhole_13 : decode cX8_cutWhole 13 = .ok (.iload 4, 2) := by decide +kernel
theorem dX8_cutWhole_15 : decode cX8_cutWhole 15 = .ok (.iaload, 1) := by decide +kernel
theorem dX8_cutWhole_16 : decode cX8_cutWhole 16 = .ok (.invokestatic 34, 3) := by decide +kernel
theorem dX8_cutWhole_19 : decode cX8_cutWhole 19 = .ok (.ifCond .eq 27, 3) := by decide +kernel
theorem dX8_cutWhole_22 : decode cX8_cutWhole 22 = .ok (.lload 5, 2) := by decide +kernel
theorem dX8_cutWhole_24 : decode cX8_cutWhole 24 = .ok (.ldc2_w 51, 3) := by decide +kernel
theorem dX8_cutWhole_27 : decode cX8_cutWhole 27 = .ok (.lmul, 1) := by decide +kernel
theorem dX8_cutWhole_28 : decode cX8_cutWhole 28 = .ok (.aload_n 1, 1) := by decide +kernel
theorem dX8_cutWhole_29 : decode cX8_cutWhole 29 = .ok (.iload 4, 2) := by decide +kernel
theorem dX8_cutWhole_31 : decode cX8_cutWhole 31 = .ok (.iaload, 1) := by decide +kernel
theorem dX8_cutWhole_32 : decode cX8_cutWhole 32 = .ok (.i2l, 1) := by decide +kernel
theorem dX8_cutWhole_33 : decode cX8_cutWhole 33 = .ok (.ladd, 1) := by decide +kernel
theorem dX8_cutWhole_34 : decode cX8_cutWhole 34 = .ok (.ldc2_w 53, 3) := by decide +kernel
theorem dX8_cutWhole_37 : decode cX8_cutWhole 37 = .ok (.lsub, 1) := by decide +kernel
theorem dX8_cutWhole_38 : decode cX8_cutWhole 38 = .ok (.lstore 5, 2) := by decide +kernel
theorem dX8_cutWhole_40 : decode cX8_cutWhole 40 = .ok (.iinc 4 1, 3) := by decide +kernel
theorem dX8_cutWhole_43 : decode cX8_cutWhole 43 = .ok (.goto (-37), 3) := by decide +kernel
theorem dX8_cutWhole_46 : decode cX8_cutWhole 46 = .ok (.aload_n 0, 1) := by decide +kernel
theorem dX8_cutWhole_47 : decode cX8_cutWhole 47 = .ok (.iload 4, 2) := by decide +kernel
theorem dX8_cutWhole_49 : decode cX8_cutWhole 49 = .ok (.iload_n 2, 1) := by decide +kernel
theorem dX8_cutWhole_50 : decode cX8_cutWhole 50 = .ok (.isub, 1) := by decide +kernel
theorem dX8_cutWhole_51 : decode cX8_cutWhole 51 = .ok (.iconst 3, 1) := by decide +kernel
theorem dX8_cutWhole_52 : decode cX8_cutWhole 52 = .ok (.if_icmp .gt 7, 3) := by decide +kernel
theorem dX8_cutWhole_55 : decode cX8_cutWhole 55 = .ok (.iconst 2, 1) := by decide +kernel
theorem dX8_cutWhole_56 : decode cX8_cutWhole 56 = .ok (.goto 4, 3) := by decide +kernel
theorem dX8_cutWhole_59 : decode cX8_cutWhole 59 = .ok (.iconst 3, 1) := by decide +kernel
theorem dX8_cutWhole_60 : decode cX8_cutWhole 60 = .ok (.iload_n 2, 1) := by decide +kernel
theorem dX8_cutWhole_61 : decode cX8_cutWhole 61 = .ok (.lload 5, 2) := by decide +kernel
theorem dX8_cutWhole_63 : decode cX8_cutWhole 63 = .ok (.invokevirtual 43, 3) := by decide +kernel
theorem dX8_cutWhole_66 : decode cX8_cutWhole 66 = .ok (.iload 4, 2) := by decide +kernel
theorem dX8_cutWhole_68 : decode cX8_cutWhole 68 = .ok (.ireturn, 1) := by decide +kernel
def s_X8_cutWhole_60  (l2 : Int32) (l4 : Int32) (l5 : Int64) (s0 : Int32) (s1 : Nat) (h : aH) : aO :=
  kO h s1 8 (cN (s_X8_add s1 s0 l2 l5 h) fun h63 => some (.inl (some (.int l4)), h63))
def s_X8_cutWhole_46  (l0 : Nat) (l2 : Int32) (l4 : Int32) (l5 : Int64) (h : aH) : aO :=
  if 3 < (l4 - l2) then (s_X8_cutWhole_60 l2 l4 l5 3 l0 h) else (s_X8_cutWhole_60 l2 l4 l5 2 l0 h)
def s_X8_cutWhole_6_b  (k6 : Nat → Nat → Int32 → Int32 → Int32 → Int64 → aH → aO) (l0 : Nat) (l1 : Nat) (l2 : Int32) (l3 : Int32) (l4 : Int32) (l5 : Int64) (h : aH) : aO :=
  if l3 ≤ l4 then (s_X8_cutWhole_46 l0 l2 l4 l5 h) else ((ldI .int h (.ref l1) l4).bind fun x15 => cI (s_X8_isDigit x15 h) fun x16 h16 => if x16 = 0 then (s_X8_cutWhole_46 l0 l2 l4 l5 h16) else ((ldI .int h16 (.ref l1) l4).bind fun x31 => k6 l0 l1 l2 l3 (l4 + 1) (((l5 * 10) + x31.toInt64) - 48) h16))
def s_X8_cutWhole_6  (n : Nat) : Nat → Nat → Int32 → Int32 → Int32 → Int64 → aH → aO := lpF (fun _ _ _ _ _ _ _ => none) (s_X8_cutWhole_6_b ) n
def s_X8_cutWhole (o : Nat) (a1 : Nat) (a2 : Int32) (a3 : Int32) (h : aH) : aO :=
  s_X8_cutWhole_6 FU o a1 a2 a3 a2 0 h
section
variable {p : Program} {l : Launch} {e : Env} {s : State} {m : MethodId} {args : Array Value} {below : List Frame} {meth : Method} {c : Code} {D : va_G} {B0 : Nat} {X : Nat → Nat} {ws0 : va_W} {r : aR} {h' : aH} {mc ms : Nat}
theorem t_X8_cutWhole_60 (C : Cx p l s m args meth c B0 X RX8 "cutWhole" cX8_cutWhole 7 (some .int) [])   {l2 : Int32} {l4 : Int32} {l5 : Int64} {s0 : Int32} {s1 : Nat} {h : aH} (hs : s_X8_cutWhole_60  l2 l4 l5 s0 s1 h = some (r, h')) : Ev p l e { frames := 1, cells := mc, slots := ms, locals := 24 } s m args below meth c D B0 X ws0 r h' mc ms 7 mc ms 60 [none, none, some (.int l2), none, some (.int l4), some (.long l5), none] [.int s0, .ref s1] h := by
  unfold s_X8_cutWhole_60 at hs
  refine ev_iload_n C rfl dX8_cutWhole_60 ?_
  refine ev_lload C rfl dX8_cutWhole_61 ?_
  obtain ⟨eo63, hs⟩ := kO_at hs
  obtain ⟨h63, e63, hs⟩ := cN_at hs
  refine ev_callV C (T_X8_add _ _ _ _ _ _ _ e63) (ci := 8) rfl eo63 wc_X8_add wm_X8_43 wi_X8_add ws_X8_add wz_X8 hy_X8_add ⟨(Nat.le_of_ble_eq_true rfl), (Nat.le_of_ble_eq_true rfl)⟩ ⟨(Nat.le_refl _), (Nat.le_refl _)⟩ (Nat.le_of_ble_eq_true rfl) rfl dX8_cutWhole_63 ?_
  refine ev_iload C rfl dX8_cutWhole_66 ?_
  cases hs
  exact ev_iret C rfl rfl (Nat.le_refl _) (Nat.le_refl _) rfl dX8_cutWhole_68
theorem t_X8_cutWhole_46 (C : Cx p l s m args meth c B0 X RX8 "cutWhole" cX8_cutWhole 7 (some .int) [])   {l0 : Nat} {l2 : Int32} {l4 : Int32} {l5 : Int64} {h : aH} (hs : s_X8_cutWhole_46  l0 l2 l4 l5 h = some (r, h')) : Ev p l e { frames := 1, cells := mc, slots := ms, locals := 24 } s m args below meth c D B0 X ws0 r h' mc ms 7 mc ms 46 [some (.ref l0), none, some (.int l2), none, some (.int l4), some (.long l5), none] [] h := by
  unfold s_X8_cutWhole_46 at hs
  refine ev_aload_n C (x := .ref l0) rfl trivial dX8_cutWhole_46 ?_
  refine ev_iload C rfl dX8_cutWhole_47 ?_
  refine ev_iload_n C rfl dX8_cutWhole_49 ?_
  refine ev_isub C dX8_cutWhole_50 ?_
  refine ev_iconst C (v := 3) dX8_cutWhole_51 (by decide) ?_
  refine ev_icmp_gt C (tgt := 59) (by decide) dX8_cutWhole_52 (fun q52 => ?_) (fun q52 => ?_)
  · replace hs := (if_pos q52).symm.trans hs
    refine ev_iconst C (v := 3) dX8_cutWhole_59 (by decide) ?_
    exact Ev.keep [false, true, true, true, true, true, true] (t_X8_cutWhole_60 C  hs)
  · replace hs := (if_neg q52).symm.trans hs
    refine ev_iconst C (v := 2) dX8_cutWhole_55 (by decide) ?_
    refine ev_goto C (tgt := 60) (by decide) dX8_cutWhole_56 ?_
    exact Ev.keep [false, true, true, true, true, true, true] (t_X8_cutWhole_60 C  hs)
theorem t_X8_cutWhole_6_b (C : Cx p l s m args meth c B0 X RX8 "cutWhole" cX8_cutWhole 7 (some .int) [])   {k6 : Nat → Nat → Int32 → Int32 → Int32 → Int64 → aH → aO} (K6 : ∀ (l0 : Nat) (l1 : Nat) (l2 : Int32) (l3 : Int32) (l4 : Int32) (l5 : Int64) (h : aH), k6 l0 l1 l2 l3 l4 l5 h = some (r, h') → Ev p l e { frames := 1, cells := mc, slots := ms, locals := 24 } s m args below meth c D B0 X ws0 r h' mc ms 7 mc ms 6 [some (.ref l0), some (.ref l1), some (.int l2), some (.int l3), some (.int l4), some (.long l5), none] [] h) {l0 : Nat} {l1 : Nat} {l2 : Int32} {l3 : Int32} {l4 : Int32} {l5 : Int64} {h : aH} (hs : s_X8_cutWhole_6_b  k6 l0 l1 l2 l3 l4 l5 h = some (r, h')) : Ev p l e { frames := 1, cells := mc, slots := ms, locals := 24 } s m args below meth c D B0 X ws0 r h' mc ms 7 mc ms 6 [some (.ref l0), some (.ref l1), some (.int l2), some (.int l3), some (.int l4), some (.long l5), none] [] h := by
  unfold s_X8_cutWhole_6_b at hs
  refine ev_iload C rfl dX8_cutWhole_6 ?_
  refine ev_iload_n C rfl dX8_cutWhole_8 ?_
  refine ev_icmp_ge C (tgt := 46) (by decide) dX8_cutWhole_9 (fun q9 => ?_) (fun q9 => ?_)
  · replace hs := (if_pos q9).symm.trans hs
    exact Ev.keep [true, false, true, false, true, true, true] (t_X8_cutWhole_46 C  hs)
  · replace hs := (if_neg q9).symm.trans hs
    refine ev_aload_n C (x := .ref l1) rfl trivial dX8_cutWhole_12 ?_
    refine ev_iload C rfl dX8_cutWhole_13 ?_
    obtain ⟨x15, e15, hs⟩ := aB hs
    refine ev_iald C e15 dX8_cutWhole_15 ?_
    obtain ⟨x16, h16, e16, hs⟩ := cI_at hs
    refine ev_callS C (T_X8_isDigit _ _ _ _ e16) wc_X8_isDigit wm_X8_34 wt_X8_isDigit wz_X8 hy_X8_isDigit ⟨(Nat.le_of_ble_eq_true rfl), (Nat.le_of_ble_eq_true rfl)⟩ ⟨(Nat.le_refl _), (Nat.le_refl _)⟩ (Nat.le_of_ble_eq_true rfl) rfl dX8_cutWhole_16 ?_
    refine ev_if_eq C (tgt := 46) (by decide) dX8_cutWhole_19 (fun q19 => ?_) (fun q19 => ?_)
    · replace hs := (if_pos q19).symm.trans hs
      exact Ev.keep [true, false, true, false, true, true, true] (t_X8_cutWhole_46 C  hs)
    · replace hs := (if_neg q19).symm.trans hs
      refine ev_lload C rfl dX8_cutWhole_22 ?_
      refine ev_ldc2 C wv_X8_51 dX8_cutWhole_24 ?_
      refine ev_lmul C dX8_cutWhole_27 ?_
      refine ev_aload_n C (x := .ref l1) rfl trivial dX8_cutWhole_28 ?_
      refine ev_iload C rfl dX8_cutWhole_29 ?_
      obtain ⟨x31, e31, hs⟩ := aB hs
      refine ev_iald C e31 dX8_cutWhole_31 ?_
      refine ev_i2l C dX8_cutWhole_32 ?_
      refine ev_ladd C dX8_cutWhole_33 ?_
      refine ev_ldc2 C wv_X8_53 dX8_cutWhole_34 ?_
      refine ev_lsub C dX8_cutWhole_37 ?_
      refine ev_lstore C (by decide) dX8_cutWhole_38 ?_
      refine ev_iinc C (i := 4) (n := 1) (x := l4) (v := l4 + 1) rfl (congrArg (fun z => l4 + z) (show Int32.ofInt 1 = 1 by decide)) (by decide) dX8_cutWhole_40 ?_
      refine ev_goto C (tgt := 6) (by decide) dX8_cutWhole_43 ?_
      exact (K6 _ _ _ _ _ _ _ hs)
theorem t_X8_cutWhole_6 (C : Cx p l s m args meth c B0 X RX8 "cutWhole" cX8_cutWhole 7 (some .int) [])   : ∀ (n : Nat) {l0 : Nat} {l1 : Nat} {l2 : Int32} {l3 : Int32} {l4 : Int32} {l5 : Int64} {h : aH} (hs : s_X8_cutWhole_6  n l0 l1 l2 l3 l4 l5 h = some (r, h')), Ev p l e { frames := 1, cells := mc, slots := ms, locals := 24 } s m args below meth c D B0 X ws0 r h' mc ms 7 mc ms 6 [some (.ref l0), some (.ref l1), some (.int l2), some (.int l3), some (.int l4), some (.long l5), none] [] h
  | 0, _, _, _, _, _, _, _, hs => nomatch hs
  | n + 1, _, _, _, _, _, _, _, hs => t_X8_cutWhole_6_b C  (k6 := s_X8_cutWhole_6  n) (fun _ _ _ _ _ _ _ hs => t_X8_cutWhole_6 C  n hs) hs
theorem hy_X8_cutWhole : yX8_cutWhole.cls ≠ "java/lang/invoke/MethodHandle" ∧ yX8_cutWhole.cls ≠ "java/lang/invoke/VarHandle" ∧ (parseMethodDescriptor yX8_cutWhole.desc).map (fun d => d.parameters.length) = some 3 := by decide +kernel
theorem T_X8_cutWhole (o : Nat) (a1 : Nat) (a2 : Int32) (a3 : Int32) (h : aH) (r : aR) (h' : aH) (hs : s_X8_cutWhole o a1 a2 a3 h = some (r, h')) : Mt yX8_cutWhole (Cond.code yX8_cutWhole cX8_cutWhole 7 (some .int) :: aTB) 1 24 0 0 [.ref o, .ref a1, .int a2, .int a3] h r h' := by
  unfold s_X8_cutWhole at hs
  refine Mt_of (k := 3) (by decide) rfl (fun p l e s m args below meth c D B0 X ws0 C => ?_)
  show Ev p l e { frames := 1, cells := 0, slots := 0, locals := 24 } s m args below meth c D B0 X ws0 r h' 0 0 7 0 0 0 [some (.ref o), some (.ref a1), some (.int a2), some (.int a3), none, none, none] [] h
  refine ev_iload_n C rfl dX8_cutWhole_0 ?_
  refine ev_istore C (by decide) dX8_cutWhole_1 ?_
  refine ev_lconst C (v := 0) dX8_cutWhole_3 (by decide) ?_
  refine ev_lstore C (by decide) dX8_cutWhole_4 ?_
  exact (t_X8_cutWhole_6 C  FU hs)
end
-- X8_isSign
theorem dX8_isSign_0 : decode cX8_isSign 0 = .ok (.iload_n 0, 1) := by decide +kernel
theorem dX8_isSign_1 : decode cX8_isSign 1 = .ok (.bipush 60, 2) := by decide +kernel
theorem dX8_isSign_3 : decode cX8_isSign 3 = .ok (.if_icmp .eq 39, 3) := by decide +kernel
theorem dX8_isSign_6 : decode cX8_isSign 6 = .ok (.iload_n 0, 1) := by decide +kernel
theorem dX8_isSign_7 : decode cX8_isSign 7 = .ok (.bipush 62, 2) := by decide +kernel
theorem dX8_isSign_9 : decode cX8_isSign 9 = .ok (.if_icmp .eq 33, 3) := by decide +kernel
theorem dX8_isSign_12 : decode cX8_isSign 12 = .ok (.iload_n 0, 1) := by decide +kernel
theorem dX8_isSign_13 : decode cX8_isSign 13 = .ok (.bipush 61, 2) := by decide +kernel
theorem dX8_isSign_15 : decode cX8_isSign 15 = .ok (.if_icmp .eq 27, 3) := by decide +kernel
theorem dX8_isSign_18 : decode cX8_isSign 18 = .ok (.iload_n 0, 1) := by decide +kernel
theorem dX8_isSign_19 : decode cX8_isSign 19 = .ok (.bipush 43, 2) := by decide +kernel
theorem dX8_isSign_21 : decode cX8_isSign 21 = .ok (.if_icmp .eq 21, 3) := by decide +kernel
theorem dX8_isSign_24 : decode cX8_isSign 24 = .ok (.iload_n 0, 1) := by decide +kernel
theorem dX8_isSign_25 : decode cX8_isSign 25 = .ok (.bipush 45, 2) := by decide +kernel
theorem dX8_isSign_27 : decode cX8_isSign 27 = .ok (.if_icmp .eq 15, 3) := by decide +kernel
theorem dX8_isSign_30 : decode cX8_isSign 30 = .ok (.iload_n 0, 1) := by decide +kernel
theorem dX8_isSign_31 : decode cX8_isSign 31 = .ok (.bipush 42, 2) := by decide +kernel
theorem dX8_isSign_33 : decode cX8_isSign 33 = .ok (.if_icmp .eq 9, 3) := by decide +kernel
theorem dX8_isSign_36 : decode cX8_isSign 36 = .ok (.iload_n 0, 1) := by decide +kernel
theorem dX8_isSign_37 : decode cX8_isSign 37 = .ok (.bipush 59, 2) := by decide +kernel
theorem dX8_isSign_39 : decode cX8_isSign 39 = .ok (.if_icmp .ne 7, 3) := by decide +kernel
theorem dX8_isSign_42 : decode cX8_isSign 42 = .ok (.iconst 1, 1) := by decide +kernel
theorem dX8_isSign_43 : decode cX8_isSign 43 = .ok (.goto 4, 3) := by decide +kernel
theorem dX8_isSign_46 : decode cX8_isSign 46 = .ok (.iconst 0, 1) := by decide +kernel
theorem dX8_isSign_47 : decode cX8_isSign 47 = .ok (.ireturn, 1) := by decide +kernel
def s_X8_isSign (a1 : Int32) (h : aH) : aO :=
  if a1 = 60 then (rtZ 1 h) else (if a1 = 62 then (rtZ 1 h) else (if a1 = 61 then (rtZ 1 h) else (if a1 = 43 then (rtZ 1 h) else (if a1 = 45 then (rtZ 1 h) else (if a1 = 42 then (rtZ 1 h) else (if a1 = 59 then (rtZ 1 h) else (rtZ 0 h)))))))
section
variable {p : Program} {l : Launch} {e : Env} {s : State} {m : MethodId} {args : Array Value} {below : List Frame} {meth : Method} {c : Code} {D : va_G} {B0 : Nat} {X : Nat → Nat} {ws0 : va_W} {r : aR} {h' : aH} {mc ms : Nat}
theorem hy_X8_isSign : yX8_isSign.cls ≠ "java/lang/invoke/MethodHandle" ∧ yX8_isSign.cls ≠ "java/lang/invoke/VarHandle" ∧ (parseMethodDescriptor yX8_isSign.desc).map (fun d => d.parameters.length) = some 1 := by decide +kernel
theorem T_X8_isSign (a1 : Int32) (h : aH) (r : aR) (h' : aH) (hs : s_X8_isSign a1 h = some (r, h')) : Mt yX8_isSign (Cond.code yX8_isSign cX8_isSign 1 (some .boolean) :: aTB) 0 0 0 0 [.int a1] h r h' := by
  unfold s_X8_isSign at hs
  refine Mt_of (k := 0) (by decide) rfl (fun p l e s m args below meth c D B0 X ws0 C => ?_)
  show Ev p l e { frames := 0, cells := 0, slots := 0, locals := 0 } s m args below meth c D B0 X ws0 r h' 0 0 1 0 0 0 [some (.int a1)] [] h
  refine ev_iload_n C rfl dX8_isSign_0 ?_
  refine ev_bipush C (v := 60) dX8_isSign_1 (by decide) ?_
  refine ev_icmp_eq C (tgt := 42) (by decide) dX8_isSign_3 (fun q3 => ?_) (fun q3 => ?_)
  · replace hs := (if_pos q3).symm.trans hs
    refine ev_iconst C (v := 1) dX8_isSign_42 (by decide) ?_
    refine ev_goto C (tgt := 47) (by decide) dX8_isSign_43 ?_
    obtain ⟨hz, rfl, rfl⟩ := rtZ_at hs
    exact ev_zret C rfl hz rfl (Nat.le_refl _) (Nat.le_refl _) rfl dX8_isSign_47
  · replace hs := (if_neg q3).symm.trans hs
    refine ev_iload_n C rfl dX8_isSign_6 ?_
    refine ev_bipush C (v := 62) dX8_isSign_7 (by decide) ?_
    refine ev_icmp_eq C (tgt := 42) (by decide) dX8_isSign_9 (fun q9 => ?_) (fun q9 => ?_)
    · replace hs := (if_pos q9).symm.trans hs
      refine ev_iconst C (v := 1) dX8_isSign_42 (by decide) ?_
      refine ev_goto C (tgt := 47) (by decide) dX8_isSign_43 ?_
      obtain ⟨hz, rfl, rfl⟩ := rtZ_at hs
      exact ev_zret C rfl hz rfl (Nat.le_refl _) (Nat.le_refl _) rfl dX8_isSign_47
    · replace hs := (if_neg q9).symm.trans hs
      refine ev_iload_n C rfl dX8_isSign_12 ?_
      refine ev_bipush C (v := 61) dX8_isSign_13 (by decide) ?_
      refine ev_icmp_eq C (tgt := 42) (by decide) dX8_isSign_15 (fun q15 => ?_) (fun q15 => ?_)
      · replace hs := (if_pos q15).symm.trans hs
        refine ev_iconst C (v := 1) dX8_isSign_42 (by decide) ?_
        refine ev_goto C (tgt := 47) (by decide) dX8_isSign_43 ?_
        obtain ⟨hz, rfl, rfl⟩ := rtZ_at hs
        exact ev_zret C rfl hz rfl (Nat.le_refl _) (Nat.le_refl _) rfl dX8_isSign_47
      · replace hs := (if_neg q15).symm.trans hs
        refine ev_iload_n C rfl dX8_isSign_18 ?_
        refine ev_bipush C (v := 43) dX8_isSign_19 (by decide) ?_
        refine ev_icmp_eq C (tgt := 42) (by decide) dX8_isSign_21 (fun q21 => ?_) (fun q21 => ?_)
        · replace hs := (if_pos q21).symm.trans hs
          refine ev_iconst C (v := 1) dX8_isSign_42 (by decide) ?_
          refine ev_goto C (tgt := 47) (by decide) dX8_isSign_43 ?_
          obtain ⟨hz, rfl, rfl⟩ := rtZ_at hs
          exact ev_zret C rfl hz rfl (Nat.le_refl _) (Nat.le_refl _) rfl dX8_isSign_47
        · replace hs := (if_neg q21).symm.trans hs
          refine ev_iload_n C rfl dX8_isSign_24 ?_
          refine ev_bipush C (v := 45) dX8_isSign_25 (by decide) ?_
          refine ev_icmp_eq C (tgt := 42) (by decide) dX8_isSign_27 (fun q27 => ?_) (fun q27 => ?_)
          · replace hs := (if_pos q27).symm.trans hs
            refine ev_iconst C (v := 1) dX8_isSign_42 (by decide) ?_
            refine ev_goto C (tgt := 47) (by decide) dX8_isSign_43 ?_
            obtain ⟨hz, rfl, rfl⟩ := rtZ_at hs
            exact ev_zret C rfl hz rfl (Nat.le_refl _) (Nat.le_refl _) rfl dX8_isSign_47
          · replace hs := (if_neg q27).symm.trans hs
            refine ev_iload_n C rfl dX8_isSign_30 ?_
            refine ev_bipush C (v := 42) dX8_isSign_31 (by decide) ?_
            refine ev_icmp_eq C (tgt := 42) (by decide) dX8_isSign_33 (fun q33 => ?_) (fun q33 => ?_)
            · replace hs := (if_pos q33).symm.trans hs
              refine ev_iconst C (v := 1) dX8_isSign_42 (by decide) ?_
              refine ev_goto C (tgt := 47) (by decide) dX8_isSign_43 ?_
              obtain ⟨hz, rfl, rfl⟩ := rtZ_at hs
              exact ev_zret C rfl hz rfl (Nat.le_refl _) (Nat.le_refl _) rfl dX8_isSign_47
            · replace hs := (if_neg q33).symm.trans hs
              refine ev_iload_n C rfl dX8_isSign_36 ?_
              refine ev_bipush C (v := 59) dX8_isSign_37 (by decide) ?_
              refine ev_icmp_ne C (tgt := 46) (by decide) dX8_isSign_39 (fun q39 => ?_) (fun q39 => ?_)
              · replace hs := (if_neg q39).symm.trans hs
                refine ev_iconst C (v := 0) dX8_isSign_46 (by decide) ?_
                obtain ⟨hz, rfl, rfl⟩ := rtZ_at hs
                exact ev_zret C rfl hz rfl (Nat.le_refl _) (Nat.le_refl _) rfl dX8_isSign_47
              · replace hs := (if_pos q39).symm.trans hs
                refine ev_iconst C (v := 1) dX8_isSign_42 (by decide) ?_
                refine ev_goto C (tgt := 47) (by decide) dX8_isSign_43 ?_
                obtain ⟨hz, rfl, rfl⟩ := rtZ_at hs
                exact ev_zret C rfl hz rfl (Nat.le_refl _) (Nat.le_refl _) rfl dX8_isSign_47
end
-- X8_cut
theorem dX8_cut_0 : decode cX8_cut 0 = .ok (.aload_n 0, 1) := by decide +kernel
theorem dX8_cut_1 : decode cX8_cut 1 = .ok (.iconst 0, 1) := by decide +kernel
theorem dX8_cut_2 : decode cX8_cut 2 = .ok (.putfield 22, 3) := by decide +kernel
theorem dX8_cut_5 : decode cX8_cut 5 = .ok (.iconst 0, 1) := by decide +kernel
theorem dX8_cut_6 : decode cX8_cut 6 = .ok (.istore_n 3, 1) := by decide +kernel
theorem dX8_cut_7 : decode cX8_cut 7 = .ok (.iconst 0, 1) := by decide +kernel
theorem dX8_cut_8 : decode cX8_cut 8 = .ok (.istore 4, 2) := by decide +kernel
theorem dX8_cut_10 : decode cX8_cut 10 = .ok (.iload 4, 2) := by decide +kernel
theorem dX8_cut_12 : decode cX8_cut 12 = .ok (.iload_n 2, 1) := by decide +kernel
theorem dX8_cut_13 : decode cX8_cut 13 = .ok (.if_icmp .ge 93, 3) := by decide +kernel
theorem dX8_cut_16 : decode cX8_cut 16 = .ok (.iload_n 3, 1) := by decide +kernel
theorem dX8_cut_17 : decode cX8_cut 17 = .ok (.iload_n 2, 1) := by decide +kernel
theorem dX8_cut_18 : decode cX8_cut 18 = .ok (.if_icmp .ge 88, 3) := by decide +kernel
theorem dX8_cut_21 : decode cX8_cut 21 = .ok (.aload_n 1, 1) := by decide +kernel
theorem dX8_cut_22 : decode cX8_cut 22 = .ok (.iload_n 3, 1) := by decide +kernel
theorem dX8_cut_23 : decode cX8_cut 23 = .ok (.iaload, 1) := by decide +kernel
theorem dX8_cut_24 : decode cX8_cut 24 = .ok (.istore 5, 2) := by decide +kernel
theorem dX8_cut_26 : decode cX8_cut 26 = .ok (.iload 5, 2) := by decide +kernel
theorem dX8_cut_28 : decode cX8_cut 28 = .ok (.bipush 32, 2) := by decide +kernel
theorem dX8_cut_30 : decode cX8_cut 30 = .ok (.if_icmp .ne 9, 3) := by decide +kernel
theorem dX8_cut_33 : decode cX8_cut 33 = .ok (.iinc 3 1, 3) := by decide +kernel
theorem dX8_cut_36 : decode cX8_cut 36 = .ok (.goto 64, 3) := by decide +kernel
theorem dX8_cut_39 : decode cX8_cut 39 = .ok (.iload 5, 2) := by decide +kernel
theorem dX8_cut_41 : decode cX8_cut 41 = .ok (.invokestatic 26, 3) := by decide +kernel
theorem dX8_cut_44 : decode cX8_cut 44 = .ok (.ifCond .eq 14, 3) := by decide +kernel
theorem dX8_cut_47 : decode cX8_cut 47 = .ok (.aload_n 0, 1) := by decide +kernel
theorem dX8_cut_48 : decode cX8_cut 48 = .ok (.aload_n 1, 1) := by decide +kernel
theorem dX8_cut_49 : decode cX8_cut 49 = .ok (.iload_n 3, 1) := by decide +kernel
theorem dX8_cut_50 : decode cX8_cut 50 = .ok (.iload_n 2, 1) := by decide +kernel
theorem dX8_cut_51 : decode cX8_cut 51 = .ok (.invokevirtual 30, 3) := by decide +kernel
theorem dX8_cut_54 : decode cX8_cut 54 = .ok (.istore_n 3, 1) := by decide +kernel
theorem dX8_cut_55 : decode cX8_cut 55 = .ok (.goto 45, 3) := by decide +kernel
theorem dX8_cut_58 : decode cX8_cut 58 = .ok (.iload 5, 2) := by decide +kernel
theorem dX8_cut_60 : decode cX8_cut 60 = .ok (.invokestatic 34, 3) := by decide +kernel
theorem dX8_cut_63 : decode cX8_cut 63 = .ok (.ifCond .eq 14, 3) := by decide +kernel
theorem dX8_cut_66 : decode cX8_cut 66 = .ok (.aload_n 0, 1) := by decide +kernel
theorem dX8_cut_67 : decode cX8_cut 67 = .ok (.aload_n 1, 1) := by decide +kernel
theorem dX8_cut_68 : decode cX8_cut 68 = .ok (.iload_n 3, 1) := by decide +kernel
theorem dX8_cut_69 : decode cX8_cut 69 = .ok (.iload_n 2, 1) := by decide +kernel
theorem dX8_cut_70 : decode cX8_cut 70 = .ok (.invokevirtual 37, 3) := by decide +kernel
theorem dX8_cut_73 : decode cX8_cut 73 = .ok (.istore_n 3, 1) := by decide +kernel
theorem dX8_cut_74 : decode cX8_cut 74 = .ok (.goto 26, 3) := by decide +kernel
theorem dX8_cut_77 : decode cX8_cut 77 = .ok (.aload_n 0, 1) := by decide +kernel
theorem dX8_cut_78 : decode cX8_cut 78 = .ok (.iload 5, 2) := by decide +kernel
theorem dX8_cut_80 : decode cX8_cut 80 = .ok (.invokestatic 40, 3) := by decide +kernel
theorem dX8_cut_83 : decode cX8_cut 83 = .ok (.ifCond .eq 8, 3) := by decide +kernel
theorem dX8_cut_86 : decode cX8_cut 86 = .ok (.iload 5, 2) := by decide +kernel
theorem dX8_cut_88 : decode cX8_cut 88 = .ok (.goto 4, 3) := by decide +kernel
theorem dX8_cut_91 : decode cX8_cut 91 = .ok (.iconst 3, 1) := by decide +kernel
theorem dX8_cut_92 : decode cX8_cut 92 = .ok (.iload_n 3, 1) := by decide +kernel
theorem dX8_cut_93 : decode cX8_cut 93 = .ok (.lconst 0, 1) := by decide +kernel
theorem dX8_cut_94 : decode cX8_cut 94 = .ok (.invokevirtual 43, 3) := by decide +kernel
theorem dX8_cut_97 : decode cX8_cut 97 = .ok (.iinc 3 1, 3) := by decide +kernel
theorem dX8_cut_100 : decode cX8_cut 100 = .ok (.iinc 4 1, 3) := by decide +kernel
theorem dX8_cut_103 : decode cX8_cut 103 = .ok (.goto (-93), 3) := by decide +kernel
theorem dX8_cut_106 : decode cX8_cut 106 = .ok (.aload_n 0, 1) := by decide +kernel
theorem dX8_cut_107 : decode cX8_cut 107 = .ok (.iconst 0, 1) := by decide +kernel
theorem dX8_cut_108 : decode cX8_cut 108 = .ok (.iload_n 2, 1) := by decide +kernel
theorem dX8_cut_109 : decode cX8_cut 109 = .ok (.lconst 0, 1) := by decide +kernel
theorem dX8_cut_110 : decode cX8_cut 110 = .ok (.invokevirtual 43, 3) := by decide +kernel
theorem dX8_cut_113 : decode cX8_cut 113 = .ok (.return_, 1) := by decide +kernel
def s_X8_cut_106  (l0 : Nat) (l2 : Int32) (h : aH) : aO :=
  kO h l0 8 (cN (s_X8_add l0 0 l2 0 h) fun h110 => some (.inl none, h110))
def s_X8_cut_92 (k10 : Nat → Nat → Int32 → Int32 → Int32 → aH → aO) (l0 : Nat) (l1 : Nat) (l2 : Int32) (l3 : Int32) (l4 : Int32) (s0 : Int32) (s1 : Nat) (h : aH) : aO :=
  kO h s1 8 (cN (s_X8_add s1 s0 l3 0 h) fun h94 => k10 l0 l1 l2 (l3 + 1) (l4 + 1) h94)
def s_X8_cut_10_b  (k10 : Nat → Nat → Int32 → Int32 → Int32 → aH → aO) (l0 : Nat) (l1 : Nat) (l2 : Int32) (l3 : Int32) (l4 : Int32) (h : aH) : aO :=
  if l2 ≤ l4 then (s_X8_cut_106 l0 l2 h) else (if l2 ≤ l3 then (s_X8_cut_106 l0 l2 h) else ((ldI .int h (.ref l1) l3).bind fun x23 => if x23 = 32 then (k10 l0 l1 l2 (l3 + 1) (l4 + 1) h) else (cI (s_X8_isLetter x23 h) fun x41 h41 => if x41 = 0 then (cI (s_X8_isDigit x23 h41) fun x60 h60 => if x60 = 0 then (cI (s_X8_isSign x23 h60) fun x80 h80 => if x80 = 0 then (s_X8_cut_92 k10 l0 l1 l2 l3 l4 3 l0 h80) else (s_X8_cut_92 k10 l0 l1 l2 l3 l4 x23 l0 h80)) else (kO h60 l0 8 (cI (s_X8_cutWhole l0 l1 l3 l2 h60) fun x70 h70 => k10 l0 l1 l2 x70 (l4 + 1) h70))) else (kO h41 l0 8 (cI (s_X8_cutWord l0 l1 l3 l2 h41) fun x51 h51 => k10 l0 l1 l2 x51 (l4 + 1) h51)))))
def s_X8_cut_10  (n : Nat) : Nat → Nat → Int32 → Int32 → Int32 → aH → aO := lpF (fun _ _ _ _ _ _ => none) (s_X8_cut_10_b ) n
def s_X8_cut (o : Nat) (a1 : Nat) (a2 : Int32) (h : aH) : aO :=
  (pF h (.ref o) 8 0 (.int 0)).bind fun h2 => s_X8_cut_10 FU o a1 a2 0 0 h2
section
variable {p : Program} {l : Launch} {e : Env} {s : State} {m : MethodId} {args : Array Value} {below : List Frame} {meth : Method} {c : Code} {D : va_G} {B0 : Nat} {X : Nat → Nat} {ws0 : va_W} {r : aR} {h' : aH} {mc ms : Nat}
theorem t_X8_cut_106 (C : Cx p l s m args meth c B0 X RX8 "cut" cX8_cut 6 none [])   {l0 : Nat} {l2 : Int32} {h : aH} (hs : s_X8_cut_106  l0 l2 h = some (r, h')) : Ev p l e { frames := 2, cells := mc, slots := ms, locals := 50 } s m args below meth c D B0 X ws0 r h' mc ms 6 mc ms 106 [some (.ref l0), none, some (.int l2), none, none, none] [] h := by
  unfold s_X8_cut_106 at hs
  refine ev_aload_n C (x := .ref l0) rfl trivial dX8_cut_106 ?_
  refine ev_iconst C (v := 0) dX8_cut_107 (by decide) ?_
  refine ev_iload_n C rfl dX8_cut_108 ?_
  refine ev_lconst C (v := 0) dX8_cut_109 (by decide) ?_
  obtain ⟨eo110, hs⟩ := kO_at hs
  obtain ⟨h110, e110, hs⟩ := cN_at hs
  refine ev_callV C (T_X8_add _ _ _ _ _ _ _ e110) (ci := 8) rfl eo110 wc_X8_add wm_X8_43 wi_X8_add ws_X8_add wz_X8 hy_X8_add ⟨(Nat.le_of_ble_eq_true rfl), (Nat.le_of_ble_eq_true rfl)⟩ ⟨(Nat.le_refl _), (Nat.le_refl _)⟩ (Nat.le_of_ble_eq_true rfl) rfl dX8_cut_110 ?_
  cases hs
  exact ev_vret C rfl rfl (Nat.le_refl _) (Nat.le_refl _) rfl dX8_cut_113
theorem t_X8_cut_92 (C : Cx p l s m args meth c B0 X RX8 "cut" cX8_cut 6 none []) {k10 : Nat → Nat → Int32 → Int32 → Int32 → aH → aO} (K10 : ∀ (l0 : Nat) (l1 : Nat) (l2 : Int32) (l3 : Int32) (l4 : Int32) (h : aH), k10 l0 l1 l2 l3 l4 h = some (r, h') → Ev p l e { frames := 2, cells := mc, slots := ms, locals := 50 } s m args below meth c D B0 X ws0 r h' mc ms 6 mc ms 10 [some (.ref l0), some (.ref l1), some (.int l2), some (.int l3), some (.int l4), none] [] h) {l0 : Nat} {l1 : Nat} {l2 : Int32} {l3 : Int32} {l4 : Int32} {s0 : Int32} {s1 : Nat} {h : aH} (hs : s_X8_cut_92 k10 l0 l1 l2 l3 l4 s0 s1 h = some (r, h')) : Ev p l e { frames := 2, cells := mc, slots := ms, locals := 50 } s m args below meth c D B0 X ws0 r h' mc ms 6 mc ms 92 [some (.ref l0), some (.ref l1), some (.int l2), some (.int l3), some (.int l4), none] [.int s0, .ref s1] h := by
  unfold s_X8_cut_92 at hs
  refine ev_iload_n C rfl dX8_cut_92 ?_
  refine ev_lconst C (v := 0) dX8_cut_93 (by decide) ?_
  obtain ⟨eo94, hs⟩ := kO_at hs
  obtain ⟨h94, e94, hs⟩ := cN_at hs
  refine ev_callV C (T_X8_add _ _ _ _ _ _ _ e94) (ci := 8) rfl eo94 wc_X8_add wm_X8_43 wi_X8_add ws_X8_add wz_X8 hy_X8_add ⟨(Nat.le_of_ble_eq_true rfl), (Nat.le_of_ble_eq_true rfl)⟩ ⟨(Nat.le_refl _), (Nat.le_refl _)⟩ (Nat.le_of_ble_eq_true rfl) rfl dX8_cut_94 ?_
  refine ev_iinc C (i := 3) (n := 1) (x := l3) (v := l3 + 1) rfl (congrArg (fun z => l3 + z) (show Int32.ofInt 1 = 1 by decide)) (by decide) dX8_cut_97 ?_
  refine ev_iinc C (i := 4) (n := 1) (x := l4) (v := l4 + 1) rfl (congrArg (fun z => l4 + z) (show Int32.ofInt 1 = 1 by decide)) (by decide) dX8_cut_100 ?_
  refine ev_goto C (tgt := 10) (by decide) dX8_cut_103 ?_
  exact (K10 _ _ _ _ _ _ hs)
theorem t_X8_cut_10_b (C : Cx p l s m args meth c B0 X RX8 "cut" cX8_cut 6 none [])   {k10 : Nat → Nat → Int32 → Int32 → Int32 → aH → aO} (K10 : ∀ (l0 : Nat) (l1 : Nat) (l2 : Int32) (l3 : Int32) (l4 : Int32) (h : aH), k10 l0 l1 l2 l3 l4 h = some (r, h') → Ev p l e { frames := 2, cells := mc, slots := ms, locals := 50 } s m args below meth c D B0 X ws0 r h' mc ms 6 mc ms 10 [some (.ref l0), some (.ref l1), some (.int l2), some (.int l3), some (.int l4), none] [] h) {l0 : Nat} {l1 : Nat} {l2 : Int32} {l3 : Int32} {l4 : Int32} {h : aH} (hs : s_X8_cut_10_b  k10 l0 l1 l2 l3 l4 h = some (r, h')) : Ev p l e { frames := 2, cells := mc, slots := ms, locals := 50 } s m args below meth c D B0 X ws0 r h' mc ms 6 mc ms 10 [some (.ref l0), some (.ref l1), some (.int l2), some (.int l3), some (.int l4), none] [] h := by
  unfold s_X8_cut_10_b at hs
  refine ev_iload C rfl dX8_cut_10 ?_
  refine ev_iload_n C rfl dX8_cut_12 ?_
  refine ev_icmp_ge C (tgt := 106) (by decide) dX8_cut_13 (fun q13 => ?_) (fun q13 => ?_)
  · replace hs := (if_pos q13).symm.trans hs
    exact Ev.keep [true, false, true, false, false, true] (t_X8_cut_106 C  hs)
  · replace hs := (if_neg q13).symm.trans hs
    refine ev_iload_n C rfl dX8_cut_16 ?_
    refine ev_iload_n C rfl dX8_cut_17 ?_
    refine ev_icmp_ge C (tgt := 106) (by decide) dX8_cut_18 (fun q18 => ?_) (fun q18 => ?_)
    · replace hs := (if_pos q18).symm.trans hs
      exact Ev.keep [true, false, true, false, false, true] (t_X8_cut_106 C  hs)
    · replace hs := (if_neg q18).symm.trans hs
      refine ev_aload_n C (x := .ref l1) rfl trivial dX8_cut_21 ?_
      refine ev_iload_n C rfl dX8_cut_22 ?_
      obtain ⟨x23, e23, hs⟩ := aB hs
      refine ev_iald C e23 dX8_cut_23 ?_
      refine ev_istore C (by decide) dX8_cut_24 ?_
      refine ev_iload C rfl dX8_cut_26 ?_
      refine ev_bipush C (v := 32) dX8_cut_28 (by decide) ?_
      refine ev_icmp_ne C (tgt := 39) (by decide) dX8_cut_30 (fun q30 => ?_) (fun q30 => ?_)
      · replace hs := (if_neg q30).symm.trans hs
        refine ev_iload C rfl dX8_cut_39 ?_
        obtain ⟨x41, h41, e41, hs⟩ := cI_at hs
        refine ev_callS C (T_X8_isLetter _ _ _ _ e41) wc_X8_isLetter wm_X8_26 wt_X8_isLetter wz_X8 hy_X8_isLetter ⟨(Nat.le_of_ble_eq_true rfl), (Nat.le_of_ble_eq_true rfl)⟩ ⟨(Nat.le_refl _), (Nat.le_refl _)⟩ (Nat.le_of_ble_eq_true rfl) rfl dX8_cut_41 ?_
        refine ev_if_eq C (tgt := 58) (by decide) dX8_cut_44 (fun q44 => ?_) (fun q44 => ?_)
        · replace hs := (if_pos q44).symm.trans hs
          refine ev_iload C rfl dX8_cut_58 ?_
          obtain ⟨x60, h60, e60, hs⟩ := cI_at hs
          refine ev_callS C (T_X8_isDigit _ _ _ _ e60) wc_X8_isDigit wm_X8_34 wt_X8_isDigit wz_X8 hy_X8_isDigit ⟨(Nat.le_of_ble_eq_true rfl), (Nat.le_of_ble_eq_true rfl)⟩ ⟨(Nat.le_refl _), (Nat.le_refl _)⟩ (Nat.le_of_ble_eq_true rfl) rfl dX8_cut_60 ?_
          refine ev_if_eq C (tgt := 77) (by decide) dX8_cut_63 (fun q63 => ?_) (fun q63 => ?_)
          · replace hs := (if_pos q63).symm.trans hs
            refine ev_aload_n C (x := .ref l0) rfl trivial dX8_cut_77 ?_
            refine ev_iload C rfl dX8_cut_78 ?_
            obtain ⟨x80, h80, e80, hs⟩ := cI_at hs
            refine ev_callS C (T_X8_isSign _ _ _ _ e80) wc_X8_isSign wm_X8_40 wt_X8_isSign wz_X8 hy_X8_isSign ⟨(Nat.le_of_ble_eq_true rfl), (Nat.le_of_ble_eq_true rfl)⟩ ⟨(Nat.le_refl _), (Nat.le_refl _)⟩ (Nat.le_of_ble_eq_true rfl) rfl dX8_cut_80 ?_
            refine ev_if_eq C (tgt := 91) (by decide) dX8_cut_83 (fun q83 => ?_) (fun q83 => ?_)
            · replace hs := (if_pos q83).symm.trans hs
              refine ev_iconst C (v := 3) dX8_cut_91 (by decide) ?_
              exact Ev.keep [true, true, true, true, true, false] (t_X8_cut_92 C K10 hs)
            · replace hs := (if_neg q83).symm.trans hs
              refine ev_iload C rfl dX8_cut_86 ?_
              refine ev_goto C (tgt := 92) (by decide) dX8_cut_88 ?_
              exact Ev.keep [true, true, true, true, true, false] (t_X8_cut_92 C K10 hs)
          · replace hs := (if_neg q63).symm.trans hs
            refine ev_aload_n C (x := .ref l0) rfl trivial dX8_cut_66 ?_
            refine ev_aload_n C (x := .ref l1) rfl trivial dX8_cut_67 ?_
            refine ev_iload_n C rfl dX8_cut_68 ?_
            refine ev_iload_n C rfl dX8_cut_69 ?_
            obtain ⟨eo70, hs⟩ := kO_at hs
            obtain ⟨x70, h70, e70, hs⟩ := cI_at hs
            refine ev_callV C (T_X8_cutWhole _ _ _ _ _ _ _ e70) (ci := 8) rfl eo70 wc_X8_cutWhole wm_X8_37 wi_X8_cutWhole ws_X8_cutWhole wz_X8 hy_X8_cutWhole ⟨(Nat.le_of_ble_eq_true rfl), (Nat.le_of_ble_eq_true rfl)⟩ ⟨(Nat.le_refl _), (Nat.le_refl _)⟩ (Nat.le_of_ble_eq_true rfl) rfl dX8_cut_70 ?_
            refine ev_istore_n C (by decide) dX8_cut_73 ?_
            refine ev_goto C (tgt := 100) (by decide) dX8_cut_74 ?_
            refine ev_iinc C (i := 4) (n := 1) (x := l4) (v := l4 + 1) rfl (congrArg (fun z => l4 + z) (show Int32.ofInt 1 = 1 by decide)) (by decide) dX8_cut_100 ?_
            refine ev_goto C (tgt := 10) (by decide) dX8_cut_103 ?_
            exact Ev.keep [true, true, true, true, true, false] (K10 _ _ _ _ _ _ hs)
        · replace hs := (if_neg q44).symm.trans hs
          refine ev_aload_n C (x := .ref l0) rfl trivial dX8_cut_47 ?_
          refine ev_aload_n C (x := .ref l1) rfl trivial dX8_cut_48 ?_
          refine ev_iload_n C rfl dX8_cut_49 ?_
          refine ev_iload_n C rfl dX8_cut_50 ?_
          obtain ⟨eo51, hs⟩ := kO_at hs
          obtain ⟨x51, h51, e51, hs⟩ := cI_at hs
          refine ev_callV C (T_X8_cutWord _ _ _ _ _ _ _ e51) (ci := 8) rfl eo51 wc_X8_cutWord wm_X8_30 wi_X8_cutWord ws_X8_cutWord wz_X8 hy_X8_cutWord ⟨(Nat.le_of_ble_eq_true rfl), (Nat.le_of_ble_eq_true rfl)⟩ ⟨(Nat.le_refl _), (Nat.le_refl _)⟩ (Nat.le_of_ble_eq_true rfl) rfl dX8_cut_51 ?_
          refine ev_istore_n C (by decide) dX8_cut_54 ?_
          refine ev_goto C (tgt := 100) (by decide) dX8_cut_55 ?_
          refine ev_iinc C (i := 4) (n := 1) (x := l4) (v := l4 + 1) rfl (congrArg (fun z => l4 + z) (show Int32.ofInt 1 = 1 by decide)) (by decide) dX8_cut_100 ?_
          refine ev_goto C (tgt := 10) (by decide) dX8_cut_103 ?_
          exact Ev.keep [true, true, true, true, true, false] (K10 _ _ _ _ _ _ hs)
      · replace hs := (if_pos q30).symm.trans hs
        refine ev_iinc C (i := 3) (n := 1) (x := l3) (v := l3 + 1) rfl (congrArg (fun z => l3 + z) (show Int32.ofInt 1 = 1 by decide)) (by decide) dX8_cut_33 ?_
        refine ev_goto C (tgt := 100) (by decide) dX8_cut_36 ?_
        refine ev_iinc C (i := 4) (n := 1) (x := l4) (v := l4 + 1) rfl (congrArg (fun z => l4 + z) (show Int32.ofInt 1 = 1 by decide)) (by decide) dX8_cut_100 ?_
        refine ev_goto C (tgt := 10) (by decide) dX8_cut_103 ?_
        exact Ev.keep [true, true, true, true, true, false] (K10 _ _ _ _ _ _ hs)
theorem t_X8_cut_10 (C : Cx p l s m args meth c B0 X RX8 "cut" cX8_cut 6 none [])   : ∀ (n : Nat) {l0 : Nat} {l1 : Nat} {l2 : Int32} {l3 : Int32} {l4 : Int32} {h : aH} (hs : s_X8_cut_10  n l0 l1 l2 l3 l4 h = some (r, h')), Ev p l e { frames := 2, cells := mc, slots := ms, locals := 50 } s m args below meth c D B0 X ws0 r h' mc ms 6 mc ms 10 [some (.ref l0), some (.ref l1), some (.int l2), some (.int l3), some (.int l4), none] [] h
  | 0, _, _, _, _, _, _, hs => nomatch hs
  | n + 1, _, _, _, _, _, _, hs => t_X8_cut_10_b C  (k10 := s_X8_cut_10  n) (fun _ _ _ _ _ _ hs => t_X8_cut_10 C  n hs) hs
theorem hy_X8_cut : yX8_cut.cls ≠ "java/lang/invoke/MethodHandle" ∧ yX8_cut.cls ≠ "java/lang/invoke/VarHandle" ∧ (parseMethodDescriptor yX8_cut.desc).map (fun d => d.parameters.length) = some 2 := by decide +kernel
theorem T_X8_cut (o : Nat) (a1 : Nat) (a2 : Int32) (h : aH) (r : aR) (h' : aH) (hs : s_X8_cut o a1 a2 h = some (r, h')) : Mt yX8_cut (Cond.code yX8_cut cX8_cut 6 none :: aTB) 2 50 0 0 [.ref o, .ref a1, .int a2] h r h' := by
  unfold s_X8_cut at hs
  refine Mt_of (k := 3) (by decide) rfl (fun p l e s m args below meth c D B0 X ws0 C => ?_)
  show Ev p l e { frames := 2, cells := 0, slots := 0, locals := 50 } s m args below meth c D B0 X ws0 r h' 0 0 6 0 0 0 [some (.ref o), some (.ref a1), some (.int a2), none, none, none] [] h
  refine ev_aload_n C (x := .ref o) rfl trivial dX8_cut_0 ?_
  refine ev_iconst C (v := 0) dX8_cut_1 (by decide) ?_
  obtain ⟨h2, e2, hs⟩ := aB hs
  refine ev_put C (ci := 8) (k := 0) rfl wu_8 (by decide) tyX8 tyX8_ok nmX8 wf_X8_22 rfl trivial e2 dX8_cut_2 ?_
  refine ev_iconst C (v := 0) dX8_cut_5 (by decide) ?_
  refine ev_istore_n C (by decide) dX8_cut_6 ?_
  refine ev_iconst C (v := 0) dX8_cut_7 (by decide) ?_
  refine ev_istore C (by decide) dX8_cut_8 ?_
  exact (t_X8_cut_10 C  FU hs)
end
-- X6_begin
theorem dX6_begin_0 : decode cX6_begin 0 = .ok (.aload_n 0, 1) := by decide +kernel
theorem dX6_begin_1 : decode cX6_begin 1 = .ok (.getfield 12, 3) := by decide +kernel
theorem dX6_begin_4 : decode cX6_begin 4 = .ok (.aload_n 1, 1) := by decide +kernel
theorem dX6_begin_5 : decode cX6_begin 5 = .ok (.iload_n 2, 1) := by decide +kernel
theorem dX6_begin_6 : decode cX6_begin 6 = .ok (.invokevirtual 71, 3) := by decide +kernel
theorem dX6_begin_9 : decode cX6_begin 9 = .ok (.aload_n 0, 1) := by decide +kernel
theorem dX6_begin_10 : decode cX6_begin 10 = .ok (.iconst 0, 1) := by decide +kernel
theorem dX6_begin_11 : decode cX6_begin 11 = .ok (.putfield 75, 3) := by decide +kernel
theorem dX6_begin_14 : decode cX6_begin 14 = .ok (.aload_n 0, 1) := by decide +kernel
theorem dX6_begin_15 : decode cX6_begin 15 = .ok (.iconst 0, 1) := by decide +kernel
theorem dX6_begin_16 : decode cX6_begin 16 = .ok (.putfield 78, 3) := by decide +kernel
theorem dX6_begin_19 : decode cX6_begin 19 = .ok (.aload_n 0, 1) := by decide +kernel
theorem dX6_begin_20 : decode cX6_begin 20 = .ok (.iconst (-1), 1) := by decide +kernel
theorem dX6_begin_21 : decode cX6_begin 21 = .ok (.putfield 81, 3) := by decide +kernel
theorem dX6_begin_24 : decode cX6_begin 24 = .ok (.aload_n 0, 1) := by decide +kernel
theorem dX6_begin_25 : decode cX6_begin 25 = .ok (.aload_n 3, 1) := by decide +kernel
theorem dX6_begin_26 : decode cX6_begin 26 = .ok (.putfield 18, 3) := by decide +kernel
theorem dX6_begin_29 : decode cX6_begin 29 = .ok (.aload_n 0, 1) := by decide +kernel
theorem dX6_begin_30 : decode cX6_begin 30 = .ok (.aload 4, 2) := by decide +kernel
theorem dX6_begin_32 : decode cX6_begin 32 = .ok (.putfield 28, 3) := by decide +kernel
theorem dX6_begin_35 : decode cX6_begin 35 = .ok (.return_, 1) := by decide +kernel
def s_X6_begin (o : Nat) (a1 : Nat) (a2 : Int32) (a3 : Nat) (a4 : Nat) (h : aH) : aO :=
  (gO h (.ref o) 6 7).bind fun x1 => kO h x1 8 (cN (s_X8_cut x1 a1 a2 h) fun h6 => (pF h6 (.ref o) 6 2 (.int 0)).bind fun h11 => (pF h11 (.ref o) 6 0 (.int 0)).bind fun h16 => (pF h16 (.ref o) 6 1 (.int (-1))).bind fun h21 => (pF h21 (.ref o) 6 5 (.ref a3)).bind fun h26 => (pF h26 (.ref o) 6 6 (.ref a4)).bind fun h32 => some (.inl none, h32))
section
variable {p : Program} {l : Launch} {e : Env} {s : State} {m : MethodId} {args : Array Value} {below : List Frame} {meth : Method} {c : Code} {D : va_G} {B0 : Nat} {X : Nat → Nat} {ws0 : va_W} {r : aR} {h' : aH} {mc ms : Nat}
theorem hy_X6_begin : yX6_begin.cls ≠ "java/lang/invoke/MethodHandle" ∧ yX6_begin.cls ≠ "java/lang/invoke/VarHandle" ∧ (parseMethodDescriptor yX6_begin.desc).map (fun d => d.parameters.length) = some 4 := by decide +kernel
theorem T_X6_begin (o : Nat) (a1 : Nat) (a2 : Int32) (a3 : Nat) (a4 : Nat) (h : aH) (r : aR) (h' : aH) (hs : s_X6_begin o a1 a2 a3 a4 h = some (r, h')) : Mt yX6_begin (Cond.code yX6_begin cX6_begin 5 none :: aTB) 3 75 0 0 [.ref o, .ref a1, .int a2, .ref a3, .ref a4] h r h' := by
  unfold s_X6_begin at hs
  refine Mt_of (k := 0) (by decide) rfl (fun p l e s m args below meth c D B0 X ws0 C => ?_)
  show Ev p l e { frames := 3, cells := 0, slots := 0, locals := 75 } s m args below meth c D B0 X ws0 r h' 0 0 5 0 0 0 [some (.ref o), some (.ref a1), some (.int a2), some (.ref a3), some (.ref a4)] [] h
  refine ev_aload_n C (x := .ref o) rfl trivial dX6_begin_0 ?_
  obtain ⟨x1, e1, hs⟩ := aB hs
  refine ev_get C (ci := 6) (k := 7) rfl wu_6 (by decide) wf_X6_12 (gO_F e1) dX6_begin_1 ?_
  refine ev_aload_n C (x := .ref a1) rfl trivial dX6_begin_4 ?_
  refine ev_iload_n C rfl dX6_begin_5 ?_
  obtain ⟨eo6, hs⟩ := kO_at hs
  obtain ⟨h6, e6, hs⟩ := cN_at hs
  refine ev_callVN C (T_X8_cut _ _ _ _ _ _ e6) (ci := 8) rfl eo6 wc_X8_cut wn_X6_71 wi_X8_cut ws_X8_cut wz_X8 hy_X8_cut ⟨(Nat.le_of_ble_eq_true rfl), (Nat.le_of_ble_eq_true rfl)⟩ ⟨(Nat.le_refl _), (Nat.le_refl _)⟩ (Nat.le_of_ble_eq_true rfl) rfl dX6_begin_6 ?_
  refine ev_aload_n C (x := .ref o) rfl trivial dX6_begin_9 ?_
  refine ev_iconst C (v := 0) dX6_begin_10 (by decide) ?_
  obtain ⟨h11, e11, hs⟩ := aB hs
  refine ev_put C (ci := 6) (k := 2) rfl wu_6 (by decide) tyX6 tyX6_ok nmX6 wf_X6_75 rfl trivial e11 dX6_begin_11 ?_
  refine ev_aload_n C (x := .ref o) rfl trivial dX6_begin_14 ?_
  refine ev_iconst C (v := 0) dX6_begin_15 (by decide) ?_
  obtain ⟨h16, e16, hs⟩ := aB hs
  refine ev_put C (ci := 6) (k := 0) rfl wu_6 (by decide) tyX6 tyX6_ok nmX6 wf_X6_78 rfl trivial e16 dX6_begin_16 ?_
  refine ev_aload_n C (x := .ref o) rfl trivial dX6_begin_19 ?_
  refine ev_iconst C (v := (-1)) dX6_begin_20 (by decide) ?_
  obtain ⟨h21, e21, hs⟩ := aB hs
  refine ev_put C (ci := 6) (k := 1) rfl wu_6 (by decide) tyX6 tyX6_ok nmX6 wf_X6_81 rfl trivial e21 dX6_begin_21 ?_
  refine ev_aload_n C (x := .ref o) rfl trivial dX6_begin_24 ?_
  refine ev_aload_n C (x := .ref a3) rfl trivial dX6_begin_25 ?_
  obtain ⟨h26, e26, hs⟩ := aB hs
  refine ev_put C (ci := 6) (k := 5) rfl wu_6 (by decide) tyX6 tyX6_ok nmX6 wf_X6_18 rfl trivial e26 dX6_begin_26 ?_
  refine ev_aload_n C (x := .ref o) rfl trivial dX6_begin_29 ?_
  refine ev_aload C (x := .ref a4) rfl trivial dX6_begin_30 ?_
  obtain ⟨h32, e32, hs⟩ := aB hs
  refine ev_put C (ci := 6) (k := 6) rfl wu_6 (by decide) tyX6 tyX6_ok nmX6 wf_X6_28 rfl trivial e32 dX6_begin_32 ?_
  cases hs
  exact ev_vret C rfl rfl (Nat.le_refl _) (Nat.le_refl _) rfl dX6_begin_35
end
-- X6_kind
theorem dX6_kind_0 : decode cX6_kind 0 = .ok (.aload_n 0, 1) := by decide +kernel
theorem dX6_kind_1 : decode cX6_kind 1 = .ok (.getfield 75, 3) := by decide +kernel
theorem dX6_kind_4 : decode cX6_kind 4 = .ok (.aload_n 0, 1) := by decide +kernel
theorem dX6_kind_5 : decode cX6_kind 5 = .ok (.getfield 12, 3) := by decide +kernel
theorem dX6_kind_8 : decode cX6_kind 8 = .ok (.getfield 164, 3) := by decide +kernel
theorem dX6_kind_11 : decode cX6_kind 11 = .ok (.if_icmp .ge 18, 3) := by decide +kernel
theorem dX6_kind_14 : decode cX6_kind 14 = .ok (.aload_n 0, 1) := by decide +kernel
theorem dX6_kind_15 : decode cX6_kind 15 = .ok (.getfield 12, 3) := by decide +kernel
theorem dX6_kind_18 : decode cX6_kind 18 = .ok (.getfield 167, 3) := by decide +kernel
theorem dX6_kind_21 : decode cX6_kind 21 = .ok (.aload_n 0, 1) := by decide +kernel
theorem dX6_kind_22 : decode cX6_kind 22 = .ok (.getfield 75, 3) := by decide +kernel
theorem dX6_kind_25 : decode cX6_kind 25 = .ok (.iaload, 1) := by decide +kernel
theorem dX6_kind_26 : decode cX6_kind 26 = .ok (.goto 4, 3) := by decide +kernel
theorem dX6_kind_29 : decode cX6_kind 29 = .ok (.iconst 0, 1) := by decide +kernel
theorem dX6_kind_30 : decode cX6_kind 30 = .ok (.ireturn, 1) := by decide +kernel
def s_X6_kind (o : Nat) (h : aH) : aO :=
  (gI h (.ref o) 6 2).bind fun x1 => (gO h (.ref o) 6 7).bind fun x5 => (gI h (.ref x5) 8 0).bind fun x8 => if x8 ≤ x1 then (some (.inl (some (.int 0)), h)) else ((gO h (.ref o) 6 7).bind fun x15 => (gO h (.ref x15) 8 1).bind fun x18 => (gI h (.ref o) 6 2).bind fun x22 => (ldI .int h (.ref x18) x22).bind fun x25 => some (.inl (some (.int x25)), h))
section
variable {p : Program} {l : Launch} {e : Env} {s : State} {m : MethodId} {args : Array Value} {below : List Frame} {meth : Method} {c : Code} {D : va_G} {B0 : Nat} {X : Nat → Nat} {ws0 : va_W} {r : aR} {h' : aH} {mc ms : Nat}
theorem hy_X6_kind : yX6_kind.cls ≠ "java/lang/invoke/MethodHandle" ∧ yX6_kind.cls ≠ "java/lang/invoke/VarHandle" ∧ (parseMethodDescriptor yX6_kind.desc).map (fun d => d.parameters.length) = some 0 := by decide +kernel
theorem T_X6_kind (o : Nat) (h : aH) (r : aR) (h' : aH) (hs : s_X6_kind o h = some (r, h')) : Mt yX6_kind (Cond.code yX6_kind cX6_kind 1 (some .int) :: aTB) 0 0 0 0 [.ref o] h r h' := by
  unfold s_X6_kind at hs
  refine Mt_of (k := 0) (by decide) rfl (fun p l e s m args below meth c D B0 X ws0 C => ?_)
  show Ev p l e { frames := 0, cells := 0, slots := 0, locals := 0 } s m args below meth c D B0 X ws0 r h' 0 0 1 0 0 0 [some (.ref o)] [] h
  refine ev_aload_n C (x := .ref o) rfl trivial dX6_kind_0 ?_
  obtain ⟨x1, e1, hs⟩ := aB hs
  refine ev_get C (ci := 6) (k := 2) rfl wu_6 (by decide) wf_X6_75 (gI_F e1) dX6_kind_1 ?_
  refine ev_aload_n C (x := .ref o) rfl trivial dX6_kind_4 ?_
  obtain ⟨x5, e5, hs⟩ := aB hs
  refine ev_get C (ci := 6) (k := 7) rfl wu_6 (by decide) wf_X6_12 (gO_F e5) dX6_kind_5 ?_
  obtain ⟨x8, e8, hs⟩ := aB hs
  refine ev_getN C (ci := 8) (k := 0) rfl wu_8 (by decide) wg_X6_164 (gI_F e8) dX6_kind_8 ?_
  refine ev_icmp_ge C (tgt := 29) (by decide) dX6_kind_11 (fun q11 => ?_) (fun q11 => ?_)
  · replace hs := (if_pos q11).symm.trans hs
    refine ev_iconst C (v := 0) dX6_kind_29 (by decide) ?_
    cases hs
    exact ev_iret C rfl rfl (Nat.le_refl _) (Nat.le_refl _) rfl dX6_kind_30
  · replace hs := (if_neg q11).symm.trans hs
    refine ev_aload_n C (x := .ref o) rfl trivial dX6_kind_14 ?_
    obtain ⟨x15, e15, hs⟩ := aB hs
    refine ev_get C (ci := 6) (k := 7) rfl wu_6 (by decide) wf_X6_12 (gO_F e15) dX6_kind_15 ?_
    obtain ⟨x18, e18, hs⟩ := aB hs
    refine ev_getN C (ci := 8) (k := 1) rfl wu_8 (by decide) wg_X6_167 (gO_F e18) dX6_kind_18 ?_
    refine ev_aload_n C (x := .ref o) rfl trivial dX6_kind_21 ?_
    obtain ⟨x22, e22, hs⟩ := aB hs
    refine ev_get C (ci := 6) (k := 2) rfl wu_6 (by decide) wf_X6_75 (gI_F e22) dX6_kind_22 ?_
    obtain ⟨x25, e25, hs⟩ := aB hs
    refine ev_iald C e25 dX6_kind_25 ?_
    refine ev_goto C (tgt := 30) (by decide) dX6_kind_26 ?_
    cases hs
    exact ev_iret C rfl rfl (Nat.le_refl _) (Nat.le_refl _) rfl dX6_kind_30
end
-- X6_fail
theorem dX6_fail_0 : decode cX6_fail 0 = .ok (.aload_n 0, 1) := by decide +kernel
theorem dX6_fail_1 : decode cX6_fail 1 = .ok (.iload_n 1, 1) := by decide +kernel
theorem dX6_fail_2 : decode cX6_fail 2 = .ok (.putfield 78, 3) := by decide +kernel
theorem dX6_fail_5 : decode cX6_fail 5 = .ok (.aload_n 0, 1) := by decide +kernel
theorem dX6_fail_6 : decode cX6_fail 6 = .ok (.aload_n 0, 1) := by decide +kernel
theorem dX6_fail_7 : decode cX6_fail 7 = .ok (.getfield 75, 3) := by decide +kernel
theorem dX6_fail_10 : decode cX6_fail 10 = .ok (.aload_n 0, 1) := by decide +kernel
theorem dX6_fail_11 : decode cX6_fail 11 = .ok (.getfield 12, 3) := by decide +kernel
theorem dX6_fail_14 : decode cX6_fail 14 = .ok (.getfield 164, 3) := by decide +kernel
theorem dX6_fail_17 : decode cX6_fail 17 = .ok (.if_icmp .ge 18, 3) := by decide +kernel
theorem dX6_fail_20 : decode cX6_fail 20 = .ok (.aload_n 0, 1) := by decide +kernel
theorem dX6_fail_21 : decode cX6_fail 21 = .ok (.getfield 12, 3) := by decide +kernel
theorem dX6_fail_24 : decode cX6_fail 24 = .ok (.getfield 177, 3) := by decide +kernel
theorem dX6_fail_27 : decode cX6_fail 27 = .ok (.aload_n 0, 1) := by decide +kernel
theorem dX6_fail_28 : decode cX6_fail 28 = .ok (.getfield 75, 3) := by decide +kernel
theorem dX6_fail_31 : decode cX6_fail 31 = .ok (.iaload, 1) := by decide +kernel
theorem dX6_fail_32 : decode cX6_fail 32 = .ok (.goto 4, 3) := by decide +kernel
theorem dX6_fail_35 : decode cX6_fail 35 = .ok (.iconst (-1), 1) := by decide +kernel
theorem dX6_fail_36 : decode cX6_fail 36 = .ok (.putfield 81, 3) := by decide +kernel
theorem dX6_fail_39 : decode cX6_fail 39 = .ok (.iconst 0, 1) := by decide +kernel
theorem dX6_fail_40 : decode cX6_fail 40 = .ok (.ireturn, 1) := by decide +kernel
def s_X6_fail_36  (s0 : Int32) (s1 : Nat) (h : aH) : aO :=
  (pF h (.ref s1) 6 1 (.int s0)).bind fun h36 => rtZ 0 h36
def s_X6_fail (o : Nat) (a1 : Int32) (h : aH) : aO :=
  (pF h (.ref o) 6 0 (.int a1)).bind fun h2 => (gI h2 (.ref o) 6 2).bind fun x7 => (gO h2 (.ref o) 6 7).bind fun x11 => (gI h2 (.ref x11) 8 0).bind fun x14 => if x14 ≤ x7 then (s_X6_fail_36 (-1) o h2) else ((gO h2 (.ref o) 6 7).bind fun x21 => (gO h2 (.ref x21) 8 2).bind fun x24 => (gI h2 (.ref o) 6 2).bind fun x28 => (ldI .int h2 (.ref x24) x28).bind fun x31 => s_X6_fail_36 x31 o h2)
section
variable {p : Program} {l : Launch} {e : Env} {s : State} {m : MethodId} {args : Array Value} {below : List Frame} {meth : Method} {c : Code} {D : va_G} {B0 : Nat} {X : Nat → Nat} {ws0 : va_W} {r : aR} {h' : aH} {mc ms : Nat}
theorem t_X6_fail_36 (C : Cx p l s m args meth c B0 X RX6 "fail" cX6_fail 2 (some .boolean) [])   {s0 : Int32} {s1 : Nat} {h : aH} (hs : s_X6_fail_36  s0 s1 h = some (r, h')) : Ev p l e { frames := 0, cells := mc, slots := ms, locals := 0 } s m args below meth c D B0 X ws0 r h' mc ms 2 mc ms 36 [none, none] [.int s0, .ref s1] h := by
  unfold s_X6_fail_36 at hs
  obtain ⟨h36, e36, hs⟩ := aB hs
  refine ev_put C (ci := 6) (k := 1) rfl wu_6 (by decide) tyX6 tyX6_ok nmX6 wf_X6_81 rfl trivial e36 dX6_fail_36 ?_
  refine ev_iconst C (v := 0) dX6_fail_39 (by decide) ?_
  obtain ⟨hz, rfl, rfl⟩ := rtZ_at hs
  exact ev_zret C rfl hz rfl (Nat.le_refl _) (Nat.le_refl _) rfl dX6_fail_40
theorem hy_X6_fail : yX6_fail.cls ≠ "java/lang/invoke/MethodHandle" ∧ yX6_fail.cls ≠ "java/lang/invoke/VarHandle" ∧ (parseMethodDescriptor yX6_fail.desc).map (fun d => d.parameters.length) = some 1 := by decide +kernel
theorem T_X6_fail (o : Nat) (a1 : Int32) (h : aH) (r : aR) (h' : aH) (hs : s_X6_fail o a1 h = some (r, h')) : Mt yX6_fail (Cond.code yX6_fail cX6_fail 2 (some .boolean) :: aTB) 0 0 0 0 [.ref o, .int a1] h r h' := by
  unfold s_X6_fail at hs
  refine Mt_of (k := 0) (by decide) rfl (fun p l e s m args below meth c D B0 X ws0 C => ?_)
  show Ev p l e { frames := 0, cells := 0, slots := 0, locals := 0 } s m args below meth c D B0 X ws0 r h' 0 0 2 0 0 0 [some (.ref o), some (.int a1)] [] h
  refine ev_aload_n C (x := .ref o) rfl trivial dX6_fail_0 ?_
  refine ev_iload_n C rfl dX6_fail_1 ?_
  obtain ⟨h2, e2, hs⟩ := aB hs
  refine ev_put C (ci := 6) (k := 0) rfl wu_6 (by decide) tyX6 tyX6_ok nmX6 wf_X6_78 rfl trivial e2 dX6_fail_2 ?_
  refine ev_aload_n C (x := .ref o) rfl trivial dX6_fail_5 ?_
  refine ev_aload_n C (x := .ref o) rfl trivial dX6_fail_6 ?_
  obtain ⟨x7, e7, hs⟩ := aB hs
  refine ev_get C (ci := 6) (k := 2) rfl wu_6 (by decide) wf_X6_75 (gI_F e7) dX6_fail_7 ?_
  refine ev_aload_n C (x := .ref o) rfl trivial dX6_fail_10 ?_
  obtain ⟨x11, e11, hs⟩ := aB hs
  refine ev_get C (ci := 6) (k := 7) rfl wu_6 (by decide) wf_X6_12 (gO_F e11) dX6_fail_11 ?_
  obtain ⟨x14, e14, hs⟩ := aB hs
  refine ev_getN C (ci := 8) (k := 0) rfl wu_8 (by decide) wg_X6_164 (gI_F e14) dX6_fail_14 ?_
  refine ev_icmp_ge C (tgt := 35) (by decide) dX6_fail_17 (fun q17 => ?_) (fun q17 => ?_)
  · replace hs := (if_pos q17).symm.trans hs
    refine ev_iconst C (v := (-1)) dX6_fail_35 (by decide) ?_
    exact Ev.keep [false, false] (t_X6_fail_36 C  hs)
  · replace hs := (if_neg q17).symm.trans hs
    refine ev_aload_n C (x := .ref o) rfl trivial dX6_fail_20 ?_
    obtain ⟨x21, e21, hs⟩ := aB hs
    refine ev_get C (ci := 6) (k := 7) rfl wu_6 (by decide) wf_X6_12 (gO_F e21) dX6_fail_21 ?_
    obtain ⟨x24, e24, hs⟩ := aB hs
    refine ev_getN C (ci := 8) (k := 2) rfl wu_8 (by decide) wg_X6_177 (gO_F e24) dX6_fail_24 ?_
    refine ev_aload_n C (x := .ref o) rfl trivial dX6_fail_27 ?_
    obtain ⟨x28, e28, hs⟩ := aB hs
    refine ev_get C (ci := 6) (k := 2) rfl wu_6 (by decide) wf_X6_75 (gI_F e28) dX6_fail_28 ?_
    obtain ⟨x31, e31, hs⟩ := aB hs
    refine ev_iald C e31 dX6_fail_31 ?_
    refine ev_goto C (tgt := 36) (by decide) dX6_fail_32 ?_
    exact Ev.keep [false, false] (t_X6_fail_36 C  hs)
end
-- X6_reserved
theorem dX6_reserved_0 : decode cX6_reserved 0 = .ok (.aload_n 0, 1) := by decide +kernel
theorem dX6_reserved_1 : decode cX6_reserved 1 = .ok (.getfield 75, 3) := by decide +kernel
theorem dX6_reserved_4 : decode cX6_reserved 4 = .ok (.aload_n 0, 1) := by decide +kernel
theorem dX6_reserved_5 : decode cX6_reserved 5 = .ok (.getfield 12, 3) := by decide +kernel
theorem dX6_reserved_8 : decode cX6_reserved 8 = .ok (.getfield 164, 3) := by decide +kernel
theorem dX6_reserved_11 : decode cX6_reserved 11 = .ok (.if_icmp .ge 18, 3) := by decide +kernel
theorem dX6_reserved_14 : decode cX6_reserved 14 = .ok (.aload_n 0, 1) := by decide +kernel
theorem dX6_reserved_15 : decode cX6_reserved 15 = .ok (.getfield 12, 3) := by decide +kernel
theorem dX6_reserved_18 : decode cX6_reserved 18 = .ok (.getfield 170, 3) := by decide +kernel
theorem dX6_reserved_21 : decode cX6_reserved 21 = .ok (.aload_n 0, 1) := by decide +kernel
theorem dX6_reserved_22 : decode cX6_reserved 22 = .ok (.getfield 75, 3) := by decide +kernel
theorem dX6_reserved_25 : decode cX6_reserved 25 = .ok (.laload, 1) := by decide +kernel
theorem dX6_reserved_26 : decode cX6_reserved 26 = .ok (.goto 4, 3) := by decide +kernel
theorem dX6_reserved_29 : decode cX6_reserved 29 = .ok (.lconst 0, 1) := by decide +kernel
theorem dX6_reserved_30 : decode cX6_reserved 30 = .ok (.lstore_n 1, 1) := by decide +kernel
theorem dX6_reserved_31 : decode cX6_reserved 31 = .ok (.iconst 0, 1) := by decide +kernel
theorem dX6_reserved_32 : decode cX6_reserved 32 = .ok (.istore_n 3, 1) := by decide +kernel
theorem dX6_reserved_33 : decode cX6_reserved 33 = .ok (.iload_n 3, 1) := by decide +kernel
theorem dX6_reserved_34 : decode cX6_reserved 34 = .ok (.getstatic 174, 3) := by decide +kernel
theorem dX6_reserved_37 : decode cX6_reserved 37 = .ok (.arraylength, 1) := by decide +kernel
theorem dX6_reserved_38 : decode cX6_reserved 38 = .ok (.if_icmp .ge 21, 3) := by decide +kernel
theorem dX6_reserved_41 : decode cX6_reserved 41 = .ok (.getstatic 174, 3) := by decide +kernel
theorem dX6_reserved_44 : decode cX6_reserved 44 = .ok (.iload_n 3, 1) := by decide +kernel
theorem dX6_reserved_45 : decode cX6_reserved 45 = .ok (.laload, 1) := by decide +kernel
theorem dX6_reserved_46 : decode cX6_reserved 46 = .ok (.lload_n 1, 1) := by decide +kernel
theorem dX6_reserved_47 : decode cX6_reserved 47 = .ok (.lcmp, 1) := by decide +kernel
theorem dX6_reserved_48 : decode cX6_reserved 48 = .ok (.ifCond .ne 5, 3) := by decide +kernel
theorem dX6_reserved_51 : decode cX6_reserved 51 = .ok (.iload_n 3, 1) := by decide +kernel
theorem dX6_reserved_52 : decode cX6_reserved 52 = .ok (.ireturn, 1) := by decide +kernel
theorem dX6_reserved_53 : decode cX6_reserved 53 = .ok (.iinc 3 1, 3) := by decide +kernel
theorem dX6_reserved_56 : decode cX6_reserved 56 = .ok (.goto (-23), 3) := by decide +kernel
theorem dX6_reserved_59 : decode cX6_reserved 59 = .ok (.iconst (-1), 1) := by decide +kernel
theorem dX6_reserved_60 : decode cX6_reserved 60 = .ok (.ireturn, 1) := by decide +kernel
def s_X6_reserved_33_b  (k33 : Int64 → Int32 → aH → aO) (l1 : Int64) (l3 : Int32) (h : aH) : aO :=
  (lnA h (.ref (aE + 3))).bind fun x37 => if x37 ≤ l3 then (some (.inl (some (.int (-1))), h)) else ((ldJ h (.ref (aE + 3)) l3).bind fun x45 => if (lg_cmp x45 l1) = 0 then (some (.inl (some (.int l3)), h)) else (k33 l1 (l3 + 1) h))
def s_X6_reserved_33  (n : Nat) : Int64 → Int32 → aH → aO := lpF (fun _ _ _ => none) (s_X6_reserved_33_b ) n
def s_X6_reserved_30  (s0 : Int64) (h : aH) : aO :=
  s_X6_reserved_33 FU s0 0 h
def s_X6_reserved (o : Nat) (h : aH) : aO :=
  (gI h (.ref o) 6 2).bind fun x1 => (gO h (.ref o) 6 7).bind fun x5 => (gI h (.ref x5) 8 0).bind fun x8 => if x8 ≤ x1 then (s_X6_reserved_30 0 h) else ((gO h (.ref o) 6 7).bind fun x15 => (gO h (.ref x15) 8 3).bind fun x18 => (gI h (.ref o) 6 2).bind fun x22 => (ldJ h (.ref x18) x22).bind fun x25 => s_X6_reserved_30 x25 h)
section
variable {p : Program} {l : Launch} {e : Env} {s : State} {m : MethodId} {args : Array Value} {below : List Frame} {meth : Method} {c : Code} {D : va_G} {B0 : Nat} {X : Nat → Nat} {ws0 : va_W} {r : aR} {h' : aH} {mc ms : Nat}
theorem t_X6_reserved_33_b (C : Cx p l s m args meth c B0 X RX6 "reserved" cX6_reserved 4 (some .int) [])   {k33 : Int64 → Int32 → aH → aO} (K33 : ∀ (l1 : Int64) (l3 : Int32) (h : aH), k33 l1 l3 h = some (r, h') → Ev p l e { frames := 0, cells := mc, slots := ms, locals := 0 } s m args below meth c D B0 X ws0 r h' mc ms 4 mc ms 33 [none, some (.long l1), none, some (.int l3)] [] h) {l1 : Int64} {l3 : Int32} {h : aH} (hs : s_X6_reserved_33_b  k33 l1 l3 h = some (r, h')) : Ev p l e { frames := 0, cells := mc, slots := ms, locals := 0 } s m args below meth c D B0 X ws0 r h' mc ms 4 mc ms 33 [none, some (.long l1), none, some (.int l3)] [] h := by
  unfold s_X6_reserved_33_b at hs
  refine ev_iload_n C rfl dX6_reserved_33 ?_
  refine ev_getsRES C wf_X6_174 dX6_reserved_34 ?_
  obtain ⟨x37, e37, hs⟩ := aB hs
  refine ev_alen C e37 dX6_reserved_37 ?_
  refine ev_icmp_ge C (tgt := 59) (by decide) dX6_reserved_38 (fun q38 => ?_) (fun q38 => ?_)
  · replace hs := (if_pos q38).symm.trans hs
    refine ev_iconst C (v := (-1)) dX6_reserved_59 (by decide) ?_
    cases hs
    exact ev_iret C rfl rfl (Nat.le_refl _) (Nat.le_refl _) rfl dX6_reserved_60
  · replace hs := (if_neg q38).symm.trans hs
    refine ev_getsRES C wf_X6_174 dX6_reserved_41 ?_
    refine ev_iload_n C rfl dX6_reserved_44 ?_
    obtain ⟨x45, e45, hs⟩ := aB hs
    refine ev_lald C e45 dX6_reserved_45 ?_
    refine ev_lload_n C rfl dX6_reserved_46 ?_
    refine ev_lcmp C dX6_reserved_47 ?_
    refine ev_if_ne C (tgt := 53) (by decide) dX6_reserved_48 (fun q48 => ?_) (fun q48 => ?_)
    · replace hs := (if_neg q48).symm.trans hs
      refine ev_iinc C (i := 3) (n := 1) (x := l3) (v := l3 + 1) rfl (congrArg (fun z => l3 + z) (show Int32.ofInt 1 = 1 by decide)) (by decide) dX6_reserved_53 ?_
      refine ev_goto C (tgt := 33) (by decide) dX6_reserved_56 ?_
      exact (K33 _ _ _ hs)
    · replace hs := (if_pos q48).symm.trans hs
      refine ev_iload_n C rfl dX6_reserved_51 ?_
      cases hs
      exact ev_iret C rfl rfl (Nat.le_refl _) (Nat.le_refl _) rfl dX6_reserved_52
theorem t_X6_reserved_33 (C : Cx p l s m args meth c B0 X RX6 "reserved" cX6_reserved 4 (some .int) [])   : ∀ (n : Nat) {l1 : Int64} {l3 : Int32} {h : aH} (hs : s_X6_reserved_33  n l1 l3 h = some (r, h')), Ev p l e { frames := 0, cells := mc, slots := ms, locals := 0 } s m args below meth c D B0 X ws0 r h' mc ms 4 mc ms 33 [none, some (.long l1), none, some (.int l3)] [] h
  | 0, _, _, _, hs => nomatch hs
  | n + 1, _, _, _, hs => t_X6_reserved_33_b C  (k33 := s_X6_reserved_33  n) (fun _ _ _ hs => t_X6_reserved_33 C  n hs) hs
theorem t_X6_reserved_30 (C : Cx p l s m args meth c B0 X RX6 "reserved" cX6_reserved 4 (some .int) [])   {s0 : Int64} {h : aH} (hs : s_X6_reserved_30  s0 h = some (r, h')) : Ev p l e { frames := 0, cells := mc, slots := ms, locals := 0 } s m args below meth c D B0 X ws0 r h' mc ms 4 mc ms 30 [none, none, none, none] [.long s0] h := by
  unfold s_X6_reserved_30 at hs
  refine ev_lstore_n C (by decide) dX6_reserved_30 ?_
  refine ev_iconst C (v := 0) dX6_reserved_31 (by decide) ?_
  refine ev_istore_n C (by decide) dX6_reserved_32 ?_
  exact (t_X6_reserved_33 C  FU hs)
theorem hy_X6_reserved : yX6_reserved.cls ≠ "java/lang/invoke/MethodHandle" ∧ yX6_reserved.cls ≠ "java/lang/invoke/VarHandle" ∧ (parseMethodDescriptor yX6_reserved.desc).map (fun d => d.parameters.length) = some 0 := by decide +kernel
theorem T_X6_reserved (o : Nat) (h : aH) (r : aR) (h' : aH) (hs : s_X6_reserved o h = some (r, h')) : Mt yX6_reserved (Cond.code yX6_reserved cX6_reserved 4 (some .int) :: aTB) 0 0 0 0 [.ref o] h r h' := by
  unfold s_X6_reserved at hs
  refine Mt_of (k := 3) (by decide) rfl (fun p l e s m args below meth c D B0 X ws0 C => ?_)
  show Ev p l e { frames := 0, cells := 0, slots := 0, locals := 0 } s m args below meth c D B0 X ws0 r h' 0 0 4 0 0 0 [some (.ref o), none, none, none] [] h
  refine ev_aload_n C (x := .ref o) rfl trivial dX6_reserved_0 ?_
  obtain ⟨x1, e1, hs⟩ := aB hs
  refine ev_get C (ci := 6) (k := 2) rfl wu_6 (by decide) wf_X6_75 (gI_F e1) dX6_reserved_1 ?_
  refine ev_aload_n C (x := .ref o) rfl trivial dX6_reserved_4 ?_
  obtain ⟨x5, e5, hs⟩ := aB hs
  refine ev_get C (ci := 6) (k := 7) rfl wu_6 (by decide) wf_X6_12 (gO_F e5) dX6_reserved_5 ?_
  obtain ⟨x8, e8, hs⟩ := aB hs
  refine ev_getN C (ci := 8) (k := 0) rfl wu_8 (by decide) wg_X6_164 (gI_F e8) dX6_reserved_8 ?_
  refine ev_icmp_ge C (tgt := 29) (by decide) dX6_reserved_11 (fun q11 => ?_) (fun q11 => ?_)
  · replace hs := (if_pos q11).symm.trans hs
    refine ev_lconst C (v := 0) dX6_reserved_29 (by decide) ?_
    exact Ev.keep [false, true, true, true] (t_X6_reserved_30 C  hs)
  · replace hs := (if_neg q11).symm.trans hs
    refine ev_aload_n C (x := .ref o) rfl trivial dX6_reserved_14 ?_
    obtain ⟨x15, e15, hs⟩ := aB hs
    refine ev_get C (ci := 6) (k := 7) rfl wu_6 (by decide) wf_X6_12 (gO_F e15) dX6_reserved_15 ?_
    obtain ⟨x18, e18, hs⟩ := aB hs
    refine ev_getN C (ci := 8) (k := 3) rfl wu_8 (by decide) wg_X6_170 (gO_F e18) dX6_reserved_18 ?_
    refine ev_aload_n C (x := .ref o) rfl trivial dX6_reserved_21 ?_
    obtain ⟨x22, e22, hs⟩ := aB hs
    refine ev_get C (ci := 6) (k := 2) rfl wu_6 (by decide) wf_X6_75 (gI_F e22) dX6_reserved_22 ?_
    obtain ⟨x25, e25, hs⟩ := aB hs
    refine ev_lald C e25 dX6_reserved_25 ?_
    refine ev_goto C (tgt := 30) (by decide) dX6_reserved_26 ?_
    exact Ev.keep [false, true, true, true] (t_X6_reserved_30 C  hs)
end
-- X6_meaning
theorem dX6_meaning_0 : decode cX6_meaning 0 = .ok (.aload_n 0, 1) := by decide +kernel
theorem dX6_meaning_1 : decode cX6_meaning 1 = .ok (.getfield 75, 3) := by decide +kernel
theorem dX6_meaning_4 : decode cX6_meaning 4 = .ok (.aload_n 0, 1) := by decide +kernel
theorem dX6_meaning_5 : decode cX6_meaning 5 = .ok (.getfield 12, 3) := by decide +kernel
theorem dX6_meaning_8 : decode cX6_meaning 8 = .ok (.getfield 164, 3) := by decide +kernel
theorem dX6_meaning_11 : decode cX6_meaning 11 = .ok (.if_icmp .ge 18, 3) := by decide +kernel
theorem dX6_meaning_14 : decode cX6_meaning 14 = .ok (.aload_n 0, 1) := by decide +kernel
theorem dX6_meaning_15 : decode cX6_meaning 15 = .ok (.getfield 12, 3) := by decide +kernel
theorem dX6_meaning_18 : decode cX6_meaning 18 = .ok (.getfield 170, 3) := by decide +kernel
theorem dX6_meaning_21 : decode cX6_meaning 21 = .ok (.aload_n 0, 1) := by decide +kernel
theorem dX6_meaning_22 : decode cX6_meaning 22 = .ok (.getfield 75, 3) := by decide +kernel
theorem dX6_meaning_25 : decode cX6_meaning 25 = .ok (.laload, 1) := by decide +kernel
theorem dX6_meaning_26 : decode cX6_meaning 26 = .ok (.goto 4, 3) := by decide +kernel
theorem dX6_meaning_29 : decode cX6_meaning 29 = .ok (.lconst 0, 1) := by decide +kernel
theorem dX6_meaning_30 : decode cX6_meaning 30 = .ok (.lreturn, 1) := by decide +kernel
def s_X6_meaning (o : Nat) (h : aH) : aO :=
  (gI h (.ref o) 6 2).bind fun x1 => (gO h (.ref o) 6 7).bind fun x5 => (gI h (.ref x5) 8 0).bind fun x8 => if x8 ≤ x1 then (some (.inl (some (.long 0)), h)) else ((gO h (.ref o) 6 7).bind fun x15 => (gO h (.ref x15) 8 3).bind fun x18 => (gI h (.ref o) 6 2).bind fun x22 => (ldJ h (.ref x18) x22).bind fun x25 => some (.inl (some (.long x25)), h))
section
variable {p : Program} {l : Launch} {e : Env} {s : State} {m : MethodId} {args : Array Value} {below : List Frame} {meth : Method} {c : Code} {D : va_G} {B0 : Nat} {X : Nat → Nat} {ws0 : va_W} {r : aR} {h' : aH} {mc ms : Nat}
theorem hy_X6_meaning : yX6_meaning.cls ≠ "java/lang/invoke/MethodHandle" ∧ yX6_meaning.cls ≠ "java/lang/invoke/VarHandle" ∧ (parseMethodDescriptor yX6_meaning.desc).map (fun d => d.parameters.length) = some 0 := by decide +kernel
theorem T_X6_meaning (o : Nat) (h : aH) (r : aR) (h' : aH) (hs : s_X6_meaning o h = some (r, h')) : Mt yX6_meaning (Cond.code yX6_meaning cX6_meaning 1 (some .long) :: aTB) 0 0 0 0 [.ref o] h r h' := by
  unfold s_X6_meaning at hs
  refine Mt_of (k := 0) (by decide) rfl (fun p l e s m args below meth c D B0 X ws0 C => ?_)
  show Ev p l e { frames := 0, cells := 0, slots := 0, locals := 0 } s m args below meth c D B0 X ws0 r h' 0 0 1 0 0 0 [some (.ref o)] [] h
  refine ev_aload_n C (x := .ref o) rfl trivial dX6_meaning_0 ?_
  obtain ⟨x1, e1, hs⟩ := aB hs
  refine ev_get C (ci := 6) (k := 2) rfl wu_6 (by decide) wf_X6_75 (gI_F e1) dX6_meaning_1 ?_
  refine ev_aload_n C (x := .ref o) rfl trivial dX6_meaning_4 ?_
  obtain ⟨x5, e5, hs⟩ := aB hs
  refine ev_get C (ci := 6) (k := 7) rfl wu_6 (by decide) wf_X6_12 (gO_F e5) dX6_meaning_5 ?_
  obtain ⟨x8, e8, hs⟩ := aB hs
  refine ev_getN C (ci := 8) (k := 0) rfl wu_8 (by decide) wg_X6_164 (gI_F e8) dX6_meaning_8 ?_
  refine ev_icmp_ge C (tgt := 29) (by decide) dX6_meaning_11 (fun q11 => ?_) (fun q11 => ?_)
  · replace hs := (if_pos q11).symm.trans hs
    refine ev_lconst C (v := 0) dX6_meaning_29 (by decide) ?_
    cases hs
    exact ev_lret C rfl rfl (Nat.le_refl _) (Nat.le_refl _) rfl dX6_meaning_30
  · replace hs := (if_neg q11).symm.trans hs
    refine ev_aload_n C (x := .ref o) rfl trivial dX6_meaning_14 ?_
    obtain ⟨x15, e15, hs⟩ := aB hs
    refine ev_get C (ci := 6) (k := 7) rfl wu_6 (by decide) wf_X6_12 (gO_F e15) dX6_meaning_15 ?_
    obtain ⟨x18, e18, hs⟩ := aB hs
    refine ev_getN C (ci := 8) (k := 3) rfl wu_8 (by decide) wg_X6_170 (gO_F e18) dX6_meaning_18 ?_
    refine ev_aload_n C (x := .ref o) rfl trivial dX6_meaning_21 ?_
    obtain ⟨x22, e22, hs⟩ := aB hs
    refine ev_get C (ci := 6) (k := 2) rfl wu_6 (by decide) wf_X6_75 (gI_F e22) dX6_meaning_22 ?_
    obtain ⟨x25, e25, hs⟩ := aB hs
    refine ev_lald C e25 dX6_meaning_25 ?_
    refine ev_goto C (tgt := 30) (by decide) dX6_meaning_26 ?_
    cases hs
    exact ev_lret C rfl rfl (Nat.le_refl _) (Nat.le_refl _) rfl dX6_meaning_30
end
-- X6_newName
theorem dX6_newName_0 : decode cX6_newName 0 = .ok (.aload_n 0, 1) := by decide +kernel
theorem dX6_newName_1 : decode cX6_newName 1 = .ok (.invokevirtual 44, 3) := by decide +kernel
theorem dX6_newName_4 : decode cX6_newName 4 = .ok (.iconst 1, 1) := by decide +kernel
theorem dX6_newName_5 : decode cX6_newName 5 = .ok (.if_icmp .eq 9, 3) := by decide +kernel
theorem dX6_newName_8 : decode cX6_newName 8 = .ok (.aload_n 0, 1) := by decide +kernel
theorem dX6_newName_9 : decode cX6_newName 9 = .ok (.iconst 1, 1) := by decide +kernel
theorem dX6_newName_10 : decode cX6_newName 10 = .ok (.invokevirtual 51, 3) := by decide +kernel
theorem dX6_newName_13 : decode cX6_newName 13 = .ok (.ireturn, 1) := by decide +kernel
theorem dX6_newName_14 : decode cX6_newName 14 = .ok (.aload_n 0, 1) := by decide +kernel
theorem dX6_newName_15 : decode cX6_newName 15 = .ok (.invokevirtual 84, 3) := by decide +kernel
theorem dX6_newName_18 : decode cX6_newName 18 = .ok (.ifCond .ge 17, 3) := by decide +kernel
theorem dX6_newName_21 : decode cX6_newName 21 = .ok (.aload_n 0, 1) := by decide +kernel
theorem dX6_newName_22 : decode cX6_newName 22 = .ok (.getfield 18, 3) := by decide +kernel
theorem dX6_newName_25 : decode cX6_newName 25 = .ok (.aload_n 0, 1) := by decide +kernel
theorem dX6_newName_26 : decode cX6_newName 26 = .ok (.invokevirtual 93, 3) := by decide +kernel
theorem dX6_newName_29 : decode cX6_newName 29 = .ok (.invokevirtual 97, 3) := by decide +kernel
theorem dX6_newName_32 : decode cX6_newName 32 = .ok (.ifCond .lt 9, 3) := by decide +kernel
theorem dX6_newName_35 : decode cX6_newName 35 = .ok (.aload_n 0, 1) := by decide +kernel
theorem dX6_newName_36 : decode cX6_newName 36 = .ok (.iconst 3, 1) := by decide +kernel
theorem dX6_newName_37 : decode cX6_newName 37 = .ok (.invokevirtual 51, 3) := by decide +kernel
theorem dX6_newName_40 : decode cX6_newName 40 = .ok (.ireturn, 1) := by decide +kernel
theorem dX6_newName_41 : decode cX6_newName 41 = .ok (.aload_n 0, 1) := by decide +kernel
theorem dX6_newName_42 : decode cX6_newName 42 = .ok (.getfield 18, 3) := by decide +kernel
theorem dX6_newName_45 : decode cX6_newName 45 = .ok (.getfield 145, 3) := by decide +kernel
theorem dX6_newName_48 : decode cX6_newName 48 = .ok (.iload_n 1, 1) := by decide +kernel
theorem dX6_newName_49 : decode cX6_newName 49 = .ok (.iaload, 1) := by decide +kernel
theorem dX6_newName_50 : decode cX6_newName 50 = .ok (.getstatic 148, 3) := by decide +kernel
theorem dX6_newName_53 : decode cX6_newName 53 = .ok (.iload_n 1, 1) := by decide +kernel
theorem dX6_newName_54 : decode cX6_newName 54 = .ok (.iaload, 1) := by decide +kernel
theorem dX6_newName_55 : decode cX6_newName 55 = .ok (.if_icmp .lt 11, 3) := by decide +kernel
theorem dX6_newName_58 : decode cX6_newName 58 = .ok (.aload_n 0, 1) := by decide +kernel
theorem dX6_newName_59 : decode cX6_newName 59 = .ok (.iconst 5, 1) := by decide +kernel
theorem dX6_newName_60 : decode cX6_newName 60 = .ok (.invokevirtual 51, 3) := by decide +kernel
theorem dX6_newName_63 : decode cX6_newName 63 = .ok (.ifCond .eq 7, 3) := by decide +kernel
theorem dX6_newName_66 : decode cX6_newName 66 = .ok (.iconst 1, 1) := by decide +kernel
theorem dX6_newName_67 : decode cX6_newName 67 = .ok (.goto 4, 3) := by decide +kernel
theorem dX6_newName_70 : decode cX6_newName 70 = .ok (.iconst 0, 1) := by decide +kernel
theorem dX6_newName_71 : decode cX6_newName 71 = .ok (.ireturn, 1) := by decide +kernel
def s_X6_newName_35  (l0 : Nat) (h : aH) : aO :=
  kO h l0 6 (cI (s_X6_fail l0 3 h) fun x37 h37 => rtZ x37 h37)
def s_X6_newName (o : Nat) (a1 : Int32) (h : aH) : aO :=
  kO h o 6 (cI (s_X6_kind o h) fun x1 h1 => if x1 = 1 then (kO h1 o 6 (cI (s_X6_reserved o h1) fun x15 h15 => if 0 ≤ x15 then (s_X6_newName_35 o h15) else ((gO h15 (.ref o) 6 5).bind fun x22 => kO h15 o 6 (cJ (s_X6_meaning o h15) fun x26 h26 => kO h26 x22 2 (cI (s_X2_slotOf x22 x26 h26) fun x29 h29 => if x29 < 0 then ((gO h29 (.ref o) 6 5).bind fun x42 => (gO h29 (.ref x42) 2 0).bind fun x45 => (ldI .int h29 (.ref x45) a1).bind fun x49 => (ldI .int h29 (.ref (aE + 2)) a1).bind fun x54 => if x49 < x54 then (rtZ 1 h29) else (kO h29 o 6 (cI (s_X6_fail o 5 h29) fun x60 h60 => if x60 = 0 then (rtZ 0 h60) else (rtZ 1 h60)))) else (s_X6_newName_35 o h29)))))) else (kO h1 o 6 (cI (s_X6_fail o 1 h1) fun x10 h10 => rtZ x10 h10)))
section
variable {p : Program} {l : Launch} {e : Env} {s : State} {m : MethodId} {args : Array Value} {below : List Frame} {meth : Method} {c : Code} {D : va_G} {B0 : Nat} {X : Nat → Nat} {ws0 : va_W} {r : aR} {h' : aH} {mc ms : Nat}
theorem t_X6_newName_35 (C : Cx p l s m args meth c B0 X RX6 "newName" cX6_newName 2 (some .boolean) [])   {l0 : Nat} {h : aH} (hs : s_X6_newName_35  l0 h = some (r, h')) : Ev p l e { frames := 1, cells := mc, slots := ms, locals := 24 } s m args below meth c D B0 X ws0 r h' mc ms 2 mc ms 35 [some (.ref l0), none] [] h := by
  unfold s_X6_newName_35 at hs
  refine ev_aload_n C (x := .ref l0) rfl trivial dX6_newName_35 ?_
  refine ev_iconst C (v := 3) dX6_newName_36 (by decide) ?_
  obtain ⟨eo37, hs⟩ := kO_at hs
  obtain ⟨x37, h37, e37, hs⟩ := cI_at hs
  refine ev_callV C (T_X6_fail _ _ _ _ _ e37) (ci := 6) rfl eo37 wc_X6_fail wm_X6_51 wi_X6_fail ws_X6_fail wz_X6 hy_X6_fail ⟨(Nat.le_of_ble_eq_true rfl), (Nat.le_of_ble_eq_true rfl)⟩ ⟨(Nat.le_refl _), (Nat.le_refl _)⟩ (Nat.le_of_ble_eq_true rfl) rfl dX6_newName_37 ?_
  obtain ⟨hz, rfl, rfl⟩ := rtZ_at hs
  exact ev_zret C rfl hz rfl (Nat.le_refl _) (Nat.le_refl _) rfl dX6_newName_40
theorem hy_X6_newName : yX6_newName.cls ≠ "java/lang/invoke/MethodHandle" ∧ yX6_newName.cls ≠ "java/lang/invoke/VarHandle" ∧ (parseMethodDescriptor yX6_newName.desc).map (fun d => d.parameters.length) = some 1 := by decide +kernel
theorem T_X6_newName (o : Nat) (a1 : Int32) (h : aH) (r : aR) (h' : aH) (hs : s_X6_newName o a1 h = some (r, h')) : Mt yX6_newName (Cond.code yX6_newName cX6_newName 2 (some .boolean) :: aTB) 1 24 0 0 [.ref o, .int a1] h r h' := by
  unfold s_X6_newName at hs
  refine Mt_of (k := 0) (by decide) rfl (fun p l e s m args below meth c D B0 X ws0 C => ?_)
  show Ev p l e { frames := 1, cells := 0, slots := 0, locals := 24 } s m args below meth c D B0 X ws0 r h' 0 0 2 0 0 0 [some (.ref o), some (.int a1)] [] h
  refine ev_aload_n C (x := .ref o) rfl trivial dX6_newName_0 ?_
  obtain ⟨eo1, hs⟩ := kO_at hs
  obtain ⟨x1, h1, e1, hs⟩ := cI_at hs
  refine ev_callV C (T_X6_kind _ _ _ _ e1) (ci := 6) rfl eo1 wc_X6_kind wm_X6_44 wi_X6_kind ws_X6_kind wz_X6 hy_X6_kind ⟨(Nat.le_of_ble_eq_true rfl), (Nat.le_of_ble_eq_true rfl)⟩ ⟨(Nat.le_refl _), (Nat.le_refl _)⟩ (Nat.le_of_ble_eq_true rfl) rfl dX6_newName_1 ?_
  refine ev_iconst C (v := 1) dX6_newName_4 (by decide) ?_
  refine ev_icmp_eq C (tgt := 14) (by decide) dX6_newName_5 (fun q5 => ?_) (fun q5 => ?_)
  · replace hs := (if_pos q5).symm.trans hs
    refine ev_aload_n C (x := .ref o) rfl trivial dX6_newName_14 ?_
    obtain ⟨eo15, hs⟩ := kO_at hs
    obtain ⟨x15, h15, e15, hs⟩ := cI_at hs
    refine ev_callV C (T_X6_reserved _ _ _ _ e15) (ci := 6) rfl eo15 wc_X6_reserved wm_X6_84 wi_X6_reserved ws_X6_reserved wz_X6 hy_X6_reserved ⟨(Nat.le_of_ble_eq_true rfl), (Nat.le_of_ble_eq_true rfl)⟩ ⟨(Nat.le_refl _), (Nat.le_refl _)⟩ (Nat.le_of_ble_eq_true rfl) rfl dX6_newName_15 ?_
    refine ev_if_ge C (tgt := 35) (by decide) dX6_newName_18 (fun q18 => ?_) (fun q18 => ?_)
    · replace hs := (if_pos q18).symm.trans hs
      exact Ev.keep [true, false] (t_X6_newName_35 C  hs)
    · replace hs := (if_neg q18).symm.trans hs
      refine ev_aload_n C (x := .ref o) rfl trivial dX6_newName_21 ?_
      obtain ⟨x22, e22, hs⟩ := aB hs
      refine ev_get C (ci := 6) (k := 5) rfl wu_6 (by decide) wf_X6_18 (gO_F e22) dX6_newName_22 ?_
      refine ev_aload_n C (x := .ref o) rfl trivial dX6_newName_25 ?_
      obtain ⟨eo26, hs⟩ := kO_at hs
      obtain ⟨x26, h26, e26, hs⟩ := cJ_at hs
      refine ev_callV C (T_X6_meaning _ _ _ _ e26) (ci := 6) rfl eo26 wc_X6_meaning wm_X6_93 wi_X6_meaning ws_X6_meaning wz_X6 hy_X6_meaning ⟨(Nat.le_of_ble_eq_true rfl), (Nat.le_of_ble_eq_true rfl)⟩ ⟨(Nat.le_refl _), (Nat.le_refl _)⟩ (Nat.le_of_ble_eq_true rfl) rfl dX6_newName_26 ?_
      obtain ⟨eo29, hs⟩ := kO_at hs
      obtain ⟨x29, h29, e29, hs⟩ := cI_at hs
      refine ev_callVN C (T_X2_slotOf _ _ _ _ _ e29) (ci := 2) rfl eo29 wc_X2_slotOf wn_X6_97 wi_X2_slotOf ws_X2_slotOf wz_X2 hy_X2_slotOf ⟨(Nat.le_of_ble_eq_true rfl), (Nat.le_of_ble_eq_true rfl)⟩ ⟨(Nat.le_refl _), (Nat.le_refl _)⟩ (Nat.le_of_ble_eq_true rfl) rfl dX6_newName_29 ?_
      refine ev_if_lt C (tgt := 41) (by decide) dX6_newName_32 (fun q32 => ?_) (fun q32 => ?_)
      · replace hs := (if_pos q32).symm.trans hs
        refine ev_aload_n C (x := .ref o) rfl trivial dX6_newName_41 ?_
        obtain ⟨x42, e42, hs⟩ := aB hs
        refine ev_get C (ci := 6) (k := 5) rfl wu_6 (by decide) wf_X6_18 (gO_F e42) dX6_newName_42 ?_
        obtain ⟨x45, e45, hs⟩ := aB hs
        refine ev_getN C (ci := 2) (k := 0) rfl wu_2 (by decide) wg_X6_145 (gO_F e45) dX6_newName_45 ?_
        refine ev_iload_n C rfl dX6_newName_48 ?_
        obtain ⟨x49, e49, hs⟩ := aB hs
        refine ev_iald C e49 dX6_newName_49 ?_
        refine ev_getsMOSTN C wg_X6_148 dX6_newName_50 ?_
        refine ev_iload_n C rfl dX6_newName_53 ?_
        obtain ⟨x54, e54, hs⟩ := aB hs
        refine ev_iald C e54 dX6_newName_54 ?_
        refine ev_icmp_lt C (tgt := 66) (by decide) dX6_newName_55 (fun q55 => ?_) (fun q55 => ?_)
        · replace hs := (if_pos q55).symm.trans hs
          refine ev_iconst C (v := 1) dX6_newName_66 (by decide) ?_
          refine ev_goto C (tgt := 71) (by decide) dX6_newName_67 ?_
          obtain ⟨hz, rfl, rfl⟩ := rtZ_at hs
          exact ev_zret C rfl hz rfl (Nat.le_refl _) (Nat.le_refl _) rfl dX6_newName_71
        · replace hs := (if_neg q55).symm.trans hs
          refine ev_aload_n C (x := .ref o) rfl trivial dX6_newName_58 ?_
          refine ev_iconst C (v := 5) dX6_newName_59 (by decide) ?_
          obtain ⟨eo60, hs⟩ := kO_at hs
          obtain ⟨x60, h60, e60, hs⟩ := cI_at hs
          refine ev_callV C (T_X6_fail _ _ _ _ _ e60) (ci := 6) rfl eo60 wc_X6_fail wm_X6_51 wi_X6_fail ws_X6_fail wz_X6 hy_X6_fail ⟨(Nat.le_of_ble_eq_true rfl), (Nat.le_of_ble_eq_true rfl)⟩ ⟨(Nat.le_refl _), (Nat.le_refl _)⟩ (Nat.le_of_ble_eq_true rfl) rfl dX6_newName_60 ?_
          refine ev_if_eq C (tgt := 70) (by decide) dX6_newName_63 (fun q63 => ?_) (fun q63 => ?_)
          · replace hs := (if_pos q63).symm.trans hs
            refine ev_iconst C (v := 0) dX6_newName_70 (by decide) ?_
            obtain ⟨hz, rfl, rfl⟩ := rtZ_at hs
            exact ev_zret C rfl hz rfl (Nat.le_refl _) (Nat.le_refl _) rfl dX6_newName_71
          · replace hs := (if_neg q63).symm.trans hs
            refine ev_iconst C (v := 1) dX6_newName_66 (by decide) ?_
            refine ev_goto C (tgt := 71) (by decide) dX6_newName_67 ?_
            obtain ⟨hz, rfl, rfl⟩ := rtZ_at hs
            exact ev_zret C rfl hz rfl (Nat.le_refl _) (Nat.le_refl _) rfl dX6_newName_71
      · replace hs := (if_neg q32).symm.trans hs
        exact Ev.keep [true, false] (t_X6_newName_35 C  hs)
  · replace hs := (if_neg q5).symm.trans hs
    refine ev_aload_n C (x := .ref o) rfl trivial dX6_newName_8 ?_
    refine ev_iconst C (v := 1) dX6_newName_9 (by decide) ?_
    obtain ⟨eo10, hs⟩ := kO_at hs
    obtain ⟨x10, h10, e10, hs⟩ := cI_at hs
    refine ev_callV C (T_X6_fail _ _ _ _ _ e10) (ci := 6) rfl eo10 wc_X6_fail wm_X6_51 wi_X6_fail ws_X6_fail wz_X6 hy_X6_fail ⟨(Nat.le_of_ble_eq_true rfl), (Nat.le_of_ble_eq_true rfl)⟩ ⟨(Nat.le_refl _), (Nat.le_refl _)⟩ (Nat.le_of_ble_eq_true rfl) rfl dX6_newName_10 ?_
    obtain ⟨hz, rfl, rfl⟩ := rtZ_at hs
    exact ev_zret C rfl hz rfl (Nat.le_refl _) (Nat.le_refl _) rfl dX6_newName_13
end
-- X6_pass
theorem dX6_pass_0 : decode cX6_pass 0 = .ok (.aload_n 0, 1) := by decide +kernel
theorem dX6_pass_1 : decode cX6_pass 1 = .ok (.invokevirtual 44, 3) := by decide +kernel
theorem dX6_pass_4 : decode cX6_pass 4 = .ok (.iload_n 1, 1) := by decide +kernel
theorem dX6_pass_5 : decode cX6_pass 5 = .ok (.if_icmp .eq 9, 3) := by decide +kernel
theorem dX6_pass_8 : decode cX6_pass 8 = .ok (.aload_n 0, 1) := by decide +kernel
theorem dX6_pass_9 : decode cX6_pass 9 = .ok (.iconst 1, 1) := by decide +kernel
theorem dX6_pass_10 : decode cX6_pass 10 = .ok (.invokevirtual 51, 3) := by decide +kernel
theorem dX6_pass_13 : decode cX6_pass 13 = .ok (.ireturn, 1) := by decide +kernel
theorem dX6_pass_14 : decode cX6_pass 14 = .ok (.aload_n 0, 1) := by decide +kernel
theorem dX6_pass_15 : decode cX6_pass 15 = .ok (.dup, 1) := by decide +kernel
theorem dX6_pass_16 : decode cX6_pass 16 = .ok (.getfield 75, 3) := by decide +kernel
theorem dX6_pass_19 : decode cX6_pass 19 = .ok (.iconst 1, 1) := by decide +kernel
theorem dX6_pass_20 : decode cX6_pass 20 = .ok (.iadd, 1) := by decide +kernel
theorem dX6_pass_21 : decode cX6_pass 21 = .ok (.putfield 75, 3) := by decide +kernel
theorem dX6_pass_24 : decode cX6_pass 24 = .ok (.iconst 1, 1) := by decide +kernel
theorem dX6_pass_25 : decode cX6_pass 25 = .ok (.ireturn, 1) := by decide +kernel
def s_X6_pass (o : Nat) (a1 : Int32) (h : aH) : aO :=
  kO h o 6 (cI (s_X6_kind o h) fun x1 h1 => if x1 = a1 then ((gI h1 (.ref o) 6 2).bind fun x16 => (pF h1 (.ref o) 6 2 (.int (x16 + 1))).bind fun h21 => rtZ 1 h21) else (kO h1 o 6 (cI (s_X6_fail o 1 h1) fun x10 h10 => rtZ x10 h10)))
section
variable {p : Program} {l : Launch} {e : Env} {s : State} {m : MethodId} {args : Array Value} {below : List Frame} {meth : Method} {c : Code} {D : va_G} {B0 : Nat} {X : Nat → Nat} {ws0 : va_W} {r : aR} {h' : aH} {mc ms : Nat}
theorem hy_X6_pass : yX6_pass.cls ≠ "java/lang/invoke/MethodHandle" ∧ yX6_pass.cls ≠ "java/lang/invoke/VarHandle" ∧ (parseMethodDescriptor yX6_pass.desc).map (fun d => d.parameters.length) = some 1 := by decide +kernel
theorem T_X6_pass (o : Nat) (a1 : Int32) (h : aH) (r : aR) (h' : aH) (hs : s_X6_pass o a1 h = some (r, h')) : Mt yX6_pass (Cond.code yX6_pass cX6_pass 2 (some .boolean) :: aTB) 1 21 0 0 [.ref o, .int a1] h r h' := by
  unfold s_X6_pass at hs
  refine Mt_of (k := 0) (by decide) rfl (fun p l e s m args below meth c D B0 X ws0 C => ?_)
  show Ev p l e { frames := 1, cells := 0, slots := 0, locals := 21 } s m args below meth c D B0 X ws0 r h' 0 0 2 0 0 0 [some (.ref o), some (.int a1)] [] h
  refine ev_aload_n C (x := .ref o) rfl trivial dX6_pass_0 ?_
  obtain ⟨eo1, hs⟩ := kO_at hs
  obtain ⟨x1, h1, e1, hs⟩ := cI_at hs
  refine ev_callV C (T_X6_kind _ _ _ _ e1) (ci := 6) rfl eo1 wc_X6_kind wm_X6_44 wi_X6_kind ws_X6_kind wz_X6 hy_X6_kind ⟨(Nat.le_of_ble_eq_true rfl), (Nat.le_of_ble_eq_true rfl)⟩ ⟨(Nat.le_refl _), (Nat.le_refl _)⟩ (Nat.le_of_ble_eq_true rfl) rfl dX6_pass_1 ?_
  refine ev_iload_n C rfl dX6_pass_4 ?_
  refine ev_icmp_eq C (tgt := 14) (by decide) dX6_pass_5 (fun q5 => ?_) (fun q5 => ?_)
  · replace hs := (if_pos q5).symm.trans hs
    refine ev_aload_n C (x := .ref o) rfl trivial dX6_pass_14 ?_
    refine ev_dup C rfl dX6_pass_15 ?_
    obtain ⟨x16, e16, hs⟩ := aB hs
    refine ev_get C (ci := 6) (k := 2) rfl wu_6 (by decide) wf_X6_75 (gI_F e16) dX6_pass_16 ?_
    refine ev_iconst C (v := 1) dX6_pass_19 (by decide) ?_
    refine ev_iadd C dX6_pass_20 ?_
    obtain ⟨h21, e21, hs⟩ := aB hs
    refine ev_put C (ci := 6) (k := 2) rfl wu_6 (by decide) tyX6 tyX6_ok nmX6 wf_X6_75 rfl trivial e21 dX6_pass_21 ?_
    refine ev_iconst C (v := 1) dX6_pass_24 (by decide) ?_
    obtain ⟨hz, rfl, rfl⟩ := rtZ_at hs
    exact ev_zret C rfl hz rfl (Nat.le_refl _) (Nat.le_refl _) rfl dX6_pass_25
  · replace hs := (if_neg q5).symm.trans hs
    refine ev_aload_n C (x := .ref o) rfl trivial dX6_pass_8 ?_
    refine ev_iconst C (v := 1) dX6_pass_9 (by decide) ?_
    obtain ⟨eo10, hs⟩ := kO_at hs
    obtain ⟨x10, h10, e10, hs⟩ := cI_at hs
    refine ev_callV C (T_X6_fail _ _ _ _ _ e10) (ci := 6) rfl eo10 wc_X6_fail wm_X6_51 wi_X6_fail ws_X6_fail wz_X6 hy_X6_fail ⟨(Nat.le_of_ble_eq_true rfl), (Nat.le_of_ble_eq_true rfl)⟩ ⟨(Nat.le_refl _), (Nat.le_refl _)⟩ (Nat.le_of_ble_eq_true rfl) rfl dX6_pass_10 ?_
    obtain ⟨hz, rfl, rfl⟩ := rtZ_at hs
    exact ev_zret C rfl hz rfl (Nat.le_refl _) (Nat.le_refl _) rfl dX6_pass_13
end
-- X6_factor
theorem dX6_factor_0 : decode cX6_factor 0 = .ok (.aload_n 0, 1) := by decide +kernel
theorem dX6_factor_1 : decode cX6_factor 1 = .ok (.invokevirtual 44, 3) := by decide +kernel
theorem dX6_factor_4 : decode cX6_factor 4 = .ok (.iconst 2, 1) := by decide +kernel
theorem dX6_factor_5 : decode cX6_factor 5 = .ok (.if_icmp .ne 7, 3) := by decide +kernel
theorem dX6_factor_8 : decode cX6_factor 8 = .ok (.iconst 1, 1) := by decide +kernel
theorem dX6_factor_9 : decode cX6_factor 9 = .ok (.goto 4, 3) := by decide +kernel
theorem dX6_factor_12 : decode cX6_factor 12 = .ok (.iconst 0, 1) := by decide +kernel
theorem dX6_factor_13 : decode cX6_factor 13 = .ok (.istore_n 2, 1) := by decide +kernel
theorem dX6_factor_14 : decode cX6_factor 14 = .ok (.iload_n 2, 1) := by decide +kernel
theorem dX6_factor_15 : decode cX6_factor 15 = .ok (.ifCond .ne 24, 3) := by decide +kernel
theorem dX6_factor_18 : decode cX6_factor 18 = .ok (.aload_n 0, 1) := by decide +kernel
theorem dX6_factor_19 : decode cX6_factor 19 = .ok (.invokevirtual 44, 3) := by decide +kernel
theorem dX6_factor_22 : decode cX6_factor 22 = .ok (.iconst 1, 1) := by decide +kernel
theorem dX6_factor_23 : decode cX6_factor 23 = .ok (.if_icmp .ne 10, 3) := by decide +kernel
theorem dX6_factor_26 : decode cX6_factor 26 = .ok (.aload_n 0, 1) := by decide +kernel
theorem dX6_factor_27 : decode cX6_factor 27 = .ok (.invokevirtual 84, 3) := by decide +kernel
theorem dX6_factor_30 : decode cX6_factor 30 = .ok (.ifCond .lt 9, 3) := by decide +kernel
theorem dX6_factor_33 : decode cX6_factor 33 = .ok (.aload_n 0, 1) := by decide +kernel
theorem dX6_factor_34 : decode cX6_factor 34 = .ok (.iconst 1, 1) := by decide +kernel
theorem dX6_factor_35 : decode cX6_factor 35 = .ok (.invokevirtual 51, 3) := by decide +kernel
theorem dX6_factor_38 : decode cX6_factor 38 = .ok (.ireturn, 1) := by decide +kernel
theorem dX6_factor_39 : decode cX6_factor 39 = .ok (.iload_n 2, 1) := by decide +kernel
theorem dX6_factor_40 : decode cX6_factor 40 = .ok (.ifCond .eq 7, 3) := by decide +kernel
theorem dX6_factor_43 : decode cX6_factor 43 = .ok (.iconst (-1), 1) := by decide +kernel
theorem dX6_factor_44 : decode cX6_factor 44 = .ok (.goto 14, 3) := by decide +kernel
theorem dX6_factor_47 : decode cX6_factor 47 = .ok (.aload_n 0, 1) := by decide +kernel
theorem dX6_factor_48 : decode cX6_factor 48 = .ok (.getfield 18, 3) := by decide +kernel
theorem dX6_factor_51 : decode cX6_factor 51 = .ok (.aload_n 0, 1) := by decide +kernel
theorem dX6_factor_52 : decode cX6_factor 52 = .ok (.invokevirtual 93, 3) := by decide +kernel
theorem dX6_factor_55 : decode cX6_factor 55 = .ok (.invokevirtual 97, 3) := by decide +kernel
theorem dX6_factor_58 : decode cX6_factor 58 = .ok (.istore_n 3, 1) := by decide +kernel
theorem dX6_factor_59 : decode cX6_factor 59 = .ok (.iload_n 2, 1) := by decide +kernel
theorem dX6_factor_60 : decode cX6_factor 60 = .ok (.ifCond .ne 21, 3) := by decide +kernel
theorem dX6_factor_63 : decode cX6_factor 63 = .ok (.iload_n 3, 1) := by decide +kernel
theorem dX6_factor_64 : decode cX6_factor 64 = .ok (.ifCond .lt 11, 3) := by decide +kernel
theorem dX6_factor_67 : decode cX6_factor 67 = .ok (.iload_n 3, 1) := by decide +kernel
theorem dX6_factor_68 : decode cX6_factor 68 = .ok (.aload_n 0, 1) := by decide +kernel
theorem dX6_factor_69 : decode cX6_factor 69 = .ok (.getfield 36, 3) := by decide +kernel
theorem dX6_factor_72 : decode cX6_factor 72 = .ok (.if_icmp .lt 9, 3) := by decide +kernel
theorem dX6_factor_75 : decode cX6_factor 75 = .ok (.aload_n 0, 1) := by decide +kernel
theorem dX6_factor_76 : decode cX6_factor 76 = .ok (.iconst 2, 1) := by decide +kernel
theorem dX6_factor_77 : decode cX6_factor 77 = .ok (.invokevirtual 51, 3) := by decide +kernel
theorem dX6_factor_80 : decode cX6_factor 80 = .ok (.ireturn, 1) := by decide +kernel
theorem dX6_factor_81 : decode cX6_factor 81 = .ok (.aload_n 0, 1) := by decide +kernel
theorem dX6_factor_82 : decode cX6_factor 82 = .ok (.getfield 28, 3) := by decide +kernel
theorem dX6_factor_85 : decode cX6_factor 85 = .ok (.invokevirtual 158, 3) := by decide +kernel
theorem dX6_factor_88 : decode cX6_factor 88 = .ok (.ifCond .eq 9, 3) := by decide +kernel
theorem dX6_factor_91 : decode cX6_factor 91 = .ok (.aload_n 0, 1) := by decide +kernel
theorem dX6_factor_92 : decode cX6_factor 92 = .ok (.iconst 5, 1) := by decide +kernel
theorem dX6_factor_93 : decode cX6_factor 93 = .ok (.invokevirtual 51, 3) := by decide +kernel
theorem dX6_factor_96 : decode cX6_factor 96 = .ok (.ireturn, 1) := by decide +kernel
theorem dX6_factor_97 : decode cX6_factor 97 = .ok (.aload_n 0, 1) := by decide +kernel
theorem dX6_factor_98 : decode cX6_factor 98 = .ok (.getfield 28, 3) := by decide +kernel
theorem dX6_factor_101 : decode cX6_factor 101 = .ok (.iload_n 1, 1) := by decide +kernel
theorem dX6_factor_102 : decode cX6_factor 102 = .ok (.iload_n 3, 1) := by decide +kernel
theorem dX6_factor_103 : decode cX6_factor 103 = .ok (.iload_n 2, 1) := by decide +kernel
theorem dX6_factor_104 : decode cX6_factor 104 = .ok (.ifCond .eq 11, 3) := by decide +kernel
theorem dX6_factor_107 : decode cX6_factor 107 = .ok (.aload_n 0, 1) := by decide +kernel
theorem dX6_factor_108 : decode cX6_factor 108 = .ok (.invokevirtual 93, 3) := by decide +kernel
theorem dX6_factor_111 : decode cX6_factor 111 = .ok (.l2i, 1) := by decide +kernel
theorem dX6_factor_112 : decode cX6_factor 112 = .ok (.goto 4, 3) := by decide +kernel
theorem dX6_factor_115 : decode cX6_factor 115 = .ok (.iconst 0, 1) := by decide +kernel
theorem dX6_factor_116 : decode cX6_factor 116 = .ok (.invokevirtual 161, 3) := by decide +kernel
theorem dX6_factor_119 : decode cX6_factor 119 = .ok (.aload_n 0, 1) := by decide +kernel
theorem dX6_factor_120 : decode cX6_factor 120 = .ok (.dup, 1) := by decide +kernel
theorem dX6_factor_121 : decode cX6_factor 121 = .ok (.getfield 75, 3) := by decide +kernel
theorem dX6_factor_124 : decode cX6_factor 124 = .ok (.iconst 1, 1) := by decide +kernel
theorem dX6_factor_125 : decode cX6_factor 125 = .ok (.iadd, 1) := by decide +kernel
theorem dX6_factor_126 : decode cX6_factor 126 = .ok (.putfield 75, 3) := by decide +kernel
theorem dX6_factor_129 : decode cX6_factor 129 = .ok (.iconst 1, 1) := by decide +kernel
theorem dX6_factor_130 : decode cX6_factor 130 = .ok (.ireturn, 1) := by decide +kernel
def s_X6_factor_116  (l0 : Nat) (s0 : Int32) (s1 : Int32) (s2 : Int32) (s3 : Nat) (h : aH) : aO :=
  kO h s3 0 (cN (s_X0_addFactor s3 s2 s1 s0 h) fun h116 => (gI h116 (.ref l0) 6 2).bind fun x121 => (pF h116 (.ref l0) 6 2 (.int (x121 + 1))).bind fun h126 => rtZ 1 h126)
def s_X6_factor_81  (l0 : Nat) (l1 : Int32) (l2 : Int32) (l3 : Int32) (h : aH) : aO :=
  (gO h (.ref l0) 6 6).bind fun x82 => kO h x82 0 (cI (s_X0_isFull x82 h) fun x85 h85 => if x85 = 0 then ((gO h85 (.ref l0) 6 6).bind fun x98 => if l2 = 0 then (s_X6_factor_116 l0 0 l3 l1 x98 h85) else (kO h85 l0 6 (cJ (s_X6_meaning l0 h85) fun x108 h108 => s_X6_factor_116 l0 x108.toInt32 l3 l1 x98 h108))) else (kO h85 l0 6 (cI (s_X6_fail l0 5 h85) fun x93 h93 => rtZ x93 h93)))
def s_X6_factor_75  (l0 : Nat) (h : aH) : aO :=
  kO h l0 6 (cI (s_X6_fail l0 2 h) fun x77 h77 => rtZ x77 h77)
def s_X6_factor_58  (l0 : Nat) (l1 : Int32) (l2 : Int32) (s0 : Int32) (h : aH) : aO :=
  if l2 = 0 then (if s0 < 0 then (s_X6_factor_75 l0 h) else ((gI h (.ref l0) 6 4).bind fun x69 => if s0 < x69 then (s_X6_factor_81 l0 l1 l2 s0 h) else (s_X6_factor_75 l0 h))) else (s_X6_factor_81 l0 l1 l2 s0 h)
def s_X6_factor_39  (l0 : Nat) (l1 : Int32) (l2 : Int32) (h : aH) : aO :=
  if l2 = 0 then ((gO h (.ref l0) 6 5).bind fun x48 => kO h l0 6 (cJ (s_X6_meaning l0 h) fun x52 h52 => kO h52 x48 2 (cI (s_X2_slotOf x48 x52 h52) fun x55 h55 => s_X6_factor_58 l0 l1 l2 x55 h55))) else (s_X6_factor_58 l0 l1 l2 (-1) h)
def s_X6_factor_33  (l0 : Nat) (h : aH) : aO :=
  kO h l0 6 (cI (s_X6_fail l0 1 h) fun x35 h35 => rtZ x35 h35)
def s_X6_factor_13  (l0 : Nat) (l1 : Int32) (s0 : Int32) (h : aH) : aO :=
  if s0 = 0 then (kO h l0 6 (cI (s_X6_kind l0 h) fun x19 h19 => if x19 = 1 then (kO h19 l0 6 (cI (s_X6_reserved l0 h19) fun x27 h27 => if x27 < 0 then (s_X6_factor_39 l0 l1 s0 h27) else (s_X6_factor_33 l0 h27))) else (s_X6_factor_33 l0 h19))) else (s_X6_factor_39 l0 l1 s0 h)
def s_X6_factor (o : Nat) (a1 : Int32) (h : aH) : aO :=
  kO h o 6 (cI (s_X6_kind o h) fun x1 h1 => if x1 = 2 then (s_X6_factor_13 o a1 1 h1) else (s_X6_factor_13 o a1 0 h1))
section
variable {p : Program} {l : Launch} {e : Env} {s : State} {m : MethodId} {args : Array Value} {below : List Frame} {meth : Method} {c : Code} {D : va_G} {B0 : Nat} {X : Nat → Nat} {ws0 : va_W} {r : aR} {h' : aH} {mc ms : Nat}
theorem t_X6_factor_116 (C : Cx p l s m args meth c B0 X RX6 "factor" cX6_factor 4 (some .boolean) [])   {l0 : Nat} {s0 : Int32} {s1 : Int32} {s2 : Int32} {s3 : Nat} {h : aH} (hs : s_X6_factor_116  l0 s0 s1 s2 s3 h = some (r, h')) : Ev p l e { frames := 1, cells := mc, slots := ms, locals := 24 } s m args below meth c D B0 X ws0 r h' mc ms 4 mc ms 116 [some (.ref l0), none, none, none] [.int s0, .int s1, .int s2, .ref s3] h := by
  unfold s_X6_factor_116 at hs
  obtain ⟨eo116, hs⟩ := kO_at hs
  obtain ⟨h116, e116, hs⟩ := cN_at hs
  refine ev_callVN C (T_X0_addFactor _ _ _ _ _ _ _ e116) (ci := 0) rfl eo116 wc_X0_addFactor wn_X6_161 wi_X0_addFactor ws_X0_addFactor wz_X0 hy_X0_addFactor ⟨(Nat.le_of_ble_eq_true rfl), (Nat.le_of_ble_eq_true rfl)⟩ ⟨(Nat.le_refl _), (Nat.le_refl _)⟩ (Nat.le_of_ble_eq_true rfl) rfl dX6_factor_116 ?_
  refine ev_aload_n C (x := .ref l0) rfl trivial dX6_factor_119 ?_
  refine ev_dup C rfl dX6_factor_120 ?_
  obtain ⟨x121, e121, hs⟩ := aB hs
  refine ev_get C (ci := 6) (k := 2) rfl wu_6 (by decide) wf_X6_75 (gI_F e121) dX6_factor_121 ?_
  refine ev_iconst C (v := 1) dX6_factor_124 (by decide) ?_
  refine ev_iadd C dX6_factor_125 ?_
  obtain ⟨h126, e126, hs⟩ := aB hs
  refine ev_put C (ci := 6) (k := 2) rfl wu_6 (by decide) tyX6 tyX6_ok nmX6 wf_X6_75 rfl trivial e126 dX6_factor_126 ?_
  refine ev_iconst C (v := 1) dX6_factor_129 (by decide) ?_
  obtain ⟨hz, rfl, rfl⟩ := rtZ_at hs
  exact ev_zret C rfl hz rfl (Nat.le_refl _) (Nat.le_refl _) rfl dX6_factor_130
theorem t_X6_factor_81 (C : Cx p l s m args meth c B0 X RX6 "factor" cX6_factor 4 (some .boolean) [])   {l0 : Nat} {l1 : Int32} {l2 : Int32} {l3 : Int32} {h : aH} (hs : s_X6_factor_81  l0 l1 l2 l3 h = some (r, h')) : Ev p l e { frames := 1, cells := mc, slots := ms, locals := 24 } s m args below meth c D B0 X ws0 r h' mc ms 4 mc ms 81 [some (.ref l0), some (.int l1), some (.int l2), some (.int l3)] [] h := by
  unfold s_X6_factor_81 at hs
  refine ev_aload_n C (x := .ref l0) rfl trivial dX6_factor_81 ?_
  obtain ⟨x82, e82, hs⟩ := aB hs
  refine ev_get C (ci := 6) (k := 6) rfl wu_6 (by decide) wf_X6_28 (gO_F e82) dX6_factor_82 ?_
  obtain ⟨eo85, hs⟩ := kO_at hs
  obtain ⟨x85, h85, e85, hs⟩ := cI_at hs
  refine ev_callVN C (T_X0_isFull _ _ _ _ e85) (ci := 0) rfl eo85 wc_X0_isFull wn_X6_158 wi_X0_isFull ws_X0_isFull wz_X0 hy_X0_isFull ⟨(Nat.le_of_ble_eq_true rfl), (Nat.le_of_ble_eq_true rfl)⟩ ⟨(Nat.le_refl _), (Nat.le_refl _)⟩ (Nat.le_of_ble_eq_true rfl) rfl dX6_factor_85 ?_
  refine ev_if_eq C (tgt := 97) (by decide) dX6_factor_88 (fun q88 => ?_) (fun q88 => ?_)
  · replace hs := (if_pos q88).symm.trans hs
    refine ev_aload_n C (x := .ref l0) rfl trivial dX6_factor_97 ?_
    obtain ⟨x98, e98, hs⟩ := aB hs
    refine ev_get C (ci := 6) (k := 6) rfl wu_6 (by decide) wf_X6_28 (gO_F e98) dX6_factor_98 ?_
    refine ev_iload_n C rfl dX6_factor_101 ?_
    refine ev_iload_n C rfl dX6_factor_102 ?_
    refine ev_iload_n C rfl dX6_factor_103 ?_
    refine ev_if_eq C (tgt := 115) (by decide) dX6_factor_104 (fun q104 => ?_) (fun q104 => ?_)
    · replace hs := (if_pos q104).symm.trans hs
      refine ev_iconst C (v := 0) dX6_factor_115 (by decide) ?_
      exact Ev.keep [true, false, false, false] (t_X6_factor_116 C  hs)
    · replace hs := (if_neg q104).symm.trans hs
      refine ev_aload_n C (x := .ref l0) rfl trivial dX6_factor_107 ?_
      obtain ⟨eo108, hs⟩ := kO_at hs
      obtain ⟨x108, h108, e108, hs⟩ := cJ_at hs
      refine ev_callV C (T_X6_meaning _ _ _ _ e108) (ci := 6) rfl eo108 wc_X6_meaning wm_X6_93 wi_X6_meaning ws_X6_meaning wz_X6 hy_X6_meaning ⟨(Nat.le_of_ble_eq_true rfl), (Nat.le_of_ble_eq_true rfl)⟩ ⟨(Nat.le_refl _), (Nat.le_refl _)⟩ (Nat.le_of_ble_eq_true rfl) rfl dX6_factor_108 ?_
      refine ev_l2i C dX6_factor_111 ?_
      refine ev_goto C (tgt := 116) (by decide) dX6_factor_112 ?_
      exact Ev.keep [true, false, false, false] (t_X6_factor_116 C  hs)
  · replace hs := (if_neg q88).symm.trans hs
    refine ev_aload_n C (x := .ref l0) rfl trivial dX6_factor_91 ?_
    refine ev_iconst C (v := 5) dX6_factor_92 (by decide) ?_
    obtain ⟨eo93, hs⟩ := kO_at hs
    obtain ⟨x93, h93, e93, hs⟩ := cI_at hs
    refine ev_callV C (T_X6_fail _ _ _ _ _ e93) (ci := 6) rfl eo93 wc_X6_fail wm_X6_51 wi_X6_fail ws_X6_fail wz_X6 hy_X6_fail ⟨(Nat.le_of_ble_eq_true rfl), (Nat.le_of_ble_eq_true rfl)⟩ ⟨(Nat.le_refl _), (Nat.le_refl _)⟩ (Nat.le_of_ble_eq_true rfl) rfl dX6_factor_93 ?_
    obtain ⟨hz, rfl, rfl⟩ := rtZ_at hs
    exact ev_zret C rfl hz rfl (Nat.le_refl _) (Nat.le_refl _) rfl dX6_factor_96
theorem t_X6_factor_75 (C : Cx p l s m args meth c B0 X RX6 "factor" cX6_factor 4 (some .boolean) [])   {l0 : Nat} {h : aH} (hs : s_X6_factor_75  l0 h = some (r, h')) : Ev p l e { frames := 1, cells := mc, slots := ms, locals := 24 } s m args below meth c D B0 X ws0 r h' mc ms 4 mc ms 75 [some (.ref l0), none, none, none] [] h := by
  unfold s_X6_factor_75 at hs
  refine ev_aload_n C (x := .ref l0) rfl trivial dX6_factor_75 ?_
  refine ev_iconst C (v := 2) dX6_factor_76 (by decide) ?_
  obtain ⟨eo77, hs⟩ := kO_at hs
  obtain ⟨x77, h77, e77, hs⟩ := cI_at hs
  refine ev_callV C (T_X6_fail _ _ _ _ _ e77) (ci := 6) rfl eo77 wc_X6_fail wm_X6_51 wi_X6_fail ws_X6_fail wz_X6 hy_X6_fail ⟨(Nat.le_of_ble_eq_true rfl), (Nat.le_of_ble_eq_true rfl)⟩ ⟨(Nat.le_refl _), (Nat.le_refl _)⟩ (Nat.le_of_ble_eq_true rfl) rfl dX6_factor_77 ?_
  obtain ⟨hz, rfl, rfl⟩ := rtZ_at hs
  exact ev_zret C rfl hz rfl (Nat.le_refl _) (Nat.le_refl _) rfl dX6_factor_80
theorem t_X6_factor_58 (C : Cx p l s m args meth c B0 X RX6 "factor" cX6_factor 4 (some .boolean) [])   {l0 : Nat} {l1 : Int32} {l2 : Int32} {s0 : Int32} {h : aH} (hs : s_X6_factor_58  l0 l1 l2 s0 h = some (r, h')) : Ev p l e { frames := 1, cells := mc, slots := ms, locals := 24 } s m args below meth c D B0 X ws0 r h' mc ms 4 mc ms 58 [some (.ref l0), some (.int l1), some (.int l2), none] [.int s0] h := by
  unfold s_X6_factor_58 at hs
  refine ev_istore_n C (by decide) dX6_factor_58 ?_
  refine ev_iload_n C rfl dX6_factor_59 ?_
  refine ev_if_ne C (tgt := 81) (by decide) dX6_factor_60 (fun q60 => ?_) (fun q60 => ?_)
  · replace hs := (if_neg q60).symm.trans hs
    exact (t_X6_factor_81 C  hs)
  · replace hs := (if_pos q60).symm.trans hs
    refine ev_iload_n C rfl dX6_factor_63 ?_
    refine ev_if_lt C (tgt := 75) (by decide) dX6_factor_64 (fun q64 => ?_) (fun q64 => ?_)
    · replace hs := (if_pos q64).symm.trans hs
      exact Ev.keep [true, false, false, false] (t_X6_factor_75 C  hs)
    · replace hs := (if_neg q64).symm.trans hs
      refine ev_iload_n C rfl dX6_factor_67 ?_
      refine ev_aload_n C (x := .ref l0) rfl trivial dX6_factor_68 ?_
      obtain ⟨x69, e69, hs⟩ := aB hs
      refine ev_get C (ci := 6) (k := 4) rfl wu_6 (by decide) wf_X6_36 (gI_F e69) dX6_factor_69 ?_
      refine ev_icmp_lt C (tgt := 81) (by decide) dX6_factor_72 (fun q72 => ?_) (fun q72 => ?_)
      · replace hs := (if_pos q72).symm.trans hs
        exact (t_X6_factor_81 C  hs)
      · replace hs := (if_neg q72).symm.trans hs
        exact Ev.keep [true, false, false, false] (t_X6_factor_75 C  hs)
theorem t_X6_factor_39 (C : Cx p l s m args meth c B0 X RX6 "factor" cX6_factor 4 (some .boolean) [])   {l0 : Nat} {l1 : Int32} {l2 : Int32} {h : aH} (hs : s_X6_factor_39  l0 l1 l2 h = some (r, h')) : Ev p l e { frames := 1, cells := mc, slots := ms, locals := 24 } s m args below meth c D B0 X ws0 r h' mc ms 4 mc ms 39 [some (.ref l0), some (.int l1), some (.int l2), none] [] h := by
  unfold s_X6_factor_39 at hs
  refine ev_iload_n C rfl dX6_factor_39 ?_
  refine ev_if_eq C (tgt := 47) (by decide) dX6_factor_40 (fun q40 => ?_) (fun q40 => ?_)
  · replace hs := (if_pos q40).symm.trans hs
    refine ev_aload_n C (x := .ref l0) rfl trivial dX6_factor_47 ?_
    obtain ⟨x48, e48, hs⟩ := aB hs
    refine ev_get C (ci := 6) (k := 5) rfl wu_6 (by decide) wf_X6_18 (gO_F e48) dX6_factor_48 ?_
    refine ev_aload_n C (x := .ref l0) rfl trivial dX6_factor_51 ?_
    obtain ⟨eo52, hs⟩ := kO_at hs
    obtain ⟨x52, h52, e52, hs⟩ := cJ_at hs
    refine ev_callV C (T_X6_meaning _ _ _ _ e52) (ci := 6) rfl eo52 wc_X6_meaning wm_X6_93 wi_X6_meaning ws_X6_meaning wz_X6 hy_X6_meaning ⟨(Nat.le_of_ble_eq_true rfl), (Nat.le_of_ble_eq_true rfl)⟩ ⟨(Nat.le_refl _), (Nat.le_refl _)⟩ (Nat.le_of_ble_eq_true rfl) rfl dX6_factor_52 ?_
    obtain ⟨eo55, hs⟩ := kO_at hs
    obtain ⟨x55, h55, e55, hs⟩ := cI_at hs
    refine ev_callVN C (T_X2_slotOf _ _ _ _ _ e55) (ci := 2) rfl eo55 wc_X2_slotOf wn_X6_97 wi_X2_slotOf ws_X2_slotOf wz_X2 hy_X2_slotOf ⟨(Nat.le_of_ble_eq_true rfl), (Nat.le_of_ble_eq_true rfl)⟩ ⟨(Nat.le_refl _), (Nat.le_refl _)⟩ (Nat.le_of_ble_eq_true rfl) rfl dX6_factor_55 ?_
    exact (t_X6_factor_58 C  hs)
  · replace hs := (if_neg q40).symm.trans hs
    refine ev_iconst C (v := (-1)) dX6_factor_43 (by decide) ?_
    refine ev_goto C (tgt := 58) (by decide) dX6_factor_44 ?_
    exact (t_X6_factor_58 C  hs)
theorem t_X6_factor_33 (C : Cx p l s m args meth c B0 X RX6 "factor" cX6_factor 4 (some .boolean) [])   {l0 : Nat} {h : aH} (hs : s_X6_factor_33  l0 h = some (r, h')) : Ev p l e { frames := 1, cells := mc, slots := ms, locals := 24 } s m args below meth c D B0 X ws0 r h' mc ms 4 mc ms 33 [some (.ref l0), none, none, none] [] h := by
  unfold s_X6_factor_33 at hs
  refine ev_aload_n C (x := .ref l0) rfl trivial dX6_factor_33 ?_
  refine ev_iconst C (v := 1) dX6_factor_34 (by decide) ?_
  obtain ⟨eo35, hs⟩ := kO_at hs
  obtain ⟨x35, h35, e35, hs⟩ := cI_at hs
  refine ev_callV C (T_X6_fail _ _ _ _ _ e35) (ci := 6) rfl eo35 wc_X6_fail wm_X6_51 wi_X6_fail ws_X6_fail wz_X6 hy_X6_fail ⟨(Nat.le_of_ble_eq_true rfl), (Nat.le_of_ble_eq_true rfl)⟩ ⟨(Nat.le_refl _), (Nat.le_refl _)⟩ (Nat.le_of_ble_eq_true rfl) rfl dX6_factor_35 ?_
  obtain ⟨hz, rfl, rfl⟩ := rtZ_at hs
  exact ev_zret C rfl hz rfl (Nat.le_refl _) (Nat.le_refl _) rfl dX6_factor_38
theorem t_X6_factor_13 (C : Cx p l s m args meth c B0 X RX6 "factor" cX6_factor 4 (some .boolean) [])   {l0 : Nat} {l1 : Int32} {s0 : Int32} {h : aH} (hs : s_X6_factor_13  l0 l1 s0 h = some (r, h')) : Ev p l e { frames := 1, cells := mc, slots := ms, locals := 24 } s m args below meth c D B0 X ws0 r h' mc ms 4 mc ms 13 [some (.ref l0), some (.int l1), none, none] [.int s0] h := by
  unfold s_X6_factor_13 at hs
  refine ev_istore_n C (by decide) dX6_factor_13 ?_
  refine ev_iload_n C rfl dX6_factor_14 ?_
  refine ev_if_ne C (tgt := 39) (by decide) dX6_factor_15 (fun q15 => ?_) (fun q15 => ?_)
  · replace hs := (if_neg q15).symm.trans hs
    exact (t_X6_factor_39 C  hs)
  · replace hs := (if_pos q15).symm.trans hs
    refine ev_aload_n C (x := .ref l0) rfl trivial dX6_factor_18 ?_
    obtain ⟨eo19, hs⟩ := kO_at hs
    obtain ⟨x19, h19, e19, hs⟩ := cI_at hs
    refine ev_callV C (T_X6_kind _ _ _ _ e19) (ci := 6) rfl eo19 wc_X6_kind wm_X6_44 wi_X6_kind ws_X6_kind wz_X6 hy_X6_kind ⟨(Nat.le_of_ble_eq_true rfl), (Nat.le_of_ble_eq_true rfl)⟩ ⟨(Nat.le_refl _), (Nat.le_refl _)⟩ (Nat.le_of_ble_eq_true rfl) rfl dX6_factor_19 ?_
    refine ev_iconst C (v := 1) dX6_factor_22 (by decide) ?_
    refine ev_icmp_ne C (tgt := 33) (by decide) dX6_factor_23 (fun q23 => ?_) (fun q23 => ?_)
    · replace hs := (if_neg q23).symm.trans hs
      exact Ev.keep [true, false, false, true] (t_X6_factor_33 C  hs)
    · replace hs := (if_pos q23).symm.trans hs
      refine ev_aload_n C (x := .ref l0) rfl trivial dX6_factor_26 ?_
      obtain ⟨eo27, hs⟩ := kO_at hs
      obtain ⟨x27, h27, e27, hs⟩ := cI_at hs
      refine ev_callV C (T_X6_reserved _ _ _ _ e27) (ci := 6) rfl eo27 wc_X6_reserved wm_X6_84 wi_X6_reserved ws_X6_reserved wz_X6 hy_X6_reserved ⟨(Nat.le_of_ble_eq_true rfl), (Nat.le_of_ble_eq_true rfl)⟩ ⟨(Nat.le_refl _), (Nat.le_refl _)⟩ (Nat.le_of_ble_eq_true rfl) rfl dX6_factor_27 ?_
      refine ev_if_lt C (tgt := 39) (by decide) dX6_factor_30 (fun q30 => ?_) (fun q30 => ?_)
      · replace hs := (if_pos q30).symm.trans hs
        exact (t_X6_factor_39 C  hs)
      · replace hs := (if_neg q30).symm.trans hs
        exact Ev.keep [true, false, false, true] (t_X6_factor_33 C  hs)
theorem hy_X6_factor : yX6_factor.cls ≠ "java/lang/invoke/MethodHandle" ∧ yX6_factor.cls ≠ "java/lang/invoke/VarHandle" ∧ (parseMethodDescriptor yX6_factor.desc).map (fun d => d.parameters.length) = some 1 := by decide +kernel
theorem T_X6_factor (o : Nat) (a1 : Int32) (h : aH) (r : aR) (h' : aH) (hs : s_X6_factor o a1 h = some (r, h')) : Mt yX6_factor (Cond.code yX6_factor cX6_factor 4 (some .boolean) :: aTB) 1 24 0 0 [.ref o, .int a1] h r h' := by
  unfold s_X6_factor at hs
  refine Mt_of (k := 2) (by decide) rfl (fun p l e s m args below meth c D B0 X ws0 C => ?_)
  show Ev p l e { frames := 1, cells := 0, slots := 0, locals := 24 } s m args below meth c D B0 X ws0 r h' 0 0 4 0 0 0 [some (.ref o), some (.int a1), none, none] [] h
  refine ev_aload_n C (x := .ref o) rfl trivial dX6_factor_0 ?_
  obtain ⟨eo1, hs⟩ := kO_at hs
  obtain ⟨x1, h1, e1, hs⟩ := cI_at hs
  refine ev_callV C (T_X6_kind _ _ _ _ e1) (ci := 6) rfl eo1 wc_X6_kind wm_X6_44 wi_X6_kind ws_X6_kind wz_X6 hy_X6_kind ⟨(Nat.le_of_ble_eq_true rfl), (Nat.le_of_ble_eq_true rfl)⟩ ⟨(Nat.le_refl _), (Nat.le_refl _)⟩ (Nat.le_of_ble_eq_true rfl) rfl dX6_factor_1 ?_
  refine ev_iconst C (v := 2) dX6_factor_4 (by decide) ?_
  refine ev_icmp_ne C (tgt := 12) (by decide) dX6_factor_5 (fun q5 => ?_) (fun q5 => ?_)
  · replace hs := (if_neg q5).symm.trans hs
    refine ev_iconst C (v := 0) dX6_factor_12 (by decide) ?_
    exact (t_X6_factor_13 C  hs)
  · replace hs := (if_pos q5).symm.trans hs
    refine ev_iconst C (v := 1) dX6_factor_8 (by decide) ?_
    refine ev_goto C (tgt := 13) (by decide) dX6_factor_9 ?_
    exact (t_X6_factor_13 C  hs)
end
