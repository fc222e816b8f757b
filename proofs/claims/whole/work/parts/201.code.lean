-- X1_holds
theorem dX1_holds_0 : decode cX1_holds 0 = .ok (.aload_n 0, 1) := by decide +kernel
theorem dX1_holds_1 : decode cX1_holds 1 = .ok (.getfield 47, 3) := by decide +kernel
theorem dX1_holds_4 : decode cX1_holds 4 = .ok (.ifCond .ne 20, 3) := by decide +kernel
theorem dX1_holds_7 : decode cX1_holds 7 = .ok (.aload_n 0, 1) := by decide +kernel
theorem dX1_holds_8 : decode cX1_holds 8 = .ok (.iconst 1, 1) := by decide +kernel
theorem dX1_holds_9 : decode cX1_holds 9 = .ok (.putfield 47, 3) := by decide +kernel
theorem dX1_holds_12 : decode cX1_holds 12 = .ok (.aload_n 0, 1) := by decide +kernel
theorem dX1_holds_13 : decode cX1_holds 13 = .ok (.aload_n 0, 1) := by decide +kernel
theorem dX1_holds_14 : decode cX1_holds 14 = .ok (.invokevirtual 51, 3) := by decide +kernel
theorem dX1_holds_17 : decode cX1_holds 17 = .ok (.putfield 55, 3) := by decide +kernel
theorem dX1_holds_20 : decode cX1_holds 20 = .ok (.aload_n 0, 1) := by decide +kernel
theorem dX1_holds_21 : decode cX1_holds 21 = .ok (.invokevirtual 58, 3) := by decide +kernel
theorem dX1_holds_24 : decode cX1_holds 24 = .ok (.aload_n 0, 1) := by decide +kernel
theorem dX1_holds_25 : decode cX1_holds 25 = .ok (.getfield 55, 3) := by decide +kernel
theorem dX1_holds_28 : decode cX1_holds 28 = .ok (.ireturn, 1) := by decide +kernel
def s_X1_holds_24  (l0 : Nat) (h : aH) : aO :=
  (gI h (.ref l0) 1 2).bind fun x25 => rtZ x25 h
def s_X1_holds (o : Nat) (h : aH) : aO :=
  (gI h (.ref o) 1 1).bind fun x1 => if x1 = 0 then ((pZ h (.ref o) 1 1 1).bind fun h9 => kO h9 o 1 (cI (s_X1_look o h9) fun x14 h14 => (pZ h14 (.ref o) 1 2 x14).bind fun h17 => kO h17 o 1 (cN (s_X1_findForm o h17) fun h21 => s_X1_holds_24 o h21))) else (s_X1_holds_24 o h)
section
variable {p : Program} {l : Launch} {e : Env} {s : State} {m : MethodId} {args : Array Value} {below : List Frame} {meth : Method} {c : Code} {D : va_G} {B0 : Nat} {X : Nat → Nat} {ws0 : va_W} {r : aR} {h' : aH} {mc ms : Nat}
theorem t_X1_holds_24 (C : Cx p l s m args meth c B0 X RX1 "holds" cX1_holds 1 (some .boolean) [])   {l0 : Nat} {h : aH} (hs : s_X1_holds_24  l0 h = some (r, h')) : Ev p l e { frames := 3, cells := mc, slots := ms, locals := 80 } s m args below meth c D B0 X ws0 r h' mc ms 1 mc ms 24 [some (.ref l0)] [] h := by
  unfold s_X1_holds_24 at hs
  refine ev_aload_n C (x := .ref l0) rfl trivial dX1_holds_24 ?_
  obtain ⟨x25, e25, hs⟩ := aB hs
  refine ev_get C (ci := 1) (k := 2) rfl wu_1 (by decide) wf_X1_55 (gI_F e25) dX1_holds_25 ?_
  obtain ⟨hz, rfl, rfl⟩ := rtZ_at hs
  exact ev_zret C rfl hz rfl (Nat.le_refl _) (Nat.le_refl _) rfl dX1_holds_28
theorem hy_X1_holds : yX1_holds.cls ≠ "java/lang/invoke/MethodHandle" ∧ yX1_holds.cls ≠ "java/lang/invoke/VarHandle" ∧ (parseMethodDescriptor yX1_holds.desc).map (fun d => d.parameters.length) = some 0 := by decide +kernel
theorem T_X1_holds (o : Nat) (h : aH) (r : aR) (h' : aH) (hs : s_X1_holds o h = some (r, h')) : Mt yX1_holds (Cond.code yX1_holds cX1_holds 1 (some .boolean) :: aTB) 3 80 0 0 [.ref o] h r h' := by
  unfold s_X1_holds at hs
  refine Mt_of (k := 0) (by decide) rfl (fun p l e s m args below meth c D B0 X ws0 C => ?_)
  show Ev p l e { frames := 3, cells := 0, slots := 0, locals := 80 } s m args below meth c D B0 X ws0 r h' 0 0 1 0 0 0 [some (.ref o)] [] h
  refine ev_aload_n C (x := .ref o) rfl trivial dX1_holds_0 ?_
  obtain ⟨x1, e1, hs⟩ := aB hs
  refine ev_get C (ci := 1) (k := 1) rfl wu_1 (by decide) wf_X1_47 (gI_F e1) dX1_holds_1 ?_
  refine ev_if_ne C (tgt := 24) (by decide) dX1_holds_4 (fun q4 => ?_) (fun q4 => ?_)
  · replace hs := (if_neg q4).symm.trans hs
    exact (t_X1_holds_24 C  hs)
  · replace hs := (if_pos q4).symm.trans hs
    refine ev_aload_n C (x := .ref o) rfl trivial dX1_holds_7 ?_
    refine ev_iconst C (v := 1) dX1_holds_8 (by decide) ?_
    obtain ⟨h9, e9, hs⟩ := aB hs
    refine ev_put C (ci := 1) (k := 1) rfl wu_1 (by decide) tyX1 tyX1_ok nmX1 wf_X1_47 rfl (pZ_F e9).2 (pZ_F e9).1 dX1_holds_9 ?_
    refine ev_aload_n C (x := .ref o) rfl trivial dX1_holds_12 ?_
    refine ev_aload_n C (x := .ref o) rfl trivial dX1_holds_13 ?_
    obtain ⟨eo14, hs⟩ := kO_at hs
    obtain ⟨x14, h14, e14, hs⟩ := cI_at hs
    refine ev_callV C (T_X1_look _ _ _ _ e14) (ci := 1) rfl eo14 wc_X1_look wm_X1_51 wi_X1_look ws_X1_look wz_X1 hy_X1_look ⟨(Nat.le_of_ble_eq_true rfl), (Nat.le_of_ble_eq_true rfl)⟩ ⟨(Nat.le_refl _), (Nat.le_refl _)⟩ (Nat.le_of_ble_eq_true rfl) rfl dX1_holds_14 ?_
    obtain ⟨h17, e17, hs⟩ := aB hs
    refine ev_put C (ci := 1) (k := 2) rfl wu_1 (by decide) tyX1 tyX1_ok nmX1 wf_X1_55 rfl (pZ_F e17).2 (pZ_F e17).1 dX1_holds_17 ?_
    refine ev_aload_n C (x := .ref o) rfl trivial dX1_holds_20 ?_
    obtain ⟨eo21, hs⟩ := kO_at hs
    obtain ⟨h21, e21, hs⟩ := cN_at hs
    refine ev_callV C (T_X1_findForm _ _ _ _ e21) (ci := 1) rfl eo21 wc_X1_findForm wm_X1_58 wi_X1_findForm ws_X1_findForm wz_X1 hy_X1_findForm ⟨(Nat.le_of_ble_eq_true rfl), (Nat.le_of_ble_eq_true rfl)⟩ ⟨(Nat.le_refl _), (Nat.le_refl _)⟩ (Nat.le_of_ble_eq_true rfl) rfl dX1_holds_21 ?_
    exact (t_X1_holds_24 C  hs)
end
-- X1_multiply
theorem dX1_multiply_0 : decode cX1_multiply 0 = .ok (.iconst 0, 1) := by decide +kernel
theorem dX1_multiply_1 : decode cX1_multiply 1 = .ok (.istore 4, 2) := by decide +kernel
theorem dX1_multiply_3 : decode cX1_multiply 3 = .ok (.iload 4, 2) := by decide +kernel
theorem dX1_multiply_5 : decode cX1_multiply 5 = .ok (.iconst 3, 1) := by decide +kernel
theorem dX1_multiply_6 : decode cX1_multiply 6 = .ok (.if_icmp .ge 89, 3) := by decide +kernel
theorem dX1_multiply_9 : decode cX1_multiply 9 = .ok (.lconst 0, 1) := by decide +kernel
theorem dX1_multiply_10 : decode cX1_multiply 10 = .ok (.lstore 5, 2) := by decide +kernel
theorem dX1_multiply_12 : decode cX1_multiply 12 = .ok (.iconst 0, 1) := by decide +kernel
theorem dX1_multiply_13 : decode cX1_multiply 13 = .ok (.istore 7, 2) := by decide +kernel
theorem dX1_multiply_15 : decode cX1_multiply 15 = .ok (.iload 7, 2) := by decide +kernel
theorem dX1_multiply_17 : decode cX1_multiply 17 = .ok (.iconst 3, 1) := by decide +kernel
theorem dX1_multiply_18 : decode cX1_multiply 18 = .ok (.if_icmp .ge 58, 3) := by decide +kernel
theorem dX1_multiply_21 : decode cX1_multiply 21 = .ok (.lload 5, 2) := by decide +kernel
theorem dX1_multiply_23 : decode cX1_multiply 23 = .ok (.aload_n 0, 1) := by decide +kernel
theorem dX1_multiply_24 : decode cX1_multiply 24 = .ok (.getfield 25, 3) := by decide +kernel
theorem dX1_multiply_27 : decode cX1_multiply 27 = .ok (.iload_n 1, 1) := by decide +kernel
theorem dX1_multiply_28 : decode cX1_multiply 28 = .ok (.iconst 3, 1) := by decide +kernel
theorem dX1_multiply_29 : decode cX1_multiply 29 = .ok (.imul, 1) := by decide +kernel
theorem dX1_multiply_30 : decode cX1_multiply 30 = .ok (.iload 7, 2) := by decide +kernel
theorem dX1_multiply_32 : decode cX1_multiply 32 = .ok (.iadd, 1) := by decide +kernel
theorem dX1_multiply_33 : decode cX1_multiply 33 = .ok (.laload, 1) := by decide +kernel
theorem dX1_multiply_34 : decode cX1_multiply 34 = .ok (.iload_n 3, 1) := by decide +kernel
theorem dX1_multiply_35 : decode cX1_multiply 35 = .ok (.ifCond .eq 18, 3) := by decide +kernel
theorem dX1_multiply_38 : decode cX1_multiply 38 = .ok (.aload_n 0, 1) := by decide +kernel
theorem dX1_multiply_39 : decode cX1_multiply 39 = .ok (.getfield 9, 3) := by decide +kernel
theorem dX1_multiply_42 : decode cX1_multiply 42 = .ok (.iload 7, 2) := by decide +kernel
theorem dX1_multiply_44 : decode cX1_multiply 44 = .ok (.iconst 3, 1) := by decide +kernel
theorem dX1_multiply_45 : decode cX1_multiply 45 = .ok (.imul, 1) := by decide +kernel
theorem dX1_multiply_46 : decode cX1_multiply 46 = .ok (.iload 4, 2) := by decide +kernel
theorem dX1_multiply_48 : decode cX1_multiply 48 = .ok (.iadd, 1) := by decide +kernel
theorem dX1_multiply_49 : decode cX1_multiply 49 = .ok (.iaload, 1) := by decide +kernel
theorem dX1_multiply_50 : decode cX1_multiply 50 = .ok (.goto 15, 3) := by decide +kernel
theorem dX1_multiply_53 : decode cX1_multiply 53 = .ok (.aload_n 0, 1) := by decide +kernel
theorem dX1_multiply_54 : decode cX1_multiply 54 = .ok (.getfield 9, 3) := by decide +kernel
theorem dX1_multiply_57 : decode cX1_multiply 57 = .ok (.iload 4, 2) := by decide +kernel
theorem dX1_multiply_59 : decode cX1_multiply 59 = .ok (.iconst 3, 1) := by decide +kernel
theorem dX1_multiply_60 : decode cX1_multiply 60 = .ok (.imul, 1) := by decide +kernel
theorem dX1_multiply_61 : decode cX1_multiply 61 = .ok (.iload 7, 2) := by decide +kernel
theorem dX1_multiply_63 : decode cX1_multiply 63 = .ok (.iadd, 1) := by decide +kernel
theorem dX1_multiply_64 : decode cX1_multiply 64 = .ok (.iaload, 1) := by decide +kernel
theorem dX1_multiply_65 : decode cX1_multiply 65 = .ok (.i2l, 1) := by decide +kernel
theorem dX1_multiply_66 : decode cX1_multiply 66 = .ok (.lmul, 1) := by decide +kernel
theorem dX1_multiply_67 : decode cX1_multiply 67 = .ok (.ladd, 1) := by decide +kernel
theorem dX1_multiply_68 : decode cX1_multiply 68 = .ok (.lstore 5, 2) := by decide +kernel
theorem dX1_multiply_70 : decode cX1_multiply 70 = .ok (.iinc 7 1, 3) := by decide +kernel
theorem dX1_multiply_73 : decode cX1_multiply 73 = .ok (.goto (-58), 3) := by decide +kernel
theorem dX1_multiply_76 : decode cX1_multiply 76 = .ok (.aload_n 0, 1) := by decide +kernel
theorem dX1_multiply_77 : decode cX1_multiply 77 = .ok (.getfield 25, 3) := by decide +kernel
theorem dX1_multiply_80 : decode cX1_multiply 80 = .ok (.iload_n 2, 1) := by decide +kernel
theorem dX1_multiply_81 : decode cX1_multiply 81 = .ok (.iconst 3, 1) := by decide +kernel
theorem dX1_multiply_82 : decode cX1_multiply 82 = .ok (.imul, 1) := by decide +kernel
theorem dX1_multiply_83 : decode cX1_multiply 83 = .ok (.iload 4, 2) := by decide +kernel
theorem dX1_multiply_85 : decode cX1_multiply 85 = .ok (.iadd, 1) := by decide +kernel
theorem dX1_multiply_86 : decode cX1_multiply 86 = .ok (.lload 5, 2) := by decide +kernel
theorem dX1_multiply_88 : decode cX1_multiply 88 = .ok (.lastore, 1) := by decide +kernel
theorem dX1_multiply_89 : decode cX1_multiply 89 = .ok (.iinc 4 1, 3) := by decide +kernel
theorem dX1_multiply_92 : decode cX1_multiply 92 = .ok (.goto (-89), 3) := by decide +kernel
theorem dX1_multiply_95 : decode cX1_multiply 95 = .ok (.return_, 1) := by decide +kernel
def s_X1_multiply_65 (k3 : Nat → Int32 → Int32 → Int32 → Int32 → aH → aO) (k15 : Nat → Int32 → Int32 → Int32 → Int32 → Int64 → Int32 → aH → aO) (l0 : Nat) (l1 : Int32) (l2 : Int32) (l3 : Int32) (l4 : Int32) (l7 : Int32) (s0 : Int32) (s1 : Int64) (s2 : Int64) (h : aH) : aO :=
  k15 l0 l1 l2 l3 l4 (s2 + (s1 * s0.toInt64)) (l7 + 1) h
def s_X1_multiply_15_b (k3 : Nat → Int32 → Int32 → Int32 → Int32 → aH → aO) (k15 : Nat → Int32 → Int32 → Int32 → Int32 → Int64 → Int32 → aH → aO) (l0 : Nat) (l1 : Int32) (l2 : Int32) (l3 : Int32) (l4 : Int32) (l5 : Int64) (l7 : Int32) (h : aH) : aO :=
  if 3 ≤ l7 then ((gO h (.ref l0) 1 7).bind fun x77 => (stJ h (.ref x77) ((l2 * 3) + l4) l5).bind fun h88 => k3 l0 l1 l2 l3 (l4 + 1) h88) else ((gO h (.ref l0) 1 7).bind fun x24 => (ldJ h (.ref x24) ((l1 * 3) + l7)).bind fun x33 => if l3 = 0 then ((gO h (.ref l0) 1 3).bind fun x54 => (ldI .int h (.ref x54) ((l4 * 3) + l7)).bind fun x64 => s_X1_multiply_65 k3 k15 l0 l1 l2 l3 l4 l7 x64 x33 l5 h) else ((gO h (.ref l0) 1 3).bind fun x39 => (ldI .int h (.ref x39) ((l7 * 3) + l4)).bind fun x49 => s_X1_multiply_65 k3 k15 l0 l1 l2 l3 l4 l7 x49 x33 l5 h))
def s_X1_multiply_15 (k3 : Nat → Int32 → Int32 → Int32 → Int32 → aH → aO) (n : Nat) : Nat → Int32 → Int32 → Int32 → Int32 → Int64 → Int32 → aH → aO := lpF (fun _ _ _ _ _ _ _ _ => none) (s_X1_multiply_15_b k3) n
def s_X1_multiply_3_b  (k3 : Nat → Int32 → Int32 → Int32 → Int32 → aH → aO) (l0 : Nat) (l1 : Int32) (l2 : Int32) (l3 : Int32) (l4 : Int32) (h : aH) : aO :=
  if 3 ≤ l4 then (some (.inl none, h)) else (s_X1_multiply_15 k3 FU l0 l1 l2 l3 l4 0 0 h)
def s_X1_multiply_3  (n : Nat) : Nat → Int32 → Int32 → Int32 → Int32 → aH → aO := lpF (fun _ _ _ _ _ _ => none) (s_X1_multiply_3_b ) n
def s_X1_multiply (o : Nat) (a1 : Int32) (a2 : Int32) (a3 : Int32) (h : aH) : aO :=
  s_X1_multiply_3 FU o a1 a2 a3 0 h
section
variable {p : Program} {l : Launch} {e : Env} {s : State} {m : MethodId} {args : Array Value} {below : List Frame} {meth : Method} {c : Code} {D : va_G} {B0 : Nat} {X : Nat → Nat} {ws0 : va_W} {r : aR} {h' : aH} {mc ms : Nat}
theorem t_X1_multiply_65 (C : Cx p l s m args meth c B0 X RX1 "multiply" cX1_multiply 8 none []) {k3 : Nat → Int32 → Int32 → Int32 → Int32 → aH → aO} {k15 : Nat → Int32 → Int32 → Int32 → Int32 → Int64 → Int32 → aH → aO} (K3 : ∀ (l0 : Nat) (l1 : Int32) (l2 : Int32) (l3 : Int32) (l4 : Int32) (h : aH), k3 l0 l1 l2 l3 l4 h = some (r, h') → Ev p l e { frames := 0, cells := mc, slots := ms, locals := 0 } s m args below meth c D B0 X ws0 r h' mc ms 8 mc ms 3 [some (.ref l0), some (.int l1), some (.int l2), some (.int l3), some (.int l4), none, none, none] [] h) (K15 : ∀ (l0 : Nat) (l1 : Int32) (l2 : Int32) (l3 : Int32) (l4 : Int32) (l5 : Int64) (l7 : Int32) (h : aH), k15 l0 l1 l2 l3 l4 l5 l7 h = some (r, h') → Ev p l e { frames := 0, cells := mc, slots := ms, locals := 0 } s m args below meth c D B0 X ws0 r h' mc ms 8 mc ms 15 [some (.ref l0), some (.int l1), some (.int l2), some (.int l3), some (.int l4), some (.long l5), none, some (.int l7)] [] h) {l0 : Nat} {l1 : Int32} {l2 : Int32} {l3 : Int32} {l4 : Int32} {l7 : Int32} {s0 : Int32} {s1 : Int64} {s2 : Int64} {h : aH} (hs : s_X1_multiply_65 k3 k15 l0 l1 l2 l3 l4 l7 s0 s1 s2 h = some (r, h')) : Ev p l e { frames := 0, cells := mc, slots := ms, locals := 0 } s m args below meth c D B0 X ws0 r h' mc ms 8 mc ms 65 [some (.ref l0), some (.int l1), some (.int l2), some (.int l3), some (.int l4), none, none, some (.int l7)] [.int s0, .long s1, .long s2] h := by
  unfold s_X1_multiply_65 at hs
  refine ev_i2l C dX1_multiply_65 ?_
  refine ev_lmul C dX1_multiply_66 ?_
  refine ev_ladd C dX1_multiply_67 ?_
  refine ev_lstore C (by decide) dX1_multiply_68 ?_
  refine ev_iinc C (i := 7) (n := 1) (x := l7) (v := l7 + 1) rfl (congrArg (fun z => l7 + z) (show Int32.ofInt 1 = 1 by decide)) (by decide) dX1_multiply_70 ?_
  refine ev_goto C (tgt := 15) (by decide) dX1_multiply_73 ?_
  exact (K15 _ _ _ _ _ _ _ _ hs)
theorem t_X1_multiply_15_b (C : Cx p l s m args meth c B0 X RX1 "multiply" cX1_multiply 8 none []) {k3 : Nat → Int32 → Int32 → Int32 → Int32 → aH → aO} (K3 : ∀ (l0 : Nat) (l1 : Int32) (l2 : Int32) (l3 : Int32) (l4 : Int32) (h : aH), k3 l0 l1 l2 l3 l4 h = some (r, h') → Ev p l e { frames := 0, cells := mc, slots := ms, locals := 0 } s m args below meth c D B0 X ws0 r h' mc ms 8 mc ms 3 [some (.ref l0), some (.int l1), some (.int l2), some (.int l3), some (.int l4), none, none, none] [] h) {k15 : Nat → Int32 → Int32 → Int32 → Int32 → Int64 → Int32 → aH → aO} (K15 : ∀ (l0 : Nat) (l1 : Int32) (l2 : Int32) (l3 : Int32) (l4 : Int32) (l5 : Int64) (l7 : Int32) (h : aH), k15 l0 l1 l2 l3 l4 l5 l7 h = some (r, h') → Ev p l e { frames := 0, cells := mc, slots := ms, locals := 0 } s m args below meth c D B0 X ws0 r h' mc ms 8 mc ms 15 [some (.ref l0), some (.int l1), some (.int l2), some (.int l3), some (.int l4), some (.long l5), none, some (.int l7)] [] h) {l0 : Nat} {l1 : Int32} {l2 : Int32} {l3 : Int32} {l4 : Int32} {l5 : Int64} {l7 : Int32} {h : aH} (hs : s_X1_multiply_15_b k3 k15 l0 l1 l2 l3 l4 l5 l7 h = some (r, h')) : Ev p l e { frames := 0, cells := mc, slots := ms, locals := 0 } s m args below meth c D B0 X ws0 r h' mc ms 8 mc ms 15 [some (.ref l0), some (.int l1), some (.int l2), some (.int l3), some (.int l4), some (.long l5), none, some (.int l7)] [] h := by
  unfold s_X1_multiply_15_b at hs
  refine ev_iload C rfl dX1_multiply_15 ?_
  refine ev_iconst C (v := 3) dX1_multiply_17 (by decide) ?_
  refine ev_icmp_ge C (tgt := 76) (by decide) dX1_multiply_18 (fun q18 => ?_) (fun q18 => ?_)
  · replace hs := (if_pos q18).symm.trans hs
    refine ev_aload_n C (x := .ref l0) rfl trivial dX1_multiply_76 ?_
    obtain ⟨x77, e77, hs⟩ := aB hs
    refine ev_get C (ci := 1) (k := 7) rfl wu_1 (by decide) wf_X1_25 (gO_F e77) dX1_multiply_77 ?_
    refine ev_iload_n C rfl dX1_multiply_80 ?_
    refine ev_iconst C (v := 3) dX1_multiply_81 (by decide) ?_
    refine ev_imul C dX1_multiply_82 ?_
    refine ev_iload C rfl dX1_multiply_83 ?_
    refine ev_iadd C dX1_multiply_85 ?_
    refine ev_lload C rfl dX1_multiply_86 ?_
    obtain ⟨h88, e88, hs⟩ := aB hs
    refine ev_last C e88 dX1_multiply_88 ?_
    refine ev_iinc C (i := 4) (n := 1) (x := l4) (v := l4 + 1) rfl (congrArg (fun z => l4 + z) (show Int32.ofInt 1 = 1 by decide)) (by decide) dX1_multiply_89 ?_
    refine ev_goto C (tgt := 3) (by decide) dX1_multiply_92 ?_
    exact Ev.keep [true, true, true, true, true, false, true, false] (K3 _ _ _ _ _ _ hs)
  · replace hs := (if_neg q18).symm.trans hs
    refine ev_lload C rfl dX1_multiply_21 ?_
    refine ev_aload_n C (x := .ref l0) rfl trivial dX1_multiply_23 ?_
    obtain ⟨x24, e24, hs⟩ := aB hs
    refine ev_get C (ci := 1) (k := 7) rfl wu_1 (by decide) wf_X1_25 (gO_F e24) dX1_multiply_24 ?_
    refine ev_iload_n C rfl dX1_multiply_27 ?_
    refine ev_iconst C (v := 3) dX1_multiply_28 (by decide) ?_
    refine ev_imul C dX1_multiply_29 ?_
    refine ev_iload C rfl dX1_multiply_30 ?_
    refine ev_iadd C dX1_multiply_32 ?_
    obtain ⟨x33, e33, hs⟩ := aB hs
    refine ev_lald C e33 dX1_multiply_33 ?_
    refine ev_iload_n C rfl dX1_multiply_34 ?_
    refine ev_if_eq C (tgt := 53) (by decide) dX1_multiply_35 (fun q35 => ?_) (fun q35 => ?_)
    · replace hs := (if_pos q35).symm.trans hs
      refine ev_aload_n C (x := .ref l0) rfl trivial dX1_multiply_53 ?_
      obtain ⟨x54, e54, hs⟩ := aB hs
      refine ev_get C (ci := 1) (k := 3) rfl wu_1 (by decide) wf_X1_9 (gO_F e54) dX1_multiply_54 ?_
      refine ev_iload C rfl dX1_multiply_57 ?_
      refine ev_iconst C (v := 3) dX1_multiply_59 (by decide) ?_
      refine ev_imul C dX1_multiply_60 ?_
      refine ev_iload C rfl dX1_multiply_61 ?_
      refine ev_iadd C dX1_multiply_63 ?_
      obtain ⟨x64, e64, hs⟩ := aB hs
      refine ev_iald C e64 dX1_multiply_64 ?_
      exact Ev.keep [true, true, true, true, true, false, true, true] (t_X1_multiply_65 C K3 K15 hs)
    · replace hs := (if_neg q35).symm.trans hs
      refine ev_aload_n C (x := .ref l0) rfl trivial dX1_multiply_38 ?_
      obtain ⟨x39, e39, hs⟩ := aB hs
      refine ev_get C (ci := 1) (k := 3) rfl wu_1 (by decide) wf_X1_9 (gO_F e39) dX1_multiply_39 ?_
      refine ev_iload C rfl dX1_multiply_42 ?_
      refine ev_iconst C (v := 3) dX1_multiply_44 (by decide) ?_
      refine ev_imul C dX1_multiply_45 ?_
      refine ev_iload C rfl dX1_multiply_46 ?_
      refine ev_iadd C dX1_multiply_48 ?_
      obtain ⟨x49, e49, hs⟩ := aB hs
      refine ev_iald C e49 dX1_multiply_49 ?_
      refine ev_goto C (tgt := 65) (by decide) dX1_multiply_50 ?_
      exact Ev.keep [true, true, true, true, true, false, true, true] (t_X1_multiply_65 C K3 K15 hs)
theorem t_X1_multiply_15 (C : Cx p l s m args meth c B0 X RX1 "multiply" cX1_multiply 8 none []) {k3 : Nat → Int32 → Int32 → Int32 → Int32 → aH → aO} (K3 : ∀ (l0 : Nat) (l1 : Int32) (l2 : Int32) (l3 : Int32) (l4 : Int32) (h : aH), k3 l0 l1 l2 l3 l4 h = some (r, h') → Ev p l e { frames := 0, cells := mc, slots := ms, locals := 0 } s m args below meth c D B0 X ws0 r h' mc ms 8 mc ms 3 [some (.ref l0), some (.int l1), some (.int l2), some (.int l3), some (.int l4), none, none, none] [] h) : ∀ (n : Nat) {l0 : Nat} {l1 : Int32} {l2 : Int32} {l3 : Int32} {l4 : Int32} {l5 : Int64} {l7 : Int32} {h : aH} (hs : s_X1_multiply_15 k3 n l0 l1 l2 l3 l4 l5 l7 h = some (r, h')), Ev p l e { frames := 0, cells := mc, slots := ms, locals := 0 } s m args below meth c D B0 X ws0 r h' mc ms 8 mc ms 15 [some (.ref l0), some (.int l1), some (.int l2), some (.int l3), some (.int l4), some (.long l5), none, some (.int l7)] [] h
  | 0, _, _, _, _, _, _, _, _, hs => nomatch hs
  | n + 1, _, _, _, _, _, _, _, _, hs => t_X1_multiply_15_b C K3 (k15 := s_X1_multiply_15 k3 n) (fun _ _ _ _ _ _ _ _ hs => t_X1_multiply_15 C K3 n hs) hs
theorem t_X1_multiply_3_b (C : Cx p l s m args meth c B0 X RX1 "multiply" cX1_multiply 8 none [])   {k3 : Nat → Int32 → Int32 → Int32 → Int32 → aH → aO} (K3 : ∀ (l0 : Nat) (l1 : Int32) (l2 : Int32) (l3 : Int32) (l4 : Int32) (h : aH), k3 l0 l1 l2 l3 l4 h = some (r, h') → Ev p l e { frames := 0, cells := mc, slots := ms, locals := 0 } s m args below meth c D B0 X ws0 r h' mc ms 8 mc ms 3 [some (.ref l0), some (.int l1), some (.int l2), some (.int l3), some (.int l4), none, none, none] [] h) {l0 : Nat} {l1 : Int32} {l2 : Int32} {l3 : Int32} {l4 : Int32} {h : aH} (hs : s_X1_multiply_3_b  k3 l0 l1 l2 l3 l4 h = some (r, h')) : Ev p l e { frames := 0, cells := mc, slots := ms, locals := 0 } s m args below meth c D B0 X ws0 r h' mc ms 8 mc ms 3 [some (.ref l0), some (.int l1), some (.int l2), some (.int l3), some (.int l4), none, none, none] [] h := by
  unfold s_X1_multiply_3_b at hs
  refine ev_iload C rfl dX1_multiply_3 ?_
  refine ev_iconst C (v := 3) dX1_multiply_5 (by decide) ?_
  refine ev_icmp_ge C (tgt := 95) (by decide) dX1_multiply_6 (fun q6 => ?_) (fun q6 => ?_)
  · replace hs := (if_pos q6).symm.trans hs
    cases hs
    exact ev_vret C rfl rfl (Nat.le_refl _) (Nat.le_refl _) rfl dX1_multiply_95
  · replace hs := (if_neg q6).symm.trans hs
    refine ev_lconst C (v := 0) dX1_multiply_9 (by decide) ?_
    refine ev_lstore C (by decide) dX1_multiply_10 ?_
    refine ev_iconst C (v := 0) dX1_multiply_12 (by decide) ?_
    refine ev_istore C (by decide) dX1_multiply_13 ?_
    exact (t_X1_multiply_15 C K3 FU hs)
theorem t_X1_multiply_3 (C : Cx p l s m args meth c B0 X RX1 "multiply" cX1_multiply 8 none [])   : ∀ (n : Nat) {l0 : Nat} {l1 : Int32} {l2 : Int32} {l3 : Int32} {l4 : Int32} {h : aH} (hs : s_X1_multiply_3  n l0 l1 l2 l3 l4 h = some (r, h')), Ev p l e { frames := 0, cells := mc, slots := ms, locals := 0 } s m args below meth c D B0 X ws0 r h' mc ms 8 mc ms 3 [some (.ref l0), some (.int l1), some (.int l2), some (.int l3), some (.int l4), none, none, none] [] h
  | 0, _, _, _, _, _, _, hs => nomatch hs
  | n + 1, _, _, _, _, _, _, hs => t_X1_multiply_3_b C  (k3 := s_X1_multiply_3  n) (fun _ _ _ _ _ _ hs => t_X1_multiply_3 C  n hs) hs
theorem hy_X1_multiply : yX1_multiply.cls ≠ "java/lang/invoke/MethodHandle" ∧ yX1_multiply.cls ≠ "java/lang/invoke/VarHandle" ∧ (parseMethodDescriptor yX1_multiply.desc).map (fun d => d.parameters.length) = some 3 := by decide +kernel
theorem T_X1_multiply (o : Nat) (a1 : Int32) (a2 : Int32) (a3 : Int32) (h : aH) (r : aR) (h' : aH) (hs : s_X1_multiply o a1 a2 a3 h = some (r, h')) : Mt yX1_multiply (Cond.code yX1_multiply cX1_multiply 8 none :: aTB) 0 0 0 0 [.ref o, .int a1, .int a2, .int a3] h r h' := by
  unfold s_X1_multiply at hs
  refine Mt_of (k := 4) (by decide) rfl (fun p l e s m args below meth c D B0 X ws0 C => ?_)
  show Ev p l e { frames := 0, cells := 0, slots := 0, locals := 0 } s m args below meth c D B0 X ws0 r h' 0 0 8 0 0 0 [some (.ref o), some (.int a1), some (.int a2), some (.int a3), none, none, none, none] [] h
  refine ev_iconst C (v := 0) dX1_multiply_0 (by decide) ?_
  refine ev_istore C (by decide) dX1_multiply_1 ?_
  exact (t_X1_multiply_3 C  FU hs)
end
-- X1_anyTriple
theorem dX1_anyTriple_0 : decode cX1_anyTriple 0 = .ok (.iconst 0, 1) := by decide +kernel
theorem dX1_anyTriple_1 : decode cX1_anyTriple 1 = .ok (.istore_n 2, 1) := by decide +kernel
theorem dX1_anyTriple_2 : decode cX1_anyTriple 2 = .ok (.iload_n 2, 1) := by decide +kernel
theorem dX1_anyTriple_3 : decode cX1_anyTriple 3 = .ok (.iload_n 1, 1) := by decide +kernel
theorem dX1_anyTriple_4 : decode cX1_anyTriple 4 = .ok (.if_icmp .ge 56, 3) := by decide +kernel
theorem dX1_anyTriple_7 : decode cX1_anyTriple 7 = .ok (.iload_n 2, 1) := by decide +kernel
theorem dX1_anyTriple_8 : decode cX1_anyTriple 8 = .ok (.iconst 1, 1) := by decide +kernel
theorem dX1_anyTriple_9 : decode cX1_anyTriple 9 = .ok (.iadd, 1) := by decide +kernel
theorem dX1_anyTriple_10 : decode cX1_anyTriple 10 = .ok (.istore_n 3, 1) := by decide +kernel
theorem dX1_anyTriple_11 : decode cX1_anyTriple 11 = .ok (.iload_n 3, 1) := by decide +kernel
theorem dX1_anyTriple_12 : decode cX1_anyTriple 12 = .ok (.iload_n 1, 1) := by decide +kernel
theorem dX1_anyTriple_13 : decode cX1_anyTriple 13 = .ok (.if_icmp .ge 41, 3) := by decide +kernel
theorem dX1_anyTriple_16 : decode cX1_anyTriple 16 = .ok (.iload_n 3, 1) := by decide +kernel
theorem dX1_anyTriple_17 : decode cX1_anyTriple 17 = .ok (.iconst 1, 1) := by decide +kernel
theorem dX1_anyTriple_18 : decode cX1_anyTriple 18 = .ok (.iadd, 1) := by decide +kernel
theorem dX1_anyTriple_19 : decode cX1_anyTriple 19 = .ok (.istore 4, 2) := by decide +kernel
theorem dX1_anyTriple_21 : decode cX1_anyTriple 21 = .ok (.iload 4, 2) := by decide +kernel
theorem dX1_anyTriple_23 : decode cX1_anyTriple 23 = .ok (.iload_n 1, 1) := by decide +kernel
theorem dX1_anyTriple_24 : decode cX1_anyTriple 24 = .ok (.if_icmp .ge 24, 3) := by decide +kernel
theorem dX1_anyTriple_27 : decode cX1_anyTriple 27 = .ok (.aload_n 0, 1) := by decide +kernel
theorem dX1_anyTriple_28 : decode cX1_anyTriple 28 = .ok (.iload_n 2, 1) := by decide +kernel
theorem dX1_anyTriple_29 : decode cX1_anyTriple 29 = .ok (.iload_n 3, 1) := by decide +kernel
theorem dX1_anyTriple_30 : decode cX1_anyTriple 30 = .ok (.iload 4, 2) := by decide +kernel
theorem dX1_anyTriple_32 : decode cX1_anyTriple 32 = .ok (.invokevirtual 140, 3) := by decide +kernel
theorem dX1_anyTriple_35 : decode cX1_anyTriple 35 = .ok (.lconst 0, 1) := by decide +kernel
theorem dX1_anyTriple_36 : decode cX1_anyTriple 36 = .ok (.lcmp, 1) := by decide +kernel
theorem dX1_anyTriple_37 : decode cX1_anyTriple 37 = .ok (.ifCond .eq 5, 3) := by decide +kernel
theorem dX1_anyTriple_40 : decode cX1_anyTriple 40 = .ok (.iconst 1, 1) := by decide +kernel
theorem dX1_anyTriple_41 : decode cX1_anyTriple 41 = .ok (.ireturn, 1) := by decide +kernel
theorem dX1_anyTriple_42 : decode cX1_anyTriple 42 = .ok (.iinc 4 1, 3) := by decide +kernel
theorem dX1_anyTriple_45 : decode cX1_anyTriple 45 = .ok (.goto (-24), 3) := by decide +kernel
theorem dX1_anyTriple_48 : decode cX1_anyTriple 48 = .ok (.iinc 3 1, 3) := by decide +kernel
theorem dX1_anyTriple_51 : decode cX1_anyTriple 51 = .ok (.goto (-40), 3) := by decide +kernel
theorem dX1_anyTriple_54 : decode cX1_anyTriple 54 = .ok (.iinc 2 1, 3) := by decide +kernel
theorem dX1_anyTriple_57 : decode cX1_anyTriple 57 = .ok (.goto (-55), 3) := by decide +kernel
theorem dX1_anyTriple_60 : decode cX1_anyTriple 60 = .ok (.iconst 0, 1) := by decide +kernel
theorem dX1_anyTriple_61 : decode cX1_anyTriple 61 = .ok (.ireturn, 1) := by decide +kernel
def s_X1_anyTriple_21_b (k2 : Nat → Int32 → Int32 → aH → aO) (k11 : Nat → Int32 → Int32 → Int32 → aH → aO) (k21 : Nat → Int32 → Int32 → Int32 → Int32 → aH → aO) (l0 : Nat) (l1 : Int32) (l2 : Int32) (l3 : Int32) (l4 : Int32) (h : aH) : aO :=
  if l1 ≤ l4 then (k11 l0 l1 l2 (l3 + 1) h) else (kO h l0 1 (cJ (s_X1_determinant l0 l2 l3 l4 h) fun x32 h32 => if (lg_cmp x32 0) = 0 then (k21 l0 l1 l2 l3 (l4 + 1) h32) else (rtZ 1 h32)))
def s_X1_anyTriple_21 (k2 : Nat → Int32 → Int32 → aH → aO) (k11 : Nat → Int32 → Int32 → Int32 → aH → aO) (n : Nat) : Nat → Int32 → Int32 → Int32 → Int32 → aH → aO := lpF (fun _ _ _ _ _ _ => none) (s_X1_anyTriple_21_b k2 k11) n
def s_X1_anyTriple_11_b (k2 : Nat → Int32 → Int32 → aH → aO) (k11 : Nat → Int32 → Int32 → Int32 → aH → aO) (l0 : Nat) (l1 : Int32) (l2 : Int32) (l3 : Int32) (h : aH) : aO :=
  if l1 ≤ l3 then (k2 l0 l1 (l2 + 1) h) else (s_X1_anyTriple_21 k2 k11 FU l0 l1 l2 l3 (l3 + 1) h)
def s_X1_anyTriple_11 (k2 : Nat → Int32 → Int32 → aH → aO) (n : Nat) : Nat → Int32 → Int32 → Int32 → aH → aO := lpF (fun _ _ _ _ _ => none) (s_X1_anyTriple_11_b k2) n
def s_X1_anyTriple_2_b  (k2 : Nat → Int32 → Int32 → aH → aO) (l0 : Nat) (l1 : Int32) (l2 : Int32) (h : aH) : aO :=
  if l1 ≤ l2 then (rtZ 0 h) else (s_X1_anyTriple_11 k2 FU l0 l1 l2 (l2 + 1) h)
def s_X1_anyTriple_2  (n : Nat) : Nat → Int32 → Int32 → aH → aO := lpF (fun _ _ _ _ => none) (s_X1_anyTriple_2_b ) n
def s_X1_anyTriple (o : Nat) (a1 : Int32) (h : aH) : aO :=
  s_X1_anyTriple_2 FU o a1 0 h
section
variable {p : Program} {l : Launch} {e : Env} {s : State} {m : MethodId} {args : Array Value} {below : List Frame} {meth : Method} {c : Code} {D : va_G} {B0 : Nat} {X : Nat → Nat} {ws0 : va_W} {r : aR} {h' : aH} {mc ms : Nat}
theorem t_X1_anyTriple_21_b (C : Cx p l s m args meth c B0 X RX1 "anyTriple" cX1_anyTriple 5 (some .boolean) []) {k2 : Nat → Int32 → Int32 → aH → aO} {k11 : Nat → Int32 → Int32 → Int32 → aH → aO} (K2 : ∀ (l0 : Nat) (l1 : Int32) (l2 : Int32) (h : aH), k2 l0 l1 l2 h = some (r, h') → Ev p l e { frames := 1, cells := mc, slots := ms, locals := 26 } s m args below meth c D B0 X ws0 r h' mc ms 5 mc ms 2 [some (.ref l0), some (.int l1), some (.int l2), none, none] [] h) (K11 : ∀ (l0 : Nat) (l1 : Int32) (l2 : Int32) (l3 : Int32) (h : aH), k11 l0 l1 l2 l3 h = some (r, h') → Ev p l e { frames := 1, cells := mc, slots := ms, locals := 26 } s m args below meth c D B0 X ws0 r h' mc ms 5 mc ms 11 [some (.ref l0), some (.int l1), some (.int l2), some (.int l3), none] [] h) {k21 : Nat → Int32 → Int32 → Int32 → Int32 → aH → aO} (K21 : ∀ (l0 : Nat) (l1 : Int32) (l2 : Int32) (l3 : Int32) (l4 : Int32) (h : aH), k21 l0 l1 l2 l3 l4 h = some (r, h') → Ev p l e { frames := 1, cells := mc, slots := ms, locals := 26 } s m args below meth c D B0 X ws0 r h' mc ms 5 mc ms 21 [some (.ref l0), some (.int l1), some (.int l2), some (.int l3), some (.int l4)] [] h) {l0 : Nat} {l1 : Int32} {l2 : Int32} {l3 : Int32} {l4 : Int32} {h : aH} (hs : s_X1_anyTriple_21_b k2 k11 k21 l0 l1 l2 l3 l4 h = some (r, h')) : Ev p l e { frames := 1, cells := mc, slots := ms, locals := 26 } s m args below meth c D B0 X ws0 r h' mc ms 5 mc ms 21 [some (.ref l0), some (.int l1), some (.int l2), some (.int l3), some (.int l4)] [] h := by
  unfold s_X1_anyTriple_21_b at hs
  refine ev_iload C rfl dX1_anyTriple_21 ?_
  refine ev_iload_n C rfl dX1_anyTriple_23 ?_
  refine ev_icmp_ge C (tgt := 48) (by decide) dX1_anyTriple_24 (fun q24 => ?_) (fun q24 => ?_)
  · replace hs := (if_pos q24).symm.trans hs
    refine ev_iinc C (i := 3) (n := 1) (x := l3) (v := l3 + 1) rfl (congrArg (fun z => l3 + z) (show Int32.ofInt 1 = 1 by decide)) (by decide) dX1_anyTriple_48 ?_
    refine ev_goto C (tgt := 11) (by decide) dX1_anyTriple_51 ?_
    exact Ev.keep [true, true, true, true, false] (K11 _ _ _ _ _ hs)
  · replace hs := (if_neg q24).symm.trans hs
    refine ev_aload_n C (x := .ref l0) rfl trivial dX1_anyTriple_27 ?_
    refine ev_iload_n C rfl dX1_anyTriple_28 ?_
    refine ev_iload_n C rfl dX1_anyTriple_29 ?_
    refine ev_iload C rfl dX1_anyTriple_30 ?_
    obtain ⟨eo32, hs⟩ := kO_at hs
    obtain ⟨x32, h32, e32, hs⟩ := cJ_at hs
    refine ev_callV C (T_X1_determinant _ _ _ _ _ _ _ e32) (ci := 1) rfl eo32 wc_X1_determinant wm_X1_140 wi_X1_determinant ws_X1_determinant wz_X1 hy_X1_determinant ⟨(Nat.le_of_ble_eq_true rfl), (Nat.le_of_ble_eq_true rfl)⟩ ⟨(Nat.le_refl _), (Nat.le_refl _)⟩ (Nat.le_of_ble_eq_true rfl) rfl dX1_anyTriple_32 ?_
    refine ev_lconst C (v := 0) dX1_anyTriple_35 (by decide) ?_
    refine ev_lcmp C dX1_anyTriple_36 ?_
    refine ev_if_eq C (tgt := 42) (by decide) dX1_anyTriple_37 (fun q37 => ?_) (fun q37 => ?_)
    · replace hs := (if_pos q37).symm.trans hs
      refine ev_iinc C (i := 4) (n := 1) (x := l4) (v := l4 + 1) rfl (congrArg (fun z => l4 + z) (show Int32.ofInt 1 = 1 by decide)) (by decide) dX1_anyTriple_42 ?_
      refine ev_goto C (tgt := 21) (by decide) dX1_anyTriple_45 ?_
      exact (K21 _ _ _ _ _ _ hs)
    · replace hs := (if_neg q37).symm.trans hs
      refine ev_iconst C (v := 1) dX1_anyTriple_40 (by decide) ?_
      obtain ⟨hz, rfl, rfl⟩ := rtZ_at hs
      exact ev_zret C rfl hz rfl (Nat.le_refl _) (Nat.le_refl _) rfl dX1_anyTriple_41
theorem t_X1_anyTriple_21 (C : Cx p l s m args meth c B0 X RX1 "anyTriple" cX1_anyTriple 5 (some .boolean) []) {k2 : Nat → Int32 → Int32 → aH → aO} {k11 : Nat → Int32 → Int32 → Int32 → aH → aO} (K2 : ∀ (l0 : Nat) (l1 : Int32) (l2 : Int32) (h : aH), k2 l0 l1 l2 h = some (r, h') → Ev p l e { frames := 1, cells := mc, slots := ms, locals := 26 } s m args below meth c D B0 X ws0 r h' mc ms 5 mc ms 2 [some (.ref l0), some (.int l1), some (.int l2), none, none] [] h) (K11 : ∀ (l0 : Nat) (l1 : Int32) (l2 : Int32) (l3 : Int32) (h : aH), k11 l0 l1 l2 l3 h = some (r, h') → Ev p l e { frames := 1, cells := mc, slots := ms, locals := 26 } s m args below meth c D B0 X ws0 r h' mc ms 5 mc ms 11 [some (.ref l0), some (.int l1), some (.int l2), some (.int l3), none] [] h) : ∀ (n : Nat) {l0 : Nat} {l1 : Int32} {l2 : Int32} {l3 : Int32} {l4 : Int32} {h : aH} (hs : s_X1_anyTriple_21 k2 k11 n l0 l1 l2 l3 l4 h = some (r, h')), Ev p l e { frames := 1, cells := mc, slots := ms, locals := 26 } s m args below meth c D B0 X ws0 r h' mc ms 5 mc ms 21 [some (.ref l0), some (.int l1), some (.int l2), some (.int l3), some (.int l4)] [] h
  | 0, _, _, _, _, _, _, hs => nomatch hs
  | n + 1, _, _, _, _, _, _, hs => t_X1_anyTriple_21_b C K2 K11 (k21 := s_X1_anyTriple_21 k2 k11 n) (fun _ _ _ _ _ _ hs => t_X1_anyTriple_21 C K2 K11 n hs) hs
theorem t_X1_anyTriple_11_b (C : Cx p l s m args meth c B0 X RX1 "anyTriple" cX1_anyTriple 5 (some .boolean) []) {k2 : Nat → Int32 → Int32 → aH → aO} (K2 : ∀ (l0 : Nat) (l1 : Int32) (l2 : Int32) (h : aH), k2 l0 l1 l2 h = some (r, h') → Ev p l e { frames := 1, cells := mc, slots := ms, locals := 26 } s m args below meth c D B0 X ws0 r h' mc ms 5 mc ms 2 [some (.ref l0), some (.int l1), some (.int l2), none, none] [] h) {k11 : Nat → Int32 → Int32 → Int32 → aH → aO} (K11 : ∀ (l0 : Nat) (l1 : Int32) (l2 : Int32) (l3 : Int32) (h : aH), k11 l0 l1 l2 l3 h = some (r, h') → Ev p l e { frames := 1, cells := mc, slots := ms, locals := 26 } s m args below meth c D B0 X ws0 r h' mc ms 5 mc ms 11 [some (.ref l0), some (.int l1), some (.int l2), some (.int l3), none] [] h) {l0 : Nat} {l1 : Int32} {l2 : Int32} {l3 : Int32} {h : aH} (hs : s_X1_anyTriple_11_b k2 k11 l0 l1 l2 l3 h = some (r, h')) : Ev p l e { frames := 1, cells := mc, slots := ms, locals := 26 } s m args below meth c D B0 X ws0 r h' mc ms 5 mc ms 11 [some (.ref l0), some (.int l1), some (.int l2), some (.int l3), none] [] h := by
  unfold s_X1_anyTriple_11_b at hs
  refine ev_iload_n C rfl dX1_anyTriple_11 ?_
  refine ev_iload_n C rfl dX1_anyTriple_12 ?_
  refine ev_icmp_ge C (tgt := 54) (by decide) dX1_anyTriple_13 (fun q13 => ?_) (fun q13 => ?_)
  · replace hs := (if_pos q13).symm.trans hs
    refine ev_iinc C (i := 2) (n := 1) (x := l2) (v := l2 + 1) rfl (congrArg (fun z => l2 + z) (show Int32.ofInt 1 = 1 by decide)) (by decide) dX1_anyTriple_54 ?_
    refine ev_goto C (tgt := 2) (by decide) dX1_anyTriple_57 ?_
    exact Ev.keep [true, true, true, false, true] (K2 _ _ _ _ hs)
  · replace hs := (if_neg q13).symm.trans hs
    refine ev_iload_n C rfl dX1_anyTriple_16 ?_
    refine ev_iconst C (v := 1) dX1_anyTriple_17 (by decide) ?_
    refine ev_iadd C dX1_anyTriple_18 ?_
    refine ev_istore C (by decide) dX1_anyTriple_19 ?_
    exact (t_X1_anyTriple_21 C K2 K11 FU hs)
theorem t_X1_anyTriple_11 (C : Cx p l s m args meth c B0 X RX1 "anyTriple" cX1_anyTriple 5 (some .boolean) []) {k2 : Nat → Int32 → Int32 → aH → aO} (K2 : ∀ (l0 : Nat) (l1 : Int32) (l2 : Int32) (h : aH), k2 l0 l1 l2 h = some (r, h') → Ev p l e { frames := 1, cells := mc, slots := ms, locals := 26 } s m args below meth c D B0 X ws0 r h' mc ms 5 mc ms 2 [some (.ref l0), some (.int l1), some (.int l2), none, none] [] h) : ∀ (n : Nat) {l0 : Nat} {l1 : Int32} {l2 : Int32} {l3 : Int32} {h : aH} (hs : s_X1_anyTriple_11 k2 n l0 l1 l2 l3 h = some (r, h')), Ev p l e { frames := 1, cells := mc, slots := ms, locals := 26 } s m args below meth c D B0 X ws0 r h' mc ms 5 mc ms 11 [some (.ref l0), some (.int l1), some (.int l2), some (.int l3), none] [] h
  | 0, _, _, _, _, _, hs => nomatch hs
  | n + 1, _, _, _, _, _, hs => t_X1_anyTriple_11_b C K2 (k11 := s_X1_anyTriple_11 k2 n) (fun _ _ _ _ _ hs => t_X1_anyTriple_11 C K2 n hs) hs
theorem t_X1_anyTriple_2_b (C : Cx p l s m args meth c B0 X RX1 "anyTriple" cX1_anyTriple 5 (some .boolean) [])   {k2 : Nat → Int32 → Int32 → aH → aO} (K2 : ∀ (l0 : Nat) (l1 : Int32) (l2 : Int32) (h : aH), k2 l0 l1 l2 h = some (r, h') → Ev p l e { frames := 1, cells := mc, slots := ms, locals := 26 } s m args below meth c D B0 X ws0 r h' mc ms 5 mc ms 2 [some (.ref l0), some (.int l1), some (.int l2), none, none] [] h) {l0 : Nat} {l1 : Int32} {l2 : Int32} {h : aH} (hs : s_X1_anyTriple_2_b  k2 l0 l1 l2 h = some (r, h')) : Ev p l e { frames := 1, cells := mc, slots := ms, locals := 26 } s m args below meth c D B0 X ws0 r h' mc ms 5 mc ms 2 [some (.ref l0), some (.int l1), some (.int l2), none, none] [] h := by
  unfold s_X1_anyTriple_2_b at hs
  refine ev_iload_n C rfl dX1_anyTriple_2 ?_
  refine ev_iload_n C rfl dX1_anyTriple_3 ?_
  refine ev_icmp_ge C (tgt := 60) (by decide) dX1_anyTriple_4 (fun q4 => ?_) (fun q4 => ?_)
  · replace hs := (if_pos q4).symm.trans hs
    refine ev_iconst C (v := 0) dX1_anyTriple_60 (by decide) ?_
    obtain ⟨hz, rfl, rfl⟩ := rtZ_at hs
    exact ev_zret C rfl hz rfl (Nat.le_refl _) (Nat.le_refl _) rfl dX1_anyTriple_61
  · replace hs := (if_neg q4).symm.trans hs
    refine ev_iload_n C rfl dX1_anyTriple_7 ?_
    refine ev_iconst C (v := 1) dX1_anyTriple_8 (by decide) ?_
    refine ev_iadd C dX1_anyTriple_9 ?_
    refine ev_istore_n C (by decide) dX1_anyTriple_10 ?_
    exact (t_X1_anyTriple_11 C K2 FU hs)
theorem t_X1_anyTriple_2 (C : Cx p l s m args meth c B0 X RX1 "anyTriple" cX1_anyTriple 5 (some .boolean) [])   : ∀ (n : Nat) {l0 : Nat} {l1 : Int32} {l2 : Int32} {h : aH} (hs : s_X1_anyTriple_2  n l0 l1 l2 h = some (r, h')), Ev p l e { frames := 1, cells := mc, slots := ms, locals := 26 } s m args below meth c D B0 X ws0 r h' mc ms 5 mc ms 2 [some (.ref l0), some (.int l1), some (.int l2), none, none] [] h
  | 0, _, _, _, _, hs => nomatch hs
  | n + 1, _, _, _, _, hs => t_X1_anyTriple_2_b C  (k2 := s_X1_anyTriple_2  n) (fun _ _ _ _ hs => t_X1_anyTriple_2 C  n hs) hs
theorem hy_X1_anyTriple : yX1_anyTriple.cls ≠ "java/lang/invoke/MethodHandle" ∧ yX1_anyTriple.cls ≠ "java/lang/invoke/VarHandle" ∧ (parseMethodDescriptor yX1_anyTriple.desc).map (fun d => d.parameters.length) = some 1 := by decide +kernel
theorem T_X1_anyTriple (o : Nat) (a1 : Int32) (h : aH) (r : aR) (h' : aH) (hs : s_X1_anyTriple o a1 h = some (r, h')) : Mt yX1_anyTriple (Cond.code yX1_anyTriple cX1_anyTriple 5 (some .boolean) :: aTB) 1 26 0 0 [.ref o, .int a1] h r h' := by
  unfold s_X1_anyTriple at hs
  refine Mt_of (k := 3) (by decide) rfl (fun p l e s m args below meth c D B0 X ws0 C => ?_)
  show Ev p l e { frames := 1, cells := 0, slots := 0, locals := 26 } s m args below meth c D B0 X ws0 r h' 0 0 5 0 0 0 [some (.ref o), some (.int a1), none, none, none] [] h
  refine ev_iconst C (v := 0) dX1_anyTriple_0 (by decide) ?_
  refine ev_istore_n C (by decide) dX1_anyTriple_1 ?_
  exact (t_X1_anyTriple_2 C  FU hs)
end
-- X1_minor
theorem dX1_minor_0 : decode cX1_minor 0 = .ok (.aload_n 0, 1) := by decide +kernel
theorem dX1_minor_1 : decode cX1_minor 1 = .ok (.getfield 25, 3) := by decide +kernel
theorem dX1_minor_4 : decode cX1_minor 4 = .ok (.iload_n 1, 1) := by decide +kernel
theorem dX1_minor_5 : decode cX1_minor 5 = .ok (.iconst 3, 1) := by decide +kernel
theorem dX1_minor_6 : decode cX1_minor 6 = .ok (.imul, 1) := by decide +kernel
theorem dX1_minor_7 : decode cX1_minor 7 = .ok (.iload_n 3, 1) := by decide +kernel
theorem dX1_minor_8 : decode cX1_minor 8 = .ok (.iadd, 1) := by decide +kernel
theorem dX1_minor_9 : decode cX1_minor 9 = .ok (.laload, 1) := by decide +kernel
theorem dX1_minor_10 : decode cX1_minor 10 = .ok (.aload_n 0, 1) := by decide +kernel
theorem dX1_minor_11 : decode cX1_minor 11 = .ok (.getfield 25, 3) := by decide +kernel
theorem dX1_minor_14 : decode cX1_minor 14 = .ok (.iload_n 2, 1) := by decide +kernel
theorem dX1_minor_15 : decode cX1_minor 15 = .ok (.iconst 3, 1) := by decide +kernel
theorem dX1_minor_16 : decode cX1_minor 16 = .ok (.imul, 1) := by decide +kernel
theorem dX1_minor_17 : decode cX1_minor 17 = .ok (.iload 4, 2) := by decide +kernel
theorem dX1_minor_19 : decode cX1_minor 19 = .ok (.iadd, 1) := by decide +kernel
theorem dX1_minor_20 : decode cX1_minor 20 = .ok (.laload, 1) := by decide +kernel
theorem dX1_minor_21 : decode cX1_minor 21 = .ok (.lmul, 1) := by decide +kernel
theorem dX1_minor_22 : decode cX1_minor 22 = .ok (.aload_n 0, 1) := by decide +kernel
theorem dX1_minor_23 : decode cX1_minor 23 = .ok (.getfield 25, 3) := by decide +kernel
theorem dX1_minor_26 : decode cX1_minor 26 = .ok (.iload_n 1, 1) := by decide +kernel
theorem dX1_minor_27 : decode cX1_minor 27 = .ok (.iconst 3, 1) := by decide +kernel
theorem dX1_minor_28 : decode cX1_minor 28 = .ok (.imul, 1) := by decide +kernel
theorem dX1_minor_29 : decode cX1_minor 29 = .ok (.iload 4, 2) := by decide +kernel
theorem dX1_minor_31 : decode cX1_minor 31 = .ok (.iadd, 1) := by decide +kernel
theorem dX1_minor_32 : decode cX1_minor 32 = .ok (.laload, 1) := by decide +kernel
theorem dX1_minor_33 : decode cX1_minor 33 = .ok (.aload_n 0, 1) := by decide +kernel
theorem dX1_minor_34 : decode cX1_minor 34 = .ok (.getfield 25, 3) := by decide +kernel
theorem dX1_minor_37 : decode cX1_minor 37 = .ok (.iload_n 2, 1) := by decide +kernel
theorem dX1_minor_38 : decode cX1_minor 38 = .ok (.iconst 3, 1) := by decide +kernel
theorem dX1_minor_39 : decode cX1_minor 39 = .ok (.imul, 1) := by decide +kernel
theorem dX1_minor_40 : decode cX1_minor 40 = .ok (.iload_n 3, 1) := by decide +kernel
theorem dX1_minor_41 : decode cX1_minor 41 = .ok (.iadd, 1) := by decide +kernel
theorem dX1_minor_42 : decode cX1_minor 42 = .ok (.laload, 1) := by decide +kernel
theorem dX1_minor_43 : decode cX1_minor 43 = .ok (.lmul, 1) := by decide +kernel
theorem dX1_minor_44 : decode cX1_minor 44 = .ok (.lsub, 1) := by decide +kernel
theorem dX1_minor_45 : decode cX1_minor 45 = .ok (.lreturn, 1) := by decide +kernel
def s_X1_minor (o : Nat) (a1 : Int32) (a2 : Int32) (a3 : Int32) (a4 : Int32) (h : aH) : aO :=
  (gO h (.ref o) 1 7).bind fun x1 => (ldJ h (.ref x1) ((a1 * 3) + a3)).bind fun x9 => (gO h (.ref o) 1 7).bind fun x11 => (ldJ h (.ref x11) ((a2 * 3) + a4)).bind fun x20 => (gO h (.ref o) 1 7).bind fun x23 => (ldJ h (.ref x23) ((a1 * 3) + a4)).bind fun x32 => (gO h (.ref o) 1 7).bind fun x34 => (ldJ h (.ref x34) ((a2 * 3) + a3)).bind fun x42 => some (.inl (some (.long ((x9 * x20) - (x32 * x42)))), h)
section
variable {p : Program} {l : Launch} {e : Env} {s : State} {m : MethodId} {args : Array Value} {below : List Frame} {meth : Method} {c : Code} {D : va_G} {B0 : Nat} {X : Nat → Nat} {ws0 : va_W} {r : aR} {h' : aH} {mc ms : Nat}
theorem hy_X1_minor : yX1_minor.cls ≠ "java/lang/invoke/MethodHandle" ∧ yX1_minor.cls ≠ "java/lang/invoke/VarHandle" ∧ (parseMethodDescriptor yX1_minor.desc).map (fun d => d.parameters.length) = some 4 := by decide +kernel
theorem T_X1_minor (o : Nat) (a1 : Int32) (a2 : Int32) (a3 : Int32) (a4 : Int32) (h : aH) (r : aR) (h' : aH) (hs : s_X1_minor o a1 a2 a3 a4 h = some (r, h')) : Mt yX1_minor (Cond.code yX1_minor cX1_minor 5 (some .long) :: aTB) 0 0 0 0 [.ref o, .int a1, .int a2, .int a3, .int a4] h r h' := by
  unfold s_X1_minor at hs
  refine Mt_of (k := 0) (by decide) rfl (fun p l e s m args below meth c D B0 X ws0 C => ?_)
  show Ev p l e { frames := 0, cells := 0, slots := 0, locals := 0 } s m args below meth c D B0 X ws0 r h' 0 0 5 0 0 0 [some (.ref o), some (.int a1), some (.int a2), some (.int a3), some (.int a4)] [] h
  refine ev_aload_n C (x := .ref o) rfl trivial dX1_minor_0 ?_
  obtain ⟨x1, e1, hs⟩ := aB hs
  refine ev_get C (ci := 1) (k := 7) rfl wu_1 (by decide) wf_X1_25 (gO_F e1) dX1_minor_1 ?_
  refine ev_iload_n C rfl dX1_minor_4 ?_
  refine ev_iconst C (v := 3) dX1_minor_5 (by decide) ?_
  refine ev_imul C dX1_minor_6 ?_
  refine ev_iload_n C rfl dX1_minor_7 ?_
  refine ev_iadd C dX1_minor_8 ?_
  obtain ⟨x9, e9, hs⟩ := aB hs
  refine ev_lald C e9 dX1_minor_9 ?_
  refine ev_aload_n C (x := .ref o) rfl trivial dX1_minor_10 ?_
  obtain ⟨x11, e11, hs⟩ := aB hs
  refine ev_get C (ci := 1) (k := 7) rfl wu_1 (by decide) wf_X1_25 (gO_F e11) dX1_minor_11 ?_
  refine ev_iload_n C rfl dX1_minor_14 ?_
  refine ev_iconst C (v := 3) dX1_minor_15 (by decide) ?_
  refine ev_imul C dX1_minor_16 ?_
  refine ev_iload C rfl dX1_minor_17 ?_
  refine ev_iadd C dX1_minor_19 ?_
  obtain ⟨x20, e20, hs⟩ := aB hs
  refine ev_lald C e20 dX1_minor_20 ?_
  refine ev_lmul C dX1_minor_21 ?_
  refine ev_aload_n C (x := .ref o) rfl trivial dX1_minor_22 ?_
  obtain ⟨x23, e23, hs⟩ := aB hs
  refine ev_get C (ci := 1) (k := 7) rfl wu_1 (by decide) wf_X1_25 (gO_F e23) dX1_minor_23 ?_
  refine ev_iload_n C rfl dX1_minor_26 ?_
  refine ev_iconst C (v := 3) dX1_minor_27 (by decide) ?_
  refine ev_imul C dX1_minor_28 ?_
  refine ev_iload C rfl dX1_minor_29 ?_
  refine ev_iadd C dX1_minor_31 ?_
  obtain ⟨x32, e32, hs⟩ := aB hs
  refine ev_lald C e32 dX1_minor_32 ?_
  refine ev_aload_n C (x := .ref o) rfl trivial dX1_minor_33 ?_
  obtain ⟨x34, e34, hs⟩ := aB hs
  refine ev_get C (ci := 1) (k := 7) rfl wu_1 (by decide) wf_X1_25 (gO_F e34) dX1_minor_34 ?_
  refine ev_iload_n C rfl dX1_minor_37 ?_
  refine ev_iconst C (v := 3) dX1_minor_38 (by decide) ?_
  refine ev_imul C dX1_minor_39 ?_
  refine ev_iload_n C rfl dX1_minor_40 ?_
  refine ev_iadd C dX1_minor_41 ?_
  obtain ⟨x42, e42, hs⟩ := aB hs
  refine ev_lald C e42 dX1_minor_42 ?_
  refine ev_lmul C dX1_minor_43 ?_
  refine ev_lsub C dX1_minor_44 ?_
  cases hs
  exact ev_lret C rfl rfl (Nat.le_refl _) (Nat.le_refl _) rfl dX1_minor_45
end
-- X1_anyPair
theorem dX1_anyPair_0 : decode cX1_anyPair 0 = .ok (.iconst 0, 1) := by decide +kernel
theorem dX1_anyPair_1 : decode cX1_anyPair 1 = .ok (.istore_n 2, 1) := by decide +kernel
theorem dX1_anyPair_2 : decode cX1_anyPair 2 = .ok (.iload_n 2, 1) := by decide +kernel
theorem dX1_anyPair_3 : decode cX1_anyPair 3 = .ok (.iload_n 1, 1) := by decide +kernel
theorem dX1_anyPair_4 : decode cX1_anyPair 4 = .ok (.if_icmp .ge 65, 3) := by decide +kernel
theorem dX1_anyPair_7 : decode cX1_anyPair 7 = .ok (.iload_n 2, 1) := by decide +kernel
theorem dX1_anyPair_8 : decode cX1_anyPair 8 = .ok (.iconst 1, 1) := by decide +kernel
theorem dX1_anyPair_9 : decode cX1_anyPair 9 = .ok (.iadd, 1) := by decide +kernel
theorem dX1_anyPair_10 : decode cX1_anyPair 10 = .ok (.istore_n 3, 1) := by decide +kernel
theorem dX1_anyPair_11 : decode cX1_anyPair 11 = .ok (.iload_n 3, 1) := by decide +kernel
theorem dX1_anyPair_12 : decode cX1_anyPair 12 = .ok (.iload_n 1, 1) := by decide +kernel
theorem dX1_anyPair_13 : decode cX1_anyPair 13 = .ok (.if_icmp .ge 50, 3) := by decide +kernel
theorem dX1_anyPair_16 : decode cX1_anyPair 16 = .ok (.aload_n 0, 1) := by decide +kernel
theorem dX1_anyPair_17 : decode cX1_anyPair 17 = .ok (.iload_n 2, 1) := by decide +kernel
theorem dX1_anyPair_18 : decode cX1_anyPair 18 = .ok (.iload_n 3, 1) := by decide +kernel
theorem dX1_anyPair_19 : decode cX1_anyPair 19 = .ok (.iconst 0, 1) := by decide +kernel
theorem dX1_anyPair_20 : decode cX1_anyPair 20 = .ok (.iconst 1, 1) := by decide +kernel
theorem dX1_anyPair_21 : decode cX1_anyPair 21 = .ok (.invokevirtual 161, 3) := by decide +kernel
theorem dX1_anyPair_24 : decode cX1_anyPair 24 = .ok (.lconst 0, 1) := by decide +kernel
theorem dX1_anyPair_25 : decode cX1_anyPair 25 = .ok (.lcmp, 1) := by decide +kernel
theorem dX1_anyPair_26 : decode cX1_anyPair 26 = .ok (.ifCond .ne 29, 3) := by decide +kernel
theorem dX1_anyPair_29 : decode cX1_anyPair 29 = .ok (.aload_n 0, 1) := by decide +kernel
theorem dX1_anyPair_30 : decode cX1_anyPair 30 = .ok (.iload_n 2, 1) := by decide +kernel
theorem dX1_anyPair_31 : decode cX1_anyPair 31 = .ok (.iload_n 3, 1) := by decide +kernel
theorem dX1_anyPair_32 : decode cX1_anyPair 32 = .ok (.iconst 0, 1) := by decide +kernel
theorem dX1_anyPair_33 : decode cX1_anyPair 33 = .ok (.iconst 2, 1) := by decide +kernel
theorem dX1_anyPair_34 : decode cX1_anyPair 34 = .ok (.invokevirtual 161, 3) := by decide +kernel
theorem dX1_anyPair_37 : decode cX1_anyPair 37 = .ok (.lconst 0, 1) := by decide +kernel
theorem dX1_anyPair_38 : decode cX1_anyPair 38 = .ok (.lcmp, 1) := by decide +kernel
theorem dX1_anyPair_39 : decode cX1_anyPair 39 = .ok (.ifCond .ne 16, 3) := by decide +kernel
theorem dX1_anyPair_42 : decode cX1_anyPair 42 = .ok (.aload_n 0, 1) := by decide +kernel
theorem dX1_anyPair_43 : decode cX1_anyPair 43 = .ok (.iload_n 2, 1) := by decide +kernel
theorem dX1_anyPair_44 : decode cX1_anyPair 44 = .ok (.iload_n 3, 1) := by decide +kernel
theorem dX1_anyPair_45 : decode cX1_anyPair 45 = .ok (.iconst 1, 1) := by decide +kernel
theorem dX1_anyPair_46 : decode cX1_anyPair 46 = .ok (.iconst 2, 1) := by decide +kernel
theorem dX1_anyPair_47 : decode cX1_anyPair 47 = .ok (.invokevirtual 161, 3) := by decide +kernel
theorem dX1_anyPair_50 : decode cX1_anyPair 50 = .ok (.lconst 0, 1) := by decide +kernel
theorem dX1_anyPair_51 : decode cX1_anyPair 51 = .ok (.lcmp, 1) := by decide +kernel
theorem dX1_anyPair_52 : decode cX1_anyPair 52 = .ok (.ifCond .eq 5, 3) := by decide +kernel
theorem dX1_anyPair_55 : decode cX1_anyPair 55 = .ok (.iconst 1, 1) := by decide +kernel
theorem dX1_anyPair_56 : decode cX1_anyPair 56 = .ok (.ireturn, 1) := by decide +kernel
theorem dX1_anyPair_57 : decode cX1_anyPair 57 = .ok (.iinc 3 1, 3) := by decide +kernel
theorem dX1_anyPair_60 : decode cX1_anyPair 60 = .ok (.goto (-49), 3) := by decide +kernel
theorem dX1_anyPair_63 : decode cX1_anyPair 63 = .ok (.iinc 2 1, 3) := by decide +kernel
theorem dX1_anyPair_66 : decode cX1_anyPair 66 = .ok (.goto (-64), 3) := by decide +kernel
theorem dX1_anyPair_69 : decode cX1_anyPair 69 = .ok (.iconst 0, 1) := by decide +kernel
theorem dX1_anyPair_70 : decode cX1_anyPair 70 = .ok (.ireturn, 1) := by decide +kernel
def s_X1_anyPair_11_b (k2 : Nat → Int32 → Int32 → aH → aO) (k11 : Nat → Int32 → Int32 → Int32 → aH → aO) (l0 : Nat) (l1 : Int32) (l2 : Int32) (l3 : Int32) (h : aH) : aO :=
  if l1 ≤ l3 then (k2 l0 l1 (l2 + 1) h) else (kO h l0 1 (cJ (s_X1_minor l0 l2 l3 0 1 h) fun x21 h21 => if (lg_cmp x21 0) = 0 then (kO h21 l0 1 (cJ (s_X1_minor l0 l2 l3 0 2 h21) fun x34 h34 => if (lg_cmp x34 0) = 0 then (kO h34 l0 1 (cJ (s_X1_minor l0 l2 l3 1 2 h34) fun x47 h47 => if (lg_cmp x47 0) = 0 then (k11 l0 l1 l2 (l3 + 1) h47) else (rtZ 1 h47))) else (rtZ 1 h34))) else (rtZ 1 h21)))
def s_X1_anyPair_11 (k2 : Nat → Int32 → Int32 → aH → aO) (n : Nat) : Nat → Int32 → Int32 → Int32 → aH → aO := lpF (fun _ _ _ _ _ => none) (s_X1_anyPair_11_b k2) n
def s_X1_anyPair_2_b  (k2 : Nat → Int32 → Int32 → aH → aO) (l0 : Nat) (l1 : Int32) (l2 : Int32) (h : aH) : aO :=
  if l1 ≤ l2 then (rtZ 0 h) else (s_X1_anyPair_11 k2 FU l0 l1 l2 (l2 + 1) h)
def s_X1_anyPair_2  (n : Nat) : Nat → Int32 → Int32 → aH → aO := lpF (fun _ _ _ _ => none) (s_X1_anyPair_2_b ) n
def s_X1_anyPair (o : Nat) (a1 : Int32) (h : aH) : aO :=
  s_X1_anyPair_2 FU o a1 0 h
section
variable {p : Program} {l : Launch} {e : Env} {s : State} {m : MethodId} {args : Array Value} {below : List Frame} {meth : Method} {c : Code} {D : va_G} {B0 : Nat} {X : Nat → Nat} {ws0 : va_W} {r : aR} {h' : aH} {mc ms : Nat}
theorem t_X1_anyPair_11_b (C : Cx p l s m args meth c B0 X RX1 "anyPair" cX1_anyPair 4 (some .boolean) []) {k2 : Nat → Int32 → Int32 → aH → aO} (K2 : ∀ (l0 : Nat) (l1 : Int32) (l2 : Int32) (h : aH), k2 l0 l1 l2 h = some (r, h') → Ev p l e { frames := 1, cells := mc, slots := ms, locals := 24 } s m args below meth c D B0 X ws0 r h' mc ms 4 mc ms 2 [some (.ref l0), some (.int l1), some (.int l2), none] [] h) {k11 : Nat → Int32 → Int32 → Int32 → aH → aO} (K11 : ∀ (l0 : Nat) (l1 : Int32) (l2 : Int32) (l3 : Int32) (h : aH), k11 l0 l1 l2 l3 h = some (r, h') → Ev p l e { frames := 1, cells := mc, slots := ms, locals := 24 } s m args below meth c D B0 X ws0 r h' mc ms 4 mc ms 11 [some (.ref l0), some (.int l1), some (.int l2), some (.int l3)] [] h) {l0 : Nat} {l1 : Int32} {l2 : Int32} {l3 : Int32} {h : aH} (hs : s_X1_anyPair_11_b k2 k11 l0 l1 l2 l3 h = some (r, h')) : Ev p l e { frames := 1, cells := mc, slots := ms, locals := 24 } s m args below meth c D B0 X ws0 r h' mc ms 4 mc ms 11 [some (.ref l0), some (.int l1), some (.int l2), some (.int l3)] [] h := by
  unfold s_X1_anyPair_11_b at hs
  refine ev_iload_n C rfl dX1_anyPair_11 ?_
  refine ev_iload_n C rfl dX1_anyPair_12 ?_
  refine ev_icmp_ge C (tgt := 63) (by decide) dX1_anyPair_13 (fun q13 => ?_) (fun q13 => ?_)
  · replace hs := (if_pos q13).symm.trans hs
    refine ev_iinc C (i := 2) (n := 1) (x := l2) (v := l2 + 1) rfl (congrArg (fun z => l2 + z) (show Int32.ofInt 1 = 1 by decide)) (by decide) dX1_anyPair_63 ?_
    refine ev_goto C (tgt := 2) (by decide) dX1_anyPair_66 ?_
    exact Ev.keep [true, true, true, false] (K2 _ _ _ _ hs)
  · replace hs := (if_neg q13).symm.trans hs
    refine ev_aload_n C (x := .ref l0) rfl trivial dX1_anyPair_16 ?_
    refine ev_iload_n C rfl dX1_anyPair_17 ?_
    refine ev_iload_n C rfl dX1_anyPair_18 ?_
    refine ev_iconst C (v := 0) dX1_anyPair_19 (by decide) ?_
    refine ev_iconst C (v := 1) dX1_anyPair_20 (by decide) ?_
    obtain ⟨eo21, hs⟩ := kO_at hs
    obtain ⟨x21, h21, e21, hs⟩ := cJ_at hs
    refine ev_callV C (T_X1_minor _ _ _ _ _ _ _ _ e21) (ci := 1) rfl eo21 wc_X1_minor wm_X1_161 wi_X1_minor ws_X1_minor wz_X1 hy_X1_minor ⟨(Nat.le_of_ble_eq_true rfl), (Nat.le_of_ble_eq_true rfl)⟩ ⟨(Nat.le_refl _), (Nat.le_refl _)⟩ (Nat.le_of_ble_eq_true rfl) rfl dX1_anyPair_21 ?_
    refine ev_lconst C (v := 0) dX1_anyPair_24 (by decide) ?_
    refine ev_lcmp C dX1_anyPair_25 ?_
    refine ev_if_ne C (tgt := 55) (by decide) dX1_anyPair_26 (fun q26 => ?_) (fun q26 => ?_)
    · replace hs := (if_neg q26).symm.trans hs
      refine ev_iconst C (v := 1) dX1_anyPair_55 (by decide) ?_
      obtain ⟨hz, rfl, rfl⟩ := rtZ_at hs
      exact ev_zret C rfl hz rfl (Nat.le_refl _) (Nat.le_refl _) rfl dX1_anyPair_56
    · replace hs := (if_pos q26).symm.trans hs
      refine ev_aload_n C (x := .ref l0) rfl trivial dX1_anyPair_29 ?_
      refine ev_iload_n C rfl dX1_anyPair_30 ?_
      refine ev_iload_n C rfl dX1_anyPair_31 ?_
      refine ev_iconst C (v := 0) dX1_anyPair_32 (by decide) ?_
      refine ev_iconst C (v := 2) dX1_anyPair_33 (by decide) ?_
      obtain ⟨eo34, hs⟩ := kO_at hs
      obtain ⟨x34, h34, e34, hs⟩ := cJ_at hs
      refine ev_callV C (T_X1_minor _ _ _ _ _ _ _ _ e34) (ci := 1) rfl eo34 wc_X1_minor wm_X1_161 wi_X1_minor ws_X1_minor wz_X1 hy_X1_minor ⟨(Nat.le_of_ble_eq_true rfl), (Nat.le_of_ble_eq_true rfl)⟩ ⟨(Nat.le_refl _), (Nat.le_refl _)⟩ (Nat.le_of_ble_eq_true rfl) rfl dX1_anyPair_34 ?_
      refine ev_lconst C (v := 0) dX1_anyPair_37 (by decide) ?_
      refine ev_lcmp C dX1_anyPair_38 ?_
      refine ev_if_ne C (tgt := 55) (by decide) dX1_anyPair_39 (fun q39 => ?_) (fun q39 => ?_)
      · replace hs := (if_neg q39).symm.trans hs
        refine ev_iconst C (v := 1) dX1_anyPair_55 (by decide) ?_
        obtain ⟨hz, rfl, rfl⟩ := rtZ_at hs
        exact ev_zret C rfl hz rfl (Nat.le_refl _) (Nat.le_refl _) rfl dX1_anyPair_56
      · replace hs := (if_pos q39).symm.trans hs
        refine ev_aload_n C (x := .ref l0) rfl trivial dX1_anyPair_42 ?_
        refine ev_iload_n C rfl dX1_anyPair_43 ?_
        refine ev_iload_n C rfl dX1_anyPair_44 ?_
        refine ev_iconst C (v := 1) dX1_anyPair_45 (by decide) ?_
        refine ev_iconst C (v := 2) dX1_anyPair_46 (by decide) ?_
        obtain ⟨eo47, hs⟩ := kO_at hs
        obtain ⟨x47, h47, e47, hs⟩ := cJ_at hs
        refine ev_callV C (T_X1_minor _ _ _ _ _ _ _ _ e47) (ci := 1) rfl eo47 wc_X1_minor wm_X1_161 wi_X1_minor ws_X1_minor wz_X1 hy_X1_minor ⟨(Nat.le_of_ble_eq_true rfl), (Nat.le_of_ble_eq_true rfl)⟩ ⟨(Nat.le_refl _), (Nat.le_refl _)⟩ (Nat.le_of_ble_eq_true rfl) rfl dX1_anyPair_47 ?_
        refine ev_lconst C (v := 0) dX1_anyPair_50 (by decide) ?_
        refine ev_lcmp C dX1_anyPair_51 ?_
        refine ev_if_eq C (tgt := 57) (by decide) dX1_anyPair_52 (fun q52 => ?_) (fun q52 => ?_)
        · replace hs := (if_pos q52).symm.trans hs
          refine ev_iinc C (i := 3) (n := 1) (x := l3) (v := l3 + 1) rfl (congrArg (fun z => l3 + z) (show Int32.ofInt 1 = 1 by decide)) (by decide) dX1_anyPair_57 ?_
          refine ev_goto C (tgt := 11) (by decide) dX1_anyPair_60 ?_
          exact (K11 _ _ _ _ _ hs)
        · replace hs := (if_neg q52).symm.trans hs
          refine ev_iconst C (v := 1) dX1_anyPair_55 (by decide) ?_
          obtain ⟨hz, rfl, rfl⟩ := rtZ_at hs
          exact ev_zret C rfl hz rfl (Nat.le_refl _) (Nat.le_refl _) rfl dX1_anyPair_56
theorem t_X1_anyPair_11 (C : Cx p l s m args meth c B0 X RX1 "anyPair" cX1_anyPair 4 (some .boolean) []) {k2 : Nat → Int32 → Int32 → aH → aO} (K2 : ∀ (l0 : Nat) (l1 : Int32) (l2 : Int32) (h : aH), k2 l0 l1 l2 h = some (r, h') → Ev p l e { frames := 1, cells := mc, slots := ms, locals := 24 } s m args below meth c D B0 X ws0 r h' mc ms 4 mc ms 2 [some (.ref l0), some (.int l1), some (.int l2), none] [] h) : ∀ (n : Nat) {l0 : Nat} {l1 : Int32} {l2 : Int32} {l3 : Int32} {h : aH} (hs : s_X1_anyPair_11 k2 n l0 l1 l2 l3 h = some (r, h')), Ev p l e { frames := 1, cells := mc, slots := ms, locals := 24 } s m args below meth c D B0 X ws0 r h' mc ms 4 mc ms 11 [some (.ref l0), some (.int l1), some (.int l2), some (.int l3)] [] h
  | 0, _, _, _, _, _, hs => nomatch hs
  | n + 1, _, _, _, _, _, hs => t_X1_anyPair_11_b C K2 (k11 := s_X1_anyPair_11 k2 n) (fun _ _ _ _ _ hs => t_X1_anyPair_11 C K2 n hs) hs
theorem t_X1_anyPair_2_b (C : Cx p l s m args meth c B0 X RX1 "anyPair" cX1_anyPair 4 (some .boolean) [])   {k2 : Nat → Int32 → Int32 → aH → aO} (K2 : ∀ (l0 : Nat) (l1 : Int32) (l2 : Int32) (h : aH), k2 l0 l1 l2 h = some (r, h') → Ev p l e { frames := 1, cells := mc, slots := ms, locals := 24 } s m args below meth c D B0 X ws0 r h' mc ms 4 mc ms 2 [some (.ref l0), some (.int l1), some (.int l2), none] [] h) {l0 : Nat} {l1 : Int32} {l2 : Int32} {h : aH} (hs : s_X1_anyPair_2_b  k2 l0 l1 l2 h = some (r, h')) : Ev p l e { frames := 1, cells := mc, slots := ms, locals := 24 } s m args below meth c D B0 X ws0 r h' mc ms 4 mc ms 2 [some (.ref l0), some (.int l1), some (.int l2), none] [] h := by
  unfold s_X1_anyPair_2_b at hs
  refine ev_iload_n C rfl dX1_anyPair_2 ?_
  refine ev_iload_n C rfl dX1_anyPair_3 ?_
  refine ev_icmp_ge C (tgt := 69) (by decide) dX1_anyPair_4 (fun q4 => ?_) (fun q4 => ?_)
  · replace hs := (if_pos q4).symm.trans hs
    refine ev_iconst C (v := 0) dX1_anyPair_69 (by decide) ?_
    obtain ⟨hz, rfl, rfl⟩ := rtZ_at hs
    exact ev_zret C rfl hz rfl (Nat.le_refl _) (Nat.le_refl _) rfl dX1_anyPair_70
  · replace hs := (if_neg q4).symm.trans hs
    refine ev_iload_n C rfl dX1_anyPair_7 ?_
    refine ev_iconst C (v := 1) dX1_anyPair_8 (by decide) ?_
    refine ev_iadd C dX1_anyPair_9 ?_
    refine ev_istore_n C (by decide) dX1_anyPair_10 ?_
    exact (t_X1_anyPair_11 C K2 FU hs)
theorem t_X1_anyPair_2 (C : Cx p l s m args meth c B0 X RX1 "anyPair" cX1_anyPair 4 (some .boolean) [])   : ∀ (n : Nat) {l0 : Nat} {l1 : Int32} {l2 : Int32} {h : aH} (hs : s_X1_anyPair_2  n l0 l1 l2 h = some (r, h')), Ev p l e { frames := 1, cells := mc, slots := ms, locals := 24 } s m args below meth c D B0 X ws0 r h' mc ms 4 mc ms 2 [some (.ref l0), some (.int l1), some (.int l2), none] [] h
  | 0, _, _, _, _, hs => nomatch hs
  | n + 1, _, _, _, _, hs => t_X1_anyPair_2_b C  (k2 := s_X1_anyPair_2  n) (fun _ _ _ _ hs => t_X1_anyPair_2 C  n hs) hs
theorem hy_X1_anyPair : yX1_anyPair.cls ≠ "java/lang/invoke/MethodHandle" ∧ yX1_anyPair.cls ≠ "java/lang/invoke/VarHandle" ∧ (parseMethodDescriptor yX1_anyPair.desc).map (fun d => d.parameters.length) = some 1 := by decide +kernel
theorem T_X1_anyPair (o : Nat) (a1 : Int32) (h : aH) (r : aR) (h' : aH) (hs : s_X1_anyPair o a1 h = some (r, h')) : Mt yX1_anyPair (Cond.code yX1_anyPair cX1_anyPair 4 (some .boolean) :: aTB) 1 24 0 0 [.ref o, .int a1] h r h' := by
  unfold s_X1_anyPair at hs
  refine Mt_of (k := 2) (by decide) rfl (fun p l e s m args below meth c D B0 X ws0 C => ?_)
  show Ev p l e { frames := 1, cells := 0, slots := 0, locals := 24 } s m args below meth c D B0 X ws0 r h' 0 0 4 0 0 0 [some (.ref o), some (.int a1), none, none] [] h
  refine ev_iconst C (v := 0) dX1_anyPair_0 (by decide) ?_
  refine ev_istore_n C (by decide) dX1_anyPair_1 ?_
  exact (t_X1_anyPair_2 C  FU hs)
end
-- X1_anyNumber
theorem dX1_anyNumber_0 : decode cX1_anyNumber 0 = .ok (.aload_n 0, 1) := by decide +kernel
theorem dX1_anyNumber_1 : decode cX1_anyNumber 1 = .ok (.getfield 25, 3) := by decide +kernel
theorem dX1_anyNumber_4 : decode cX1_anyNumber 4 = .ok (.astore_n 1, 1) := by decide +kernel
theorem dX1_anyNumber_5 : decode cX1_anyNumber 5 = .ok (.aload_n 1, 1) := by decide +kernel
theorem dX1_anyNumber_6 : decode cX1_anyNumber 6 = .ok (.arraylength, 1) := by decide +kernel
theorem dX1_anyNumber_7 : decode cX1_anyNumber 7 = .ok (.istore_n 2, 1) := by decide +kernel
theorem dX1_anyNumber_8 : decode cX1_anyNumber 8 = .ok (.iconst 0, 1) := by decide +kernel
theorem dX1_anyNumber_9 : decode cX1_anyNumber 9 = .ok (.istore_n 3, 1) := by decide +kernel
theorem dX1_anyNumber_10 : decode cX1_anyNumber 10 = .ok (.iload_n 3, 1) := by decide +kernel
theorem dX1_anyNumber_11 : decode cX1_anyNumber 11 = .ok (.iload_n 2, 1) := by decide +kernel
theorem dX1_anyNumber_12 : decode cX1_anyNumber 12 = .ok (.if_icmp .ge 23, 3) := by decide +kernel
theorem dX1_anyNumber_15 : decode cX1_anyNumber 15 = .ok (.aload_n 1, 1) := by decide +kernel
theorem dX1_anyNumber_16 : decode cX1_anyNumber 16 = .ok (.iload_n 3, 1) := by decide +kernel
theorem dX1_anyNumber_17 : decode cX1_anyNumber 17 = .ok (.laload, 1) := by decide +kernel
theorem dX1_anyNumber_18 : decode cX1_anyNumber 18 = .ok (.lstore 4, 2) := by decide +kernel
theorem dX1_anyNumber_20 : decode cX1_anyNumber 20 = .ok (.lload 4, 2) := by decide +kernel
theorem dX1_anyNumber_22 : decode cX1_anyNumber 22 = .ok (.lconst 0, 1) := by decide +kernel
theorem dX1_anyNumber_23 : decode cX1_anyNumber 23 = .ok (.lcmp, 1) := by decide +kernel
theorem dX1_anyNumber_24 : decode cX1_anyNumber 24 = .ok (.ifCond .eq 5, 3) := by decide +kernel
theorem dX1_anyNumber_27 : decode cX1_anyNumber 27 = .ok (.iconst 1, 1) := by decide +kernel
theorem dX1_anyNumber_28 : decode cX1_anyNumber 28 = .ok (.ireturn, 1) := by decide +kernel
theorem dX1_anyNumber_29 : decode cX1_anyNumber 29 = .ok (.iinc 3 1, 3) := by decide +kernel
theorem dX1_anyNumber_32 : decode cX1_anyNumber 32 = .ok (.goto (-22), 3) := by decide +kernel
theorem dX1_anyNumber_35 : decode cX1_anyNumber 35 = .ok (.iconst 0, 1) := by decide +kernel
theorem dX1_anyNumber_36 : decode cX1_anyNumber 36 = .ok (.ireturn, 1) := by decide +kernel
def s_X1_anyNumber_10_b  (k10 : Nat → Int32 → Int32 → aH → aO) (l1 : Nat) (l2 : Int32) (l3 : Int32) (h : aH) : aO :=
  if l2 ≤ l3 then (rtZ 0 h) else ((ldJ h (.ref l1) l3).bind fun x17 => if (lg_cmp x17 0) = 0 then (k10 l1 l2 (l3 + 1) h) else (rtZ 1 h))
def s_X1_anyNumber_10  (n : Nat) : Nat → Int32 → Int32 → aH → aO := lpF (fun _ _ _ _ => none) (s_X1_anyNumber_10_b ) n
def s_X1_anyNumber (o : Nat) (h : aH) : aO :=
  (gO h (.ref o) 1 7).bind fun x1 => (lnA h (.ref x1)).bind fun x6 => s_X1_anyNumber_10 FU x1 x6 0 h
section
variable {p : Program} {l : Launch} {e : Env} {s : State} {m : MethodId} {args : Array Value} {below : List Frame} {meth : Method} {c : Code} {D : va_G} {B0 : Nat} {X : Nat → Nat} {ws0 : va_W} {r : aR} {h' : aH} {mc ms : Nat}
theorem t_X1_anyNumber_10_b (C : Cx p l s m args meth c B0 X RX1 "anyNumber" cX1_anyNumber 6 (some .boolean) [])   {k10 : Nat → Int32 → Int32 → aH → aO} (K10 : ∀ (l1 : Nat) (l2 : Int32) (l3 : Int32) (h : aH), k10 l1 l2 l3 h = some (r, h') → Ev p l e { frames := 0, cells := mc, slots := ms, locals := 0 } s m args below meth c D B0 X ws0 r h' mc ms 6 mc ms 10 [none, some (.ref l1), some (.int l2), some (.int l3), none, none] [] h) {l1 : Nat} {l2 : Int32} {l3 : Int32} {h : aH} (hs : s_X1_anyNumber_10_b  k10 l1 l2 l3 h = some (r, h')) : Ev p l e { frames := 0, cells := mc, slots := ms, locals := 0 } s m args below meth c D B0 X ws0 r h' mc ms 6 mc ms 10 [none, some (.ref l1), some (.int l2), some (.int l3), none, none] [] h := by
  unfold s_X1_anyNumber_10_b at hs
  refine ev_iload_n C rfl dX1_anyNumber_10 ?_
  refine ev_iload_n C rfl dX1_anyNumber_11 ?_
  refine ev_icmp_ge C (tgt := 35) (by decide) dX1_anyNumber_12 (fun q12 => ?_) (fun q12 => ?_)
  · replace hs := (if_pos q12).symm.trans hs
    refine ev_iconst C (v := 0) dX1_anyNumber_35 (by decide) ?_
    obtain ⟨hz, rfl, rfl⟩ := rtZ_at hs
    exact ev_zret C rfl hz rfl (Nat.le_refl _) (Nat.le_refl _) rfl dX1_anyNumber_36
  · replace hs := (if_neg q12).symm.trans hs
    refine ev_aload_n C (x := .ref l1) rfl trivial dX1_anyNumber_15 ?_
    refine ev_iload_n C rfl dX1_anyNumber_16 ?_
    obtain ⟨x17, e17, hs⟩ := aB hs
    refine ev_lald C e17 dX1_anyNumber_17 ?_
    refine ev_lstore C (by decide) dX1_anyNumber_18 ?_
    refine ev_lload C rfl dX1_anyNumber_20 ?_
    refine ev_lconst C (v := 0) dX1_anyNumber_22 (by decide) ?_
    refine ev_lcmp C dX1_anyNumber_23 ?_
    refine ev_if_eq C (tgt := 29) (by decide) dX1_anyNumber_24 (fun q24 => ?_) (fun q24 => ?_)
    · replace hs := (if_pos q24).symm.trans hs
      refine ev_iinc C (i := 3) (n := 1) (x := l3) (v := l3 + 1) rfl (congrArg (fun z => l3 + z) (show Int32.ofInt 1 = 1 by decide)) (by decide) dX1_anyNumber_29 ?_
      refine ev_goto C (tgt := 10) (by decide) dX1_anyNumber_32 ?_
      exact Ev.keep [true, true, true, true, false, true] (K10 _ _ _ _ hs)
    · replace hs := (if_neg q24).symm.trans hs
      refine ev_iconst C (v := 1) dX1_anyNumber_27 (by decide) ?_
      obtain ⟨hz, rfl, rfl⟩ := rtZ_at hs
      exact ev_zret C rfl hz rfl (Nat.le_refl _) (Nat.le_refl _) rfl dX1_anyNumber_28
theorem t_X1_anyNumber_10 (C : Cx p l s m args meth c B0 X RX1 "anyNumber" cX1_anyNumber 6 (some .boolean) [])   : ∀ (n : Nat) {l1 : Nat} {l2 : Int32} {l3 : Int32} {h : aH} (hs : s_X1_anyNumber_10  n l1 l2 l3 h = some (r, h')), Ev p l e { frames := 0, cells := mc, slots := ms, locals := 0 } s m args below meth c D B0 X ws0 r h' mc ms 6 mc ms 10 [none, some (.ref l1), some (.int l2), some (.int l3), none, none] [] h
  | 0, _, _, _, _, hs => nomatch hs
  | n + 1, _, _, _, _, hs => t_X1_anyNumber_10_b C  (k10 := s_X1_anyNumber_10  n) (fun _ _ _ _ hs => t_X1_anyNumber_10 C  n hs) hs
theorem hy_X1_anyNumber : yX1_anyNumber.cls ≠ "java/lang/invoke/MethodHandle" ∧ yX1_anyNumber.cls ≠ "java/lang/invoke/VarHandle" ∧ (parseMethodDescriptor yX1_anyNumber.desc).map (fun d => d.parameters.length) = some 0 := by decide +kernel
theorem T_X1_anyNumber (o : Nat) (h : aH) (r : aR) (h' : aH) (hs : s_X1_anyNumber o h = some (r, h')) : Mt yX1_anyNumber (Cond.code yX1_anyNumber cX1_anyNumber 6 (some .boolean) :: aTB) 0 0 0 0 [.ref o] h r h' := by
  unfold s_X1_anyNumber at hs
  refine Mt_of (k := 5) (by decide) rfl (fun p l e s m args below meth c D B0 X ws0 C => ?_)
  show Ev p l e { frames := 0, cells := 0, slots := 0, locals := 0 } s m args below meth c D B0 X ws0 r h' 0 0 6 0 0 0 [some (.ref o), none, none, none, none, none] [] h
  refine ev_aload_n C (x := .ref o) rfl trivial dX1_anyNumber_0 ?_
  obtain ⟨x1, e1, hs⟩ := aB hs
  refine ev_get C (ci := 1) (k := 7) rfl wu_1 (by decide) wf_X1_25 (gO_F e1) dX1_anyNumber_1 ?_
  refine ev_astore_n C (x := .ref x1) trivial (by decide) dX1_anyNumber_4 ?_
  refine ev_aload_n C (x := .ref x1) rfl trivial dX1_anyNumber_5 ?_
  obtain ⟨x6, e6, hs⟩ := aB hs
  refine ev_alen C e6 dX1_anyNumber_6 ?_
  refine ev_istore_n C (by decide) dX1_anyNumber_7 ?_
  refine ev_iconst C (v := 0) dX1_anyNumber_8 (by decide) ?_
  refine ev_istore_n C (by decide) dX1_anyNumber_9 ?_
  exact Ev.keep [false, true, true, true, true, true] (t_X1_anyNumber_10 C  FU hs)
end
-- X1_rankOf
theorem dX1_rankOf_0 : decode cX1_rankOf 0 = .ok (.aload_n 0, 1) := by decide +kernel
theorem dX1_rankOf_1 : decode cX1_rankOf 1 = .ok (.getfield 43, 3) := by decide +kernel
theorem dX1_rankOf_4 : decode cX1_rankOf 4 = .ok (.getfield 92, 3) := by decide +kernel
theorem dX1_rankOf_7 : decode cX1_rankOf 7 = .ok (.iconst 0, 1) := by decide +kernel
theorem dX1_rankOf_8 : decode cX1_rankOf 8 = .ok (.iaload, 1) := by decide +kernel
theorem dX1_rankOf_9 : decode cX1_rankOf 9 = .ok (.istore_n 2, 1) := by decide +kernel
theorem dX1_rankOf_10 : decode cX1_rankOf 10 = .ok (.iload_n 1, 1) := by decide +kernel
theorem dX1_rankOf_11 : decode cX1_rankOf 11 = .ok (.ifCond .eq 15, 3) := by decide +kernel
theorem dX1_rankOf_14 : decode cX1_rankOf 14 = .ok (.aload_n 0, 1) := by decide +kernel
theorem dX1_rankOf_15 : decode cX1_rankOf 15 = .ok (.getfield 43, 3) := by decide +kernel
theorem dX1_rankOf_18 : decode cX1_rankOf 18 = .ok (.getfield 92, 3) := by decide +kernel
theorem dX1_rankOf_21 : decode cX1_rankOf 21 = .ok (.iconst 4, 1) := by decide +kernel
theorem dX1_rankOf_22 : decode cX1_rankOf 22 = .ok (.iaload, 1) := by decide +kernel
theorem dX1_rankOf_23 : decode cX1_rankOf 23 = .ok (.goto 12, 3) := by decide +kernel
theorem dX1_rankOf_26 : decode cX1_rankOf 26 = .ok (.aload_n 0, 1) := by decide +kernel
theorem dX1_rankOf_27 : decode cX1_rankOf 27 = .ok (.getfield 43, 3) := by decide +kernel
theorem dX1_rankOf_30 : decode cX1_rankOf 30 = .ok (.getfield 92, 3) := by decide +kernel
theorem dX1_rankOf_33 : decode cX1_rankOf 33 = .ok (.iconst 1, 1) := by decide +kernel
theorem dX1_rankOf_34 : decode cX1_rankOf 34 = .ok (.iaload, 1) := by decide +kernel
theorem dX1_rankOf_35 : decode cX1_rankOf 35 = .ok (.istore_n 3, 1) := by decide +kernel
theorem dX1_rankOf_36 : decode cX1_rankOf 36 = .ok (.aload_n 0, 1) := by decide +kernel
theorem dX1_rankOf_37 : decode cX1_rankOf 37 = .ok (.getfield 25, 3) := by decide +kernel
theorem dX1_rankOf_40 : decode cX1_rankOf 40 = .ok (.lconst 0, 1) := by decide +kernel
theorem dX1_rankOf_41 : decode cX1_rankOf 41 = .ok (.invokestatic 144, 3) := by decide +kernel
theorem dX1_rankOf_44 : decode cX1_rankOf 44 = .ok (.iconst 0, 1) := by decide +kernel
theorem dX1_rankOf_45 : decode cX1_rankOf 45 = .ok (.istore 4, 2) := by decide +kernel
theorem dX1_rankOf_47 : decode cX1_rankOf 47 = .ok (.iload 4, 2) := by decide +kernel
theorem dX1_rankOf_49 : decode cX1_rankOf 49 = .ok (.iload_n 3, 1) := by decide +kernel
theorem dX1_rankOf_50 : decode cX1_rankOf 50 = .ok (.if_icmp .ge 69, 3) := by decide +kernel
theorem dX1_rankOf_53 : decode cX1_rankOf 53 = .ok (.iconst 0, 1) := by decide +kernel
theorem dX1_rankOf_54 : decode cX1_rankOf 54 = .ok (.istore 5, 2) := by decide +kernel
theorem dX1_rankOf_56 : decode cX1_rankOf 56 = .ok (.iload 5, 2) := by decide +kernel
theorem dX1_rankOf_58 : decode cX1_rankOf 58 = .ok (.iload_n 2, 1) := by decide +kernel
theorem dX1_rankOf_59 : decode cX1_rankOf 59 = .ok (.if_icmp .ge 54, 3) := by decide +kernel
theorem dX1_rankOf_62 : decode cX1_rankOf 62 = .ok (.aload_n 0, 1) := by decide +kernel
theorem dX1_rankOf_63 : decode cX1_rankOf 63 = .ok (.getfield 25, 3) := by decide +kernel
theorem dX1_rankOf_66 : decode cX1_rankOf 66 = .ok (.iload 4, 2) := by decide +kernel
theorem dX1_rankOf_68 : decode cX1_rankOf 68 = .ok (.iconst 3, 1) := by decide +kernel
theorem dX1_rankOf_69 : decode cX1_rankOf 69 = .ok (.imul, 1) := by decide +kernel
theorem dX1_rankOf_70 : decode cX1_rankOf 70 = .ok (.iload 5, 2) := by decide +kernel
theorem dX1_rankOf_72 : decode cX1_rankOf 72 = .ok (.iadd, 1) := by decide +kernel
theorem dX1_rankOf_73 : decode cX1_rankOf 73 = .ok (.iload_n 1, 1) := by decide +kernel
theorem dX1_rankOf_74 : decode cX1_rankOf 74 = .ok (.ifCond .eq 19, 3) := by decide +kernel
theorem dX1_rankOf_77 : decode cX1_rankOf 77 = .ok (.aload_n 0, 1) := by decide +kernel
theorem dX1_rankOf_78 : decode cX1_rankOf 78 = .ok (.getfield 18, 3) := by decide +kernel
theorem dX1_rankOf_81 : decode cX1_rankOf 81 = .ok (.iload 4, 2) := by decide +kernel
theorem dX1_rankOf_83 : decode cX1_rankOf 83 = .ok (.iconst 3, 1) := by decide +kernel
theorem dX1_rankOf_84 : decode cX1_rankOf 84 = .ok (.imul, 1) := by decide +kernel
theorem dX1_rankOf_85 : decode cX1_rankOf 85 = .ok (.iload 5, 2) := by decide +kernel
theorem dX1_rankOf_87 : decode cX1_rankOf 87 = .ok (.iadd, 1) := by decide +kernel
theorem dX1_rankOf_88 : decode cX1_rankOf 88 = .ok (.iaload, 1) := by decide +kernel
theorem dX1_rankOf_89 : decode cX1_rankOf 89 = .ok (.i2l, 1) := by decide +kernel
theorem dX1_rankOf_90 : decode cX1_rankOf 90 = .ok (.goto 16, 3) := by decide +kernel
theorem dX1_rankOf_93 : decode cX1_rankOf 93 = .ok (.aload_n 0, 1) := by decide +kernel
theorem dX1_rankOf_94 : decode cX1_rankOf 94 = .ok (.getfield 15, 3) := by decide +kernel
theorem dX1_rankOf_97 : decode cX1_rankOf 97 = .ok (.iload 5, 2) := by decide +kernel
theorem dX1_rankOf_99 : decode cX1_rankOf 99 = .ok (.iconst 2, 1) := by decide +kernel
theorem dX1_rankOf_100 : decode cX1_rankOf 100 = .ok (.imul, 1) := by decide +kernel
theorem dX1_rankOf_101 : decode cX1_rankOf 101 = .ok (.iload 4, 2) := by decide +kernel
theorem dX1_rankOf_103 : decode cX1_rankOf 103 = .ok (.iadd, 1) := by decide +kernel
theorem dX1_rankOf_104 : decode cX1_rankOf 104 = .ok (.iaload, 1) := by decide +kernel
theorem dX1_rankOf_105 : decode cX1_rankOf 105 = .ok (.i2l, 1) := by decide +kernel
theorem dX1_rankOf_106 : decode cX1_rankOf 106 = .ok (.lastore, 1) := by decide +kernel
theorem dX1_rankOf_107 : decode cX1_rankOf 107 = .ok (.iinc 5 1, 3) := by decide +kernel
theorem dX1_rankOf_110 : decode cX1_rankOf 110 = .ok (.goto (-54), 3) := by decide +kernel
theorem dX1_rankOf_113 : decode cX1_rankOf 113 = .ok (.iinc 4 1, 3) := by decide +kernel
theorem dX1_rankOf_116 : decode cX1_rankOf 116 = .ok (.goto (-69), 3) := by decide +kernel
theorem dX1_rankOf_119 : decode cX1_rankOf 119 = .ok (.iload_n 3, 1) := by decide +kernel
theorem dX1_rankOf_120 : decode cX1_rankOf 120 = .ok (.iload_n 2, 1) := by decide +kernel
theorem dX1_rankOf_121 : decode cX1_rankOf 121 = .ok (.imul, 1) := by decide +kernel
theorem dX1_rankOf_122 : decode cX1_rankOf 122 = .ok (.istore 4, 2) := by decide +kernel
theorem dX1_rankOf_124 : decode cX1_rankOf 124 = .ok (.iload_n 3, 1) := by decide +kernel
theorem dX1_rankOf_125 : decode cX1_rankOf 125 = .ok (.istore 5, 2) := by decide +kernel
theorem dX1_rankOf_127 : decode cX1_rankOf 127 = .ok (.iload 5, 2) := by decide +kernel
theorem dX1_rankOf_129 : decode cX1_rankOf 129 = .ok (.iload 4, 2) := by decide +kernel
theorem dX1_rankOf_131 : decode cX1_rankOf 131 = .ok (.if_icmp .ge 20, 3) := by decide +kernel
theorem dX1_rankOf_134 : decode cX1_rankOf 134 = .ok (.aload_n 0, 1) := by decide +kernel
theorem dX1_rankOf_135 : decode cX1_rankOf 135 = .ok (.iload 5, 2) := by decide +kernel
theorem dX1_rankOf_137 : decode cX1_rankOf 137 = .ok (.iload_n 3, 1) := by decide +kernel
theorem dX1_rankOf_138 : decode cX1_rankOf 138 = .ok (.isub, 1) := by decide +kernel
theorem dX1_rankOf_139 : decode cX1_rankOf 139 = .ok (.iload 5, 2) := by decide +kernel
theorem dX1_rankOf_141 : decode cX1_rankOf 141 = .ok (.iload_n 1, 1) := by decide +kernel
theorem dX1_rankOf_142 : decode cX1_rankOf 142 = .ok (.invokevirtual 147, 3) := by decide +kernel
theorem dX1_rankOf_145 : decode cX1_rankOf 145 = .ok (.iinc 5 1, 3) := by decide +kernel
theorem dX1_rankOf_148 : decode cX1_rankOf 148 = .ok (.goto (-21), 3) := by decide +kernel
theorem dX1_rankOf_151 : decode cX1_rankOf 151 = .ok (.aload_n 0, 1) := by decide +kernel
theorem dX1_rankOf_152 : decode cX1_rankOf 152 = .ok (.iload 4, 2) := by decide +kernel
theorem dX1_rankOf_154 : decode cX1_rankOf 154 = .ok (.invokevirtual 151, 3) := by decide +kernel
theorem dX1_rankOf_157 : decode cX1_rankOf 157 = .ok (.ifCond .eq 5, 3) := by decide +kernel
theorem dX1_rankOf_160 : decode cX1_rankOf 160 = .ok (.iconst 3, 1) := by decide +kernel
theorem dX1_rankOf_161 : decode cX1_rankOf 161 = .ok (.ireturn, 1) := by decide +kernel
theorem dX1_rankOf_162 : decode cX1_rankOf 162 = .ok (.aload_n 0, 1) := by decide +kernel
theorem dX1_rankOf_163 : decode cX1_rankOf 163 = .ok (.iload 4, 2) := by decide +kernel
theorem dX1_rankOf_165 : decode cX1_rankOf 165 = .ok (.invokevirtual 155, 3) := by decide +kernel
theorem dX1_rankOf_168 : decode cX1_rankOf 168 = .ok (.ifCond .eq 5, 3) := by decide +kernel
theorem dX1_rankOf_171 : decode cX1_rankOf 171 = .ok (.iconst 2, 1) := by decide +kernel
theorem dX1_rankOf_172 : decode cX1_rankOf 172 = .ok (.ireturn, 1) := by decide +kernel
theorem dX1_rankOf_173 : decode cX1_rankOf 173 = .ok (.aload_n 0, 1) := by decide +kernel
theorem dX1_rankOf_174 : decode cX1_rankOf 174 = .ok (.invokevirtual 158, 3) := by decide +kernel
theorem dX1_rankOf_177 : decode cX1_rankOf 177 = .ok (.ifCond .eq 7, 3) := by decide +kernel
theorem dX1_rankOf_180 : decode cX1_rankOf 180 = .ok (.iconst 1, 1) := by decide +kernel
theorem dX1_rankOf_181 : decode cX1_rankOf 181 = .ok (.goto 4, 3) := by decide +kernel
theorem dX1_rankOf_184 : decode cX1_rankOf 184 = .ok (.iconst 0, 1) := by decide +kernel
theorem dX1_rankOf_185 : decode cX1_rankOf 185 = .ok (.ireturn, 1) := by decide +kernel
def s_X1_rankOf_127_b  (k127 : Nat → Int32 → Int32 → Int32 → Int32 → aH → aO) (l0 : Nat) (l1 : Int32) (l3 : Int32) (l4 : Int32) (l5 : Int32) (h : aH) : aO :=
  if l4 ≤ l5 then (kO h l0 1 (cI (s_X1_anyTriple l0 l4 h) fun x154 h154 => if x154 = 0 then (kO h154 l0 1 (cI (s_X1_anyPair l0 l4 h154) fun x165 h165 => if x165 = 0 then (kO h165 l0 1 (cI (s_X1_anyNumber l0 h165) fun x174 h174 => if x174 = 0 then (some (.inl (some (.int 0)), h174)) else (some (.inl (some (.int 1)), h174)))) else (some (.inl (some (.int 2)), h165)))) else (some (.inl (some (.int 3)), h154)))) else (kO h l0 1 (cN (s_X1_multiply l0 (l5 - l3) l5 l1 h) fun h142 => k127 l0 l1 l3 l4 (l5 + 1) h142))
def s_X1_rankOf_127  (n : Nat) : Nat → Int32 → Int32 → Int32 → Int32 → aH → aO := lpF (fun _ _ _ _ _ _ => none) (s_X1_rankOf_127_b ) n
def s_X1_rankOf_106 (k47 : Nat → Int32 → Int32 → Int32 → Int32 → aH → aO) (k56 : Nat → Int32 → Int32 → Int32 → Int32 → Int32 → aH → aO) (l0 : Nat) (l1 : Int32) (l2 : Int32) (l3 : Int32) (l4 : Int32) (l5 : Int32) (s0 : Int64) (s1 : Int32) (s2 : Nat) (h : aH) : aO :=
  (stJ h (.ref s2) s1 s0).bind fun h106 => k56 l0 l1 l2 l3 l4 (l5 + 1) h106
def s_X1_rankOf_56_b (k47 : Nat → Int32 → Int32 → Int32 → Int32 → aH → aO) (k56 : Nat → Int32 → Int32 → Int32 → Int32 → Int32 → aH → aO) (l0 : Nat) (l1 : Int32) (l2 : Int32) (l3 : Int32) (l4 : Int32) (l5 : Int32) (h : aH) : aO :=
  if l2 ≤ l5 then (k47 l0 l1 l2 l3 (l4 + 1) h) else ((gO h (.ref l0) 1 7).bind fun x63 => if l1 = 0 then ((gO h (.ref l0) 1 4).bind fun x94 => (ldI .int h (.ref x94) ((l5 * 2) + l4)).bind fun x104 => s_X1_rankOf_106 k47 k56 l0 l1 l2 l3 l4 l5 x104.toInt64 ((l4 * 3) + l5) x63 h) else ((gO h (.ref l0) 1 5).bind fun x78 => (ldI .int h (.ref x78) ((l4 * 3) + l5)).bind fun x88 => s_X1_rankOf_106 k47 k56 l0 l1 l2 l3 l4 l5 x88.toInt64 ((l4 * 3) + l5) x63 h))
def s_X1_rankOf_56 (k47 : Nat → Int32 → Int32 → Int32 → Int32 → aH → aO) (n : Nat) : Nat → Int32 → Int32 → Int32 → Int32 → Int32 → aH → aO := lpF (fun _ _ _ _ _ _ _ => none) (s_X1_rankOf_56_b k47) n
def s_X1_rankOf_47_b  (k47 : Nat → Int32 → Int32 → Int32 → Int32 → aH → aO) (l0 : Nat) (l1 : Int32) (l2 : Int32) (l3 : Int32) (l4 : Int32) (h : aH) : aO :=
  if l3 ≤ l4 then (s_X1_rankOf_127 FU l0 l1 l3 (l3 * l2) l3 h) else (s_X1_rankOf_56 k47 FU l0 l1 l2 l3 l4 0 h)
def s_X1_rankOf_47  (n : Nat) : Nat → Int32 → Int32 → Int32 → Int32 → aH → aO := lpF (fun _ _ _ _ _ _ => none) (s_X1_rankOf_47_b ) n
def s_X1_rankOf_35  (l0 : Nat) (l1 : Int32) (l2 : Int32) (s0 : Int32) (h : aH) : aO :=
  (gO h (.ref l0) 1 7).bind fun x37 => cN (s_J7_fill_d0a16 x37 0 h) fun h41 => s_X1_rankOf_47 FU l0 l1 l2 s0 0 h41
def s_X1_rankOf (o : Nat) (a1 : Int32) (h : aH) : aO :=
  (gO h (.ref o) 1 0).bind fun x1 => (gO h (.ref x1) 2 0).bind fun x4 => (ldI .int h (.ref x4) 0).bind fun x8 => if a1 = 0 then ((gO h (.ref o) 1 0).bind fun x27 => (gO h (.ref x27) 2 0).bind fun x30 => (ldI .int h (.ref x30) 1).bind fun x34 => s_X1_rankOf_35 o a1 x8 x34 h) else ((gO h (.ref o) 1 0).bind fun x15 => (gO h (.ref x15) 2 0).bind fun x18 => (ldI .int h (.ref x18) 4).bind fun x22 => s_X1_rankOf_35 o a1 x8 x22 h)
section
variable {p : Program} {l : Launch} {e : Env} {s : State} {m : MethodId} {args : Array Value} {below : List Frame} {meth : Method} {c : Code} {D : va_G} {B0 : Nat} {X : Nat → Nat} {ws0 : va_W} {r : aR} {h' : aH} {mc ms : Nat}
theorem t_X1_rankOf_127_b (C : Cx p l s m args meth c B0 X RX1 "rankOf" cX1_rankOf 6 (some .int) [])   {k127 : Nat → Int32 → Int32 → Int32 → Int32 → aH → aO} (K127 : ∀ (l0 : Nat) (l1 : Int32) (l3 : Int32) (l4 : Int32) (l5 : Int32) (h : aH), k127 l0 l1 l3 l4 l5 h = some (r, h') → Ev p l e { frames := 2, cells := mc, slots := ms, locals := 50 } s m args below meth c D B0 X ws0 r h' mc ms 6 mc ms 127 [some (.ref l0), some (.int l1), none, some (.int l3), some (.int l4), some (.int l5)] [] h) {l0 : Nat} {l1 : Int32} {l3 : Int32} {l4 : Int32} {l5 : Int32} {h : aH} (hs : s_X1_rankOf_127_b  k127 l0 l1 l3 l4 l5 h = some (r, h')) : Ev p l e { frames := 2, cells := mc, slots := ms, locals := 50 } s m args below meth c D B0 X ws0 r h' mc ms 6 mc ms 127 [some (.ref l0), some (.int l1), none, some (.int l3), some (.int l4), some (.int l5)] [] h := by
  unfold s_X1_rankOf_127_b at hs
  refine ev_iload C rfl dX1_rankOf_127 ?_
  refine ev_iload C rfl dX1_rankOf_129 ?_
  refine ev_icmp_ge C (tgt := 151) (by decide) dX1_rankOf_131 (fun q131 => ?_) (fun q131 => ?_)
  · replace hs := (if_pos q131).symm.trans hs
    refine ev_aload_n C (x := .ref l0) rfl trivial dX1_rankOf_151 ?_
    refine ev_iload C rfl dX1_rankOf_152 ?_
    obtain ⟨eo154, hs⟩ := kO_at hs
    obtain ⟨x154, h154, e154, hs⟩ := cI_at hs
    refine ev_callV C (T_X1_anyTriple _ _ _ _ _ e154) (ci := 1) rfl eo154 wc_X1_anyTriple wm_X1_151 wi_X1_anyTriple ws_X1_anyTriple wz_X1 hy_X1_anyTriple ⟨(Nat.le_of_ble_eq_true rfl), (Nat.le_of_ble_eq_true rfl)⟩ ⟨(Nat.le_refl _), (Nat.le_refl _)⟩ (Nat.le_of_ble_eq_true rfl) rfl dX1_rankOf_154 ?_
    refine ev_if_eq C (tgt := 162) (by decide) dX1_rankOf_157 (fun q157 => ?_) (fun q157 => ?_)
    · replace hs := (if_pos q157).symm.trans hs
      refine ev_aload_n C (x := .ref l0) rfl trivial dX1_rankOf_162 ?_
      refine ev_iload C rfl dX1_rankOf_163 ?_
      obtain ⟨eo165, hs⟩ := kO_at hs
      obtain ⟨x165, h165, e165, hs⟩ := cI_at hs
      refine ev_callV C (T_X1_anyPair _ _ _ _ _ e165) (ci := 1) rfl eo165 wc_X1_anyPair wm_X1_155 wi_X1_anyPair ws_X1_anyPair wz_X1 hy_X1_anyPair ⟨(Nat.le_of_ble_eq_true rfl), (Nat.le_of_ble_eq_true rfl)⟩ ⟨(Nat.le_refl _), (Nat.le_refl _)⟩ (Nat.le_of_ble_eq_true rfl) rfl dX1_rankOf_165 ?_
      refine ev_if_eq C (tgt := 173) (by decide) dX1_rankOf_168 (fun q168 => ?_) (fun q168 => ?_)
      · replace hs := (if_pos q168).symm.trans hs
        refine ev_aload_n C (x := .ref l0) rfl trivial dX1_rankOf_173 ?_
        obtain ⟨eo174, hs⟩ := kO_at hs
        obtain ⟨x174, h174, e174, hs⟩ := cI_at hs
        refine ev_callV C (T_X1_anyNumber _ _ _ _ e174) (ci := 1) rfl eo174 wc_X1_anyNumber wm_X1_158 wi_X1_anyNumber ws_X1_anyNumber wz_X1 hy_X1_anyNumber ⟨(Nat.le_of_ble_eq_true rfl), (Nat.le_of_ble_eq_true rfl)⟩ ⟨(Nat.le_refl _), (Nat.le_refl _)⟩ (Nat.le_of_ble_eq_true rfl) rfl dX1_rankOf_174 ?_
        refine ev_if_eq C (tgt := 184) (by decide) dX1_rankOf_177 (fun q177 => ?_) (fun q177 => ?_)
        · replace hs := (if_pos q177).symm.trans hs
          refine ev_iconst C (v := 0) dX1_rankOf_184 (by decide) ?_
          cases hs
          exact ev_iret C rfl rfl (Nat.le_refl _) (Nat.le_refl _) rfl dX1_rankOf_185
        · replace hs := (if_neg q177).symm.trans hs
          refine ev_iconst C (v := 1) dX1_rankOf_180 (by decide) ?_
          refine ev_goto C (tgt := 185) (by decide) dX1_rankOf_181 ?_
          cases hs
          exact ev_iret C rfl rfl (Nat.le_refl _) (Nat.le_refl _) rfl dX1_rankOf_185
      · replace hs := (if_neg q168).symm.trans hs
        refine ev_iconst C (v := 2) dX1_rankOf_171 (by decide) ?_
        cases hs
        exact ev_iret C rfl rfl (Nat.le_refl _) (Nat.le_refl _) rfl dX1_rankOf_172
    · replace hs := (if_neg q157).symm.trans hs
      refine ev_iconst C (v := 3) dX1_rankOf_160 (by decide) ?_
      cases hs
      exact ev_iret C rfl rfl (Nat.le_refl _) (Nat.le_refl _) rfl dX1_rankOf_161
  · replace hs := (if_neg q131).symm.trans hs
    refine ev_aload_n C (x := .ref l0) rfl trivial dX1_rankOf_134 ?_
    refine ev_iload C rfl dX1_rankOf_135 ?_
    refine ev_iload_n C rfl dX1_rankOf_137 ?_
    refine ev_isub C dX1_rankOf_138 ?_
    refine ev_iload C rfl dX1_rankOf_139 ?_
    refine ev_iload_n C rfl dX1_rankOf_141 ?_
    obtain ⟨eo142, hs⟩ := kO_at hs
    obtain ⟨h142, e142, hs⟩ := cN_at hs
    refine ev_callV C (T_X1_multiply _ _ _ _ _ _ _ e142) (ci := 1) rfl eo142 wc_X1_multiply wm_X1_147 wi_X1_multiply ws_X1_multiply wz_X1 hy_X1_multiply ⟨(Nat.le_of_ble_eq_true rfl), (Nat.le_of_ble_eq_true rfl)⟩ ⟨(Nat.le_refl _), (Nat.le_refl _)⟩ (Nat.le_of_ble_eq_true rfl) rfl dX1_rankOf_142 ?_
    refine ev_iinc C (i := 5) (n := 1) (x := l5) (v := l5 + 1) rfl (congrArg (fun z => l5 + z) (show Int32.ofInt 1 = 1 by decide)) (by decide) dX1_rankOf_145 ?_
    refine ev_goto C (tgt := 127) (by decide) dX1_rankOf_148 ?_
    exact (K127 _ _ _ _ _ _ hs)
theorem t_X1_rankOf_127 (C : Cx p l s m args meth c B0 X RX1 "rankOf" cX1_rankOf 6 (some .int) [])   : ∀ (n : Nat) {l0 : Nat} {l1 : Int32} {l3 : Int32} {l4 : Int32} {l5 : Int32} {h : aH} (hs : s_X1_rankOf_127  n l0 l1 l3 l4 l5 h = some (r, h')), Ev p l e { frames := 2, cells := mc, slots := ms, locals := 50 } s m args below meth c D B0 X ws0 r h' mc ms 6 mc ms 127 [some (.ref l0), some (.int l1), none, some (.int l3), some (.int l4), some (.int l5)] [] h
  | 0, _, _, _, _, _, _, hs => nomatch hs
  | n + 1, _, _, _, _, _, _, hs => t_X1_rankOf_127_b C  (k127 := s_X1_rankOf_127  n) (fun _ _ _ _ _ _ hs => t_X1_rankOf_127 C  n hs) hs
theorem t_X1_rankOf_106 (C : Cx p l s m args meth c B0 X RX1 "rankOf" cX1_rankOf 6 (some .int) []) {k47 : Nat → Int32 → Int32 → Int32 → Int32 → aH → aO} {k56 : Nat → Int32 → Int32 → Int32 → Int32 → Int32 → aH → aO} (K47 : ∀ (l0 : Nat) (l1 : Int32) (l2 : Int32) (l3 : Int32) (l4 : Int32) (h : aH), k47 l0 l1 l2 l3 l4 h = some (r, h') → Ev p l e { frames := 2, cells := mc, slots := ms, locals := 50 } s m args below meth c D B0 X ws0 r h' mc ms 6 mc ms 47 [some (.ref l0), some (.int l1), some (.int l2), some (.int l3), some (.int l4), none] [] h) (K56 : ∀ (l0 : Nat) (l1 : Int32) (l2 : Int32) (l3 : Int32) (l4 : Int32) (l5 : Int32) (h : aH), k56 l0 l1 l2 l3 l4 l5 h = some (r, h') → Ev p l e { frames := 2, cells := mc, slots := ms, locals := 50 } s m args below meth c D B0 X ws0 r h' mc ms 6 mc ms 56 [some (.ref l0), some (.int l1), some (.int l2), some (.int l3), some (.int l4), some (.int l5)] [] h) {l0 : Nat} {l1 : Int32} {l2 : Int32} {l3 : Int32} {l4 : Int32} {l5 : Int32} {s0 : Int64} {s1 : Int32} {s2 : Nat} {h : aH} (hs : s_X1_rankOf_106 k47 k56 l0 l1 l2 l3 l4 l5 s0 s1 s2 h = some (r, h')) : Ev p l e { frames := 2, cells := mc, slots := ms, locals := 50 } s m args below meth c D B0 X ws0 r h' mc ms 6 mc ms 106 [some (.ref l0), some (.int l1), some (.int l2), some (.int l3), some (.int l4), some (.int l5)] [.long s0, .int s1, .ref s2] h := by
  unfold s_X1_rankOf_106 at hs
  obtain ⟨h106, e106, hs⟩ := aB hs
  refine ev_last C e106 dX1_rankOf_106 ?_
  refine ev_iinc C (i := 5) (n := 1) (x := l5) (v := l5 + 1) rfl (congrArg (fun z => l5 + z) (show Int32.ofInt 1 = 1 by decide)) (by decide) dX1_rankOf_107 ?_
  refine ev_goto C (tgt := 56) (by decide) dX1_rankOf_110 ?_
  exact (K56 _ _ _ _ _ _ _ hs)
theorem t_X1_rankOf_56_b (C : Cx p l s m args meth c B0 X RX1 "rankOf" cX1_rankOf 6 (some .int) []) {k47 : Nat → Int32 → Int32 → Int32 → Int32 → aH → aO} (K47 : ∀ (l0 : Nat) (l1 : Int32) (l2 : Int32) (l3 : Int32) (l4 : Int32) (h : aH), k47 l0 l1 l2 l3 l4 h = some (r, h') → Ev p l e { frames := 2, cells := mc, slots := ms, locals := 50 } s m args below meth c D B0 X ws0 r h' mc ms 6 mc ms 47 [some (.ref l0), some (.int l1), some (.int l2), some (.int l3), some (.int l4), none] [] h) {k56 : Nat → Int32 → Int32 → Int32 → Int32 → Int32 → aH → aO} (K56 : ∀ (l0 : Nat) (l1 : Int32) (l2 : Int32) (l3 : Int32) (l4 : Int32) (l5 : Int32) (h : aH), k56 l0 l1 l2 l3 l4 l5 h = some (r, h') → Ev p l e { frames := 2, cells := mc, slots := ms, locals := 50 } s m args below meth c D B0 X ws0 r h' mc ms 6 mc ms 56 [some (.ref l0), some (.int l1), some (.int l2), some (.int l3), some (.int l4), some (.int l5)] [] h) {l0 : Nat} {l1 : Int32} {l2 : Int32} {l3 : Int32} {l4 : Int32} {l5 : Int32} {h : aH} (hs : s_X1_rankOf_56_b k47 k56 l0 l1 l2 l3 l4 l5 h = some (r, h')) : Ev p l e { frames := 2, cells := mc, slots := ms, locals := 50 } s m args below meth c D B0 X ws0 r h' mc ms 6 mc ms 56 [some (.ref l0), some (.int l1), some (.int l2), some (.int l3), some (.int l4), some (.int l5)] [] h := by
  unfold s_X1_rankOf_56_b at hs
  refine ev_iload C rfl dX1_rankOf_56 ?_
  refine ev_iload_n C rfl dX1_rankOf_58 ?_
  refine ev_icmp_ge C (tgt := 113) (by decide) dX1_rankOf_59 (fun q59 => ?_) (fun q59 => ?_)
  · replace hs := (if_pos q59).symm.trans hs
    refine ev_iinc C (i := 4) (n := 1) (x := l4) (v := l4 + 1) rfl (congrArg (fun z => l4 + z) (show Int32.ofInt 1 = 1 by decide)) (by decide) dX1_rankOf_113 ?_
    refine ev_goto C (tgt := 47) (by decide) dX1_rankOf_116 ?_
    exact Ev.keep [true, true, true, true, true, false] (K47 _ _ _ _ _ _ hs)
  · replace hs := (if_neg q59).symm.trans hs
    refine ev_aload_n C (x := .ref l0) rfl trivial dX1_rankOf_62 ?_
    obtain ⟨x63, e63, hs⟩ := aB hs
    refine ev_get C (ci := 1) (k := 7) rfl wu_1 (by decide) wf_X1_25 (gO_F e63) dX1_rankOf_63 ?_
    refine ev_iload C rfl dX1_rankOf_66 ?_
    refine ev_iconst C (v := 3) dX1_rankOf_68 (by decide) ?_
    refine ev_imul C dX1_rankOf_69 ?_
    refine ev_iload C rfl dX1_rankOf_70 ?_
    refine ev_iadd C dX1_rankOf_72 ?_
    refine ev_iload_n C rfl dX1_rankOf_73 ?_
    refine ev_if_eq C (tgt := 93) (by decide) dX1_rankOf_74 (fun q74 => ?_) (fun q74 => ?_)
    · replace hs := (if_pos q74).symm.trans hs
      refine ev_aload_n C (x := .ref l0) rfl trivial dX1_rankOf_93 ?_
      obtain ⟨x94, e94, hs⟩ := aB hs
      refine ev_get C (ci := 1) (k := 4) rfl wu_1 (by decide) wf_X1_15 (gO_F e94) dX1_rankOf_94 ?_
      refine ev_iload C rfl dX1_rankOf_97 ?_
      refine ev_iconst C (v := 2) dX1_rankOf_99 (by decide) ?_
      refine ev_imul C dX1_rankOf_100 ?_
      refine ev_iload C rfl dX1_rankOf_101 ?_
      refine ev_iadd C dX1_rankOf_103 ?_
      obtain ⟨x104, e104, hs⟩ := aB hs
      refine ev_iald C e104 dX1_rankOf_104 ?_
      refine ev_i2l C dX1_rankOf_105 ?_
      exact (t_X1_rankOf_106 C K47 K56 hs)
    · replace hs := (if_neg q74).symm.trans hs
      refine ev_aload_n C (x := .ref l0) rfl trivial dX1_rankOf_77 ?_
      obtain ⟨x78, e78, hs⟩ := aB hs
      refine ev_get C (ci := 1) (k := 5) rfl wu_1 (by decide) wf_X1_18 (gO_F e78) dX1_rankOf_78 ?_
      refine ev_iload C rfl dX1_rankOf_81 ?_
      refine ev_iconst C (v := 3) dX1_rankOf_83 (by decide) ?_
      refine ev_imul C dX1_rankOf_84 ?_
      refine ev_iload C rfl dX1_rankOf_85 ?_
      refine ev_iadd C dX1_rankOf_87 ?_
      obtain ⟨x88, e88, hs⟩ := aB hs
      refine ev_iald C e88 dX1_rankOf_88 ?_
      refine ev_i2l C dX1_rankOf_89 ?_
      refine ev_goto C (tgt := 106) (by decide) dX1_rankOf_90 ?_
      exact (t_X1_rankOf_106 C K47 K56 hs)
theorem t_X1_rankOf_56 (C : Cx p l s m args meth c B0 X RX1 "rankOf" cX1_rankOf 6 (some .int) []) {k47 : Nat → Int32 → Int32 → Int32 → Int32 → aH → aO} (K47 : ∀ (l0 : Nat) (l1 : Int32) (l2 : Int32) (l3 : Int32) (l4 : Int32) (h : aH), k47 l0 l1 l2 l3 l4 h = some (r, h') → Ev p l e { frames := 2, cells := mc, slots := ms, locals := 50 } s m args below meth c D B0 X ws0 r h' mc ms 6 mc ms 47 [some (.ref l0), some (.int l1), some (.int l2), some (.int l3), some (.int l4), none] [] h) : ∀ (n : Nat) {l0 : Nat} {l1 : Int32} {l2 : Int32} {l3 : Int32} {l4 : Int32} {l5 : Int32} {h : aH} (hs : s_X1_rankOf_56 k47 n l0 l1 l2 l3 l4 l5 h = some (r, h')), Ev p l e { frames := 2, cells := mc, slots := ms, locals := 50 } s m args below meth c D B0 X ws0 r h' mc ms 6 mc ms 56 [some (.ref l0), some (.int l1), some (.int l2), some (.int l3), some (.int l4), some (.int l5)] [] h
  | 0, _, _, _, _, _, _, _, hs => nomatch hs
  | n + 1, _, _, _, _, _, _, _, hs => t_X1_rankOf_56_b C K47 (k56 := s_X1_rankOf_56 k47 n) (fun _ _ _ _ _ _ _ hs => t_X1_rankOf_56 C K47 n hs) hs
theorem t_X1_rankOf_47_b (C : Cx p l s m args meth c B0 X RX1 "rankOf" cX1_rankOf 6 (some .int) [])   {k47 : Nat → Int32 → Int32 → Int32 → Int32 → aH → aO} (K47 : ∀ (l0 : Nat) (l1 : Int32) (l2 : Int32) (l3 : Int32) (l4 : Int32) (h : aH), k47 l0 l1 l2 l3 l4 h = some (r, h') → Ev p l e { frames := 2, cells := mc, slots := ms, locals := 50 } s m args below meth c D B0 X ws0 r h' mc ms 6 mc ms 47 [some (.ref l0), some (.int l1), some (.int l2), some (.int l3), some (.int l4), none] [] h) {l0 : Nat} {l1 : Int32} {l2 : Int32} {l3 : Int32} {l4 : Int32} {h : aH} (hs : s_X1_rankOf_47_b  k47 l0 l1 l2 l3 l4 h = some (r, h')) : Ev p l e { frames := 2, cells := mc, slots := ms, locals := 50 } s m args below meth c D B0 X ws0 r h' mc ms 6 mc ms 47 [some (.ref l0), some (.int l1), some (.int l2), some (.int l3), some (.int l4), none] [] h := by
  unfold s_X1_rankOf_47_b at hs
  refine ev_iload C rfl dX1_rankOf_47 ?_
  refine ev_iload_n C rfl dX1_rankOf_49 ?_
  refine ev_icmp_ge C (tgt := 119) (by decide) dX1_rankOf_50 (fun q50 => ?_) (fun q50 => ?_)
  · replace hs := (if_pos q50).symm.trans hs
    refine ev_iload_n C rfl dX1_rankOf_119 ?_
    refine ev_iload_n C rfl dX1_rankOf_120 ?_
    refine ev_imul C dX1_rankOf_121 ?_
    refine ev_istore C (by decide) dX1_rankOf_122 ?_
    refine ev_iload_n C rfl dX1_rankOf_124 ?_
    refine ev_istore C (by decide) dX1_rankOf_125 ?_
    exact Ev.keep [true, true, false, true, true, true] (t_X1_rankOf_127 C  FU hs)
  · replace hs := (if_neg q50).symm.trans hs
    refine ev_iconst C (v := 0) dX1_rankOf_53 (by decide) ?_
    refine ev_istore C (by decide) dX1_rankOf_54 ?_
    exact (t_X1_rankOf_56 C K47 FU hs)
theorem t_X1_rankOf_47 (C : Cx p l s m args meth c B0 X RX1 "rankOf" cX1_rankOf 6 (some .int) [])   : ∀ (n : Nat) {l0 : Nat} {l1 : Int32} {l2 : Int32} {l3 : Int32} {l4 : Int32} {h : aH} (hs : s_X1_rankOf_47  n l0 l1 l2 l3 l4 h = some (r, h')), Ev p l e { frames := 2, cells := mc, slots := ms, locals := 50 } s m args below meth c D B0 X ws0 r h' mc ms 6 mc ms 47 [some (.ref l0), some (.int l1), some (.int l2), some (.int l3), some (.int l4), none] [] h
  | 0, _, _, _, _, _, _, hs => nomatch hs
  | n + 1, _, _, _, _, _, _, hs => t_X1_rankOf_47_b C  (k47 := s_X1_rankOf_47  n) (fun _ _ _ _ _ _ hs => t_X1_rankOf_47 C  n hs) hs
theorem t_X1_rankOf_35 (C : Cx p l s m args meth c B0 X RX1 "rankOf" cX1_rankOf 6 (some .int) [])   {l0 : Nat} {l1 : Int32} {l2 : Int32} {s0 : Int32} {h : aH} (hs : s_X1_rankOf_35  l0 l1 l2 s0 h = some (r, h')) : Ev p l e { frames := 2, cells := mc, slots := ms, locals := 50 } s m args below meth c D B0 X ws0 r h' mc ms 6 mc ms 35 [some (.ref l0), some (.int l1), some (.int l2), none, none, none] [.int s0] h := by
  unfold s_X1_rankOf_35 at hs
  refine ev_istore_n C (by decide) dX1_rankOf_35 ?_
  refine ev_aload_n C (x := .ref l0) rfl trivial dX1_rankOf_36 ?_
  obtain ⟨x37, e37, hs⟩ := aB hs
  refine ev_get C (ci := 1) (k := 7) rfl wu_1 (by decide) wf_X1_25 (gO_F e37) dX1_rankOf_37 ?_
  refine ev_lconst C (v := 0) dX1_rankOf_40 (by decide) ?_
  obtain ⟨h41, e41, hs⟩ := cN_at hs
  refine ev_callS C (T_J7_fill_d0a16 _ _ _ _ _ e41) wc_J7_fill_d0a16 wm_X1_144 wt_J7_fill_d0a16 wz_J7 hy_J7_fill_d0a16 ⟨(Nat.le_of_ble_eq_true rfl), (Nat.le_of_ble_eq_true rfl)⟩ ⟨(Nat.le_refl _), (Nat.le_refl _)⟩ (Nat.le_of_ble_eq_true rfl) rfl dX1_rankOf_41 ?_
  refine ev_iconst C (v := 0) dX1_rankOf_44 (by decide) ?_
  refine ev_istore C (by decide) dX1_rankOf_45 ?_
  exact (t_X1_rankOf_47 C  FU hs)
theorem hy_X1_rankOf : yX1_rankOf.cls ≠ "java/lang/invoke/MethodHandle" ∧ yX1_rankOf.cls ≠ "java/lang/invoke/VarHandle" ∧ (parseMethodDescriptor yX1_rankOf.desc).map (fun d => d.parameters.length) = some 1 := by decide +kernel
theorem T_X1_rankOf (o : Nat) (a1 : Int32) (h : aH) (r : aR) (h' : aH) (hs : s_X1_rankOf o a1 h = some (r, h')) : Mt yX1_rankOf (Cond.code yX1_rankOf cX1_rankOf 6 (some .int) :: aTB) 2 50 0 0 [.ref o, .int a1] h r h' := by
  unfold s_X1_rankOf at hs
  refine Mt_of (k := 4) (by decide) rfl (fun p l e s m args below meth c D B0 X ws0 C => ?_)
  show Ev p l e { frames := 2, cells := 0, slots := 0, locals := 50 } s m args below meth c D B0 X ws0 r h' 0 0 6 0 0 0 [some (.ref o), some (.int a1), none, none, none, none] [] h
  refine ev_aload_n C (x := .ref o) rfl trivial dX1_rankOf_0 ?_
  obtain ⟨x1, e1, hs⟩ := aB hs
  refine ev_get C (ci := 1) (k := 0) rfl wu_1 (by decide) wf_X1_43 (gO_F e1) dX1_rankOf_1 ?_
  obtain ⟨x4, e4, hs⟩ := aB hs
  refine ev_getN C (ci := 2) (k := 0) rfl wu_2 (by decide) wg_X1_92 (gO_F e4) dX1_rankOf_4 ?_
  refine ev_iconst C (v := 0) dX1_rankOf_7 (by decide) ?_
  obtain ⟨x8, e8, hs⟩ := aB hs
  refine ev_iald C e8 dX1_rankOf_8 ?_
  refine ev_istore_n C (by decide) dX1_rankOf_9 ?_
  refine ev_iload_n C rfl dX1_rankOf_10 ?_
  refine ev_if_eq C (tgt := 26) (by decide) dX1_rankOf_11 (fun q11 => ?_) (fun q11 => ?_)
  · replace hs := (if_pos q11).symm.trans hs
    refine ev_aload_n C (x := .ref o) rfl trivial dX1_rankOf_26 ?_
    obtain ⟨x27, e27, hs⟩ := aB hs
    refine ev_get C (ci := 1) (k := 0) rfl wu_1 (by decide) wf_X1_43 (gO_F e27) dX1_rankOf_27 ?_
    obtain ⟨x30, e30, hs⟩ := aB hs
    refine ev_getN C (ci := 2) (k := 0) rfl wu_2 (by decide) wg_X1_92 (gO_F e30) dX1_rankOf_30 ?_
    refine ev_iconst C (v := 1) dX1_rankOf_33 (by decide) ?_
    obtain ⟨x34, e34, hs⟩ := aB hs
    refine ev_iald C e34 dX1_rankOf_34 ?_
    exact (t_X1_rankOf_35 C  hs)
  · replace hs := (if_neg q11).symm.trans hs
    refine ev_aload_n C (x := .ref o) rfl trivial dX1_rankOf_14 ?_
    obtain ⟨x15, e15, hs⟩ := aB hs
    refine ev_get C (ci := 1) (k := 0) rfl wu_1 (by decide) wf_X1_43 (gO_F e15) dX1_rankOf_15 ?_
    obtain ⟨x18, e18, hs⟩ := aB hs
    refine ev_getN C (ci := 2) (k := 0) rfl wu_2 (by decide) wg_X1_92 (gO_F e18) dX1_rankOf_18 ?_
    refine ev_iconst C (v := 4) dX1_rankOf_21 (by decide) ?_
    obtain ⟨x22, e22, hs⟩ := aB hs
    refine ev_iald C e22 dX1_rankOf_22 ?_
    refine ev_goto C (tgt := 35) (by decide) dX1_rankOf_23 ?_
    exact (t_X1_rankOf_35 C  hs)
end
-- X1_swapColumn
theorem dX1_swapColumn_0 : decode cX1_swapColumn 0 = .ok (.iconst 0, 1) := by decide +kernel
theorem dX1_swapColumn_1 : decode cX1_swapColumn 1 = .ok (.istore_n 2, 1) := by decide +kernel
theorem dX1_swapColumn_2 : decode cX1_swapColumn 2 = .ok (.iload_n 2, 1) := by decide +kernel
theorem dX1_swapColumn_3 : decode cX1_swapColumn 3 = .ok (.iconst 3, 1) := by decide +kernel
theorem dX1_swapColumn_4 : decode cX1_swapColumn 4 = .ok (.if_icmp .ge 43, 3) := by decide +kernel
theorem dX1_swapColumn_7 : decode cX1_swapColumn 7 = .ok (.aload_n 0, 1) := by decide +kernel
theorem dX1_swapColumn_8 : decode cX1_swapColumn 8 = .ok (.getfield 25, 3) := by decide +kernel
theorem dX1_swapColumn_11 : decode cX1_swapColumn 11 = .ok (.iload_n 2, 1) := by decide +kernel
theorem dX1_swapColumn_12 : decode cX1_swapColumn 12 = .ok (.iconst 3, 1) := by decide +kernel
theorem dX1_swapColumn_13 : decode cX1_swapColumn 13 = .ok (.imul, 1) := by decide +kernel
theorem dX1_swapColumn_14 : decode cX1_swapColumn 14 = .ok (.iload_n 1, 1) := by decide +kernel
theorem dX1_swapColumn_15 : decode cX1_swapColumn 15 = .ok (.iadd, 1) := by decide +kernel
theorem dX1_swapColumn_16 : decode cX1_swapColumn 16 = .ok (.laload, 1) := by decide +kernel
theorem dX1_swapColumn_17 : decode cX1_swapColumn 17 = .ok (.lstore_n 3, 1) := by decide +kernel
theorem dX1_swapColumn_18 : decode cX1_swapColumn 18 = .ok (.aload_n 0, 1) := by decide +kernel
theorem dX1_swapColumn_19 : decode cX1_swapColumn 19 = .ok (.getfield 25, 3) := by decide +kernel
theorem dX1_swapColumn_22 : decode cX1_swapColumn 22 = .ok (.iload_n 2, 1) := by decide +kernel
theorem dX1_swapColumn_23 : decode cX1_swapColumn 23 = .ok (.iconst 3, 1) := by decide +kernel
theorem dX1_swapColumn_24 : decode cX1_swapColumn 24 = .ok (.imul, 1) := by decide +kernel
theorem dX1_swapColumn_25 : decode cX1_swapColumn 25 = .ok (.iload_n 1, 1) := by decide +kernel
theorem dX1_swapColumn_26 : decode cX1_swapColumn 26 = .ok (.iadd, 1) := by decide +kernel
theorem dX1_swapColumn_27 : decode cX1_swapColumn 27 = .ok (.aload_n 0, 1) := by decide +kernel
theorem dX1_swapColumn_28 : decode cX1_swapColumn 28 = .ok (.getfield 34, 3) := by decide +kernel
theorem dX1_swapColumn_31 : decode cX1_swapColumn 31 = .ok (.iload_n 2, 1) := by decide +kernel
theorem dX1_swapColumn_32 : decode cX1_swapColumn 32 = .ok (.laload, 1) := by decide +kernel
theorem dX1_swapColumn_33 : decode cX1_swapColumn 33 = .ok (.lastore, 1) := by decide +kernel
theorem dX1_swapColumn_34 : decode cX1_swapColumn 34 = .ok (.aload_n 0, 1) := by decide +kernel
theorem dX1_swapColumn_35 : decode cX1_swapColumn 35 = .ok (.getfield 34, 3) := by decide +kernel
theorem dX1_swapColumn_38 : decode cX1_swapColumn 38 = .ok (.iload_n 2, 1) := by decide +kernel
theorem dX1_swapColumn_39 : decode cX1_swapColumn 39 = .ok (.lload_n 3, 1) := by decide +kernel
theorem dX1_swapColumn_40 : decode cX1_swapColumn 40 = .ok (.lastore, 1) := by decide +kernel
theorem dX1_swapColumn_41 : decode cX1_swapColumn 41 = .ok (.iinc 2 1, 3) := by decide +kernel
theorem dX1_swapColumn_44 : decode cX1_swapColumn 44 = .ok (.goto (-42), 3) := by decide +kernel
theorem dX1_swapColumn_47 : decode cX1_swapColumn 47 = .ok (.return_, 1) := by decide +kernel
def s_X1_swapColumn_2_b  (k2 : Nat → Int32 → Int32 → aH → aO) (l0 : Nat) (l1 : Int32) (l2 : Int32) (h : aH) : aO :=
  if 3 ≤ l2 then (some (.inl none, h)) else ((gO h (.ref l0) 1 7).bind fun x8 => (ldJ h (.ref x8) ((l2 * 3) + l1)).bind fun x16 => (gO h (.ref l0) 1 7).bind fun x19 => (gO h (.ref l0) 1 11).bind fun x28 => (ldJ h (.ref x28) l2).bind fun x32 => (stJ h (.ref x19) ((l2 * 3) + l1) x32).bind fun h33 => (gO h33 (.ref l0) 1 11).bind fun x35 => (stJ h33 (.ref x35) l2 x16).bind fun h40 => k2 l0 l1 (l2 + 1) h40)
def s_X1_swapColumn_2  (n : Nat) : Nat → Int32 → Int32 → aH → aO := lpF (fun _ _ _ _ => none) (s_X1_swapColumn_2_b ) n
def s_X1_swapColumn (o : Nat) (a1 : Int32) (h : aH) : aO :=
  s_X1_swapColumn_2 FU o a1 0 h
section
variable {p : Program} {l : Launch} {e : Env} {s : State} {m : MethodId} {args : Array Value} {below : List Frame} {meth : Method} {c : Code} {D : va_G} {B0 : Nat} {X : Nat → Nat} {ws0 : va_W} {r : aR} {h' : aH} {mc ms : Nat}
theorem t_X1_swapColumn_2_b (C : Cx p l s m args meth c B0 X RX1 "swapColumn" cX1_swapColumn 5 none [])   {k2 : Nat → Int32 → Int32 → aH → aO} (K2 : ∀ (l0 : Nat) (l1 : Int32) (l2 : Int32) (h : aH), k2 l0 l1 l2 h = some (r, h') → Ev p l e { frames := 0, cells := mc, slots := ms, locals := 0 } s m args below meth c D B0 X ws0 r h' mc ms 5 mc ms 2 [some (.ref l0), some (.int l1), some (.int l2), none, none] [] h) {l0 : Nat} {l1 : Int32} {l2 : Int32} {h : aH} (hs : s_X1_swapColumn_2_b  k2 l0 l1 l2 h = some (r, h')) : Ev p l e { frames := 0, cells := mc, slots := ms, locals := 0 } s m args below meth c D B0 X ws0 r h' mc ms 5 mc ms 2 [some (.ref l0), some (.int l1), some (.int l2), none, none] [] h := by
  unfold s_X1_swapColumn_2_b at hs
  refine ev_iload_n C rfl dX1_swapColumn_2 ?_
  refine ev_iconst C (v := 3) dX1_swapColumn_3 (by decide) ?_
  refine ev_icmp_ge C (tgt := 47) (by decide) dX1_swapColumn_4 (fun q4 => ?_) (fun q4 => ?_)
  · replace hs := (if_pos q4).symm.trans hs
    cases hs
    exact ev_vret C rfl rfl (Nat.le_refl _) (Nat.le_refl _) rfl dX1_swapColumn_47
  · replace hs := (if_neg q4).symm.trans hs
    refine ev_aload_n C (x := .ref l0) rfl trivial dX1_swapColumn_7 ?_
    obtain ⟨x8, e8, hs⟩ := aB hs
    refine ev_get C (ci := 1) (k := 7) rfl wu_1 (by decide) wf_X1_25 (gO_F e8) dX1_swapColumn_8 ?_
    refine ev_iload_n C rfl dX1_swapColumn_11 ?_
    refine ev_iconst C (v := 3) dX1_swapColumn_12 (by decide) ?_
    refine ev_imul C dX1_swapColumn_13 ?_
    refine ev_iload_n C rfl dX1_swapColumn_14 ?_
    refine ev_iadd C dX1_swapColumn_15 ?_
    obtain ⟨x16, e16, hs⟩ := aB hs
    refine ev_lald C e16 dX1_swapColumn_16 ?_
    refine ev_lstore_n C (by decide) dX1_swapColumn_17 ?_
    refine ev_aload_n C (x := .ref l0) rfl trivial dX1_swapColumn_18 ?_
    obtain ⟨x19, e19, hs⟩ := aB hs
    refine ev_get C (ci := 1) (k := 7) rfl wu_1 (by decide) wf_X1_25 (gO_F e19) dX1_swapColumn_19 ?_
    refine ev_iload_n C rfl dX1_swapColumn_22 ?_
    refine ev_iconst C (v := 3) dX1_swapColumn_23 (by decide) ?_
    refine ev_imul C dX1_swapColumn_24 ?_
    refine ev_iload_n C rfl dX1_swapColumn_25 ?_
    refine ev_iadd C dX1_swapColumn_26 ?_
    refine ev_aload_n C (x := .ref l0) rfl trivial dX1_swapColumn_27 ?_
    obtain ⟨x28, e28, hs⟩ := aB hs
    refine ev_get C (ci := 1) (k := 11) rfl wu_1 (by decide) wf_X1_34 (gO_F e28) dX1_swapColumn_28 ?_
    refine ev_iload_n C rfl dX1_swapColumn_31 ?_
    obtain ⟨x32, e32, hs⟩ := aB hs
    refine ev_lald C e32 dX1_swapColumn_32 ?_
    obtain ⟨h33, e33, hs⟩ := aB hs
    refine ev_last C e33 dX1_swapColumn_33 ?_
    refine ev_aload_n C (x := .ref l0) rfl trivial dX1_swapColumn_34 ?_
    obtain ⟨x35, e35, hs⟩ := aB hs
    refine ev_get C (ci := 1) (k := 11) rfl wu_1 (by decide) wf_X1_34 (gO_F e35) dX1_swapColumn_35 ?_
    refine ev_iload_n C rfl dX1_swapColumn_38 ?_
    refine ev_lload_n C rfl dX1_swapColumn_39 ?_
    obtain ⟨h40, e40, hs⟩ := aB hs
    refine ev_last C e40 dX1_swapColumn_40 ?_
    refine ev_iinc C (i := 2) (n := 1) (x := l2) (v := l2 + 1) rfl (congrArg (fun z => l2 + z) (show Int32.ofInt 1 = 1 by decide)) (by decide) dX1_swapColumn_41 ?_
    refine ev_goto C (tgt := 2) (by decide) dX1_swapColumn_44 ?_
    exact Ev.keep [true, true, true, false, true] (K2 _ _ _ _ hs)
theorem t_X1_swapColumn_2 (C : Cx p l s m args meth c B0 X RX1 "swapColumn" cX1_swapColumn 5 none [])   : ∀ (n : Nat) {l0 : Nat} {l1 : Int32} {l2 : Int32} {h : aH} (hs : s_X1_swapColumn_2  n l0 l1 l2 h = some (r, h')), Ev p l e { frames := 0, cells := mc, slots := ms, locals := 0 } s m args below meth c D B0 X ws0 r h' mc ms 5 mc ms 2 [some (.ref l0), some (.int l1), some (.int l2), none, none] [] h
  | 0, _, _, _, _, hs => nomatch hs
  | n + 1, _, _, _, _, hs => t_X1_swapColumn_2_b C  (k2 := s_X1_swapColumn_2  n) (fun _ _ _ _ hs => t_X1_swapColumn_2 C  n hs) hs
theorem hy_X1_swapColumn : yX1_swapColumn.cls ≠ "java/lang/invoke/MethodHandle" ∧ yX1_swapColumn.cls ≠ "java/lang/invoke/VarHandle" ∧ (parseMethodDescriptor yX1_swapColumn.desc).map (fun d => d.parameters.length) = some 1 := by decide +kernel
theorem T_X1_swapColumn (o : Nat) (a1 : Int32) (h : aH) (r : aR) (h' : aH) (hs : s_X1_swapColumn o a1 h = some (r, h')) : Mt yX1_swapColumn (Cond.code yX1_swapColumn cX1_swapColumn 5 none :: aTB) 0 0 0 0 [.ref o, .int a1] h r h' := by
  unfold s_X1_swapColumn at hs
  refine Mt_of (k := 3) (by decide) rfl (fun p l e s m args below meth c D B0 X ws0 C => ?_)
  show Ev p l e { frames := 0, cells := 0, slots := 0, locals := 0 } s m args below meth c D B0 X ws0 r h' 0 0 5 0 0 0 [some (.ref o), some (.int a1), none, none, none] [] h
  refine ev_iconst C (v := 0) dX1_swapColumn_0 (by decide) ?_
  refine ev_istore_n C (by decide) dX1_swapColumn_1 ?_
  exact (t_X1_swapColumn_2 C  FU hs)
end
-- X1_sharedFactor
theorem dX1_sharedFactor_0 : decode cX1_sharedFactor 0 = .ok (.lload_n 0, 1) := by decide +kernel
theorem dX1_sharedFactor_1 : decode cX1_sharedFactor 1 = .ok (.invokestatic 184, 3) := by decide +kernel
theorem dX1_sharedFactor_4 : decode cX1_sharedFactor 4 = .ok (.lstore 4, 2) := by decide +kernel
theorem dX1_sharedFactor_6 : decode cX1_sharedFactor 6 = .ok (.lload_n 2, 1) := by decide +kernel
theorem dX1_sharedFactor_7 : decode cX1_sharedFactor 7 = .ok (.invokestatic 184, 3) := by decide +kernel
theorem dX1_sharedFactor_10 : decode cX1_sharedFactor 10 = .ok (.lstore 6, 2) := by decide +kernel
theorem dX1_sharedFactor_12 : decode cX1_sharedFactor 12 = .ok (.iconst 0, 1) := by decide +kernel
theorem dX1_sharedFactor_13 : decode cX1_sharedFactor 13 = .ok (.istore 8, 2) := by decide +kernel
theorem dX1_sharedFactor_15 : decode cX1_sharedFactor 15 = .ok (.iload 8, 2) := by decide +kernel
theorem dX1_sharedFactor_17 : decode cX1_sharedFactor 17 = .ok (.bipush 100, 2) := by decide +kernel
theorem dX1_sharedFactor_19 : decode cX1_sharedFactor 19 = .ok (.if_icmp .ge 31, 3) := by decide +kernel
theorem dX1_sharedFactor_22 : decode cX1_sharedFactor 22 = .ok (.lload 6, 2) := by decide +kernel
theorem dX1_sharedFactor_24 : decode cX1_sharedFactor 24 = .ok (.lconst 0, 1) := by decide +kernel
theorem dX1_sharedFactor_25 : decode cX1_sharedFactor 25 = .ok (.lcmp, 1) := by decide +kernel
theorem dX1_sharedFactor_26 : decode cX1_sharedFactor 26 = .ok (.ifCond .eq 24, 3) := by decide +kernel
theorem dX1_sharedFactor_29 : decode cX1_sharedFactor 29 = .ok (.lload 4, 2) := by decide +kernel
theorem dX1_sharedFactor_31 : decode cX1_sharedFactor 31 = .ok (.lload 6, 2) := by decide +kernel
theorem dX1_sharedFactor_33 : decode cX1_sharedFactor 33 = .ok (.lrem, 1) := by decide +kernel
theorem dX1_sharedFactor_34 : decode cX1_sharedFactor 34 = .ok (.lstore 9, 2) := by decide +kernel
theorem dX1_sharedFactor_36 : decode cX1_sharedFactor 36 = .ok (.lload 6, 2) := by decide +kernel
theorem dX1_sharedFactor_38 : decode cX1_sharedFactor 38 = .ok (.lstore 4, 2) := by decide +kernel
theorem dX1_sharedFactor_40 : decode cX1_sharedFactor 40 = .ok (.lload 9, 2) := by decide +kernel
theorem dX1_sharedFactor_42 : decode cX1_sharedFactor 42 = .ok (.lstore 6, 2) := by decide +kernel
theorem dX1_sharedFactor_44 : decode cX1_sharedFactor 44 = .ok (.iinc 8 1, 3) := by decide +kernel
theorem dX1_sharedFactor_47 : decode cX1_sharedFactor 47 = .ok (.goto (-32), 3) := by decide +kernel
theorem dX1_sharedFactor_50 : decode cX1_sharedFactor 50 = .ok (.lload 4, 2) := by decide +kernel
theorem dX1_sharedFactor_52 : decode cX1_sharedFactor 52 = .ok (.lreturn, 1) := by decide +kernel
def s_X1_sharedFactor_15_b  (k15 : Int64 → Int64 → Int32 → aH → aO) (l4 : Int64) (l6 : Int64) (l8 : Int32) (h : aH) : aO :=
  if 100 ≤ l8 then (some (.inl (some (.long l4)), h)) else (if (lg_cmp l6 0) = 0 then (some (.inl (some (.long l4)), h)) else (nzL l6 (k15 l6 (l4 - l4 / l6 * l6) (l8 + 1) h)))
def s_X1_sharedFactor_15  (n : Nat) : Int64 → Int64 → Int32 → aH → aO := lpF (fun _ _ _ _ => none) (s_X1_sharedFactor_15_b ) n
def s_X1_sharedFactor (a1 : Int64) (a2 : Int64) (h : aH) : aO :=
  s_X1_sharedFactor_15 FU (jabsL a1) (jabsL a2) 0 h
section
variable {p : Program} {l : Launch} {e : Env} {s : State} {m : MethodId} {args : Array Value} {below : List Frame} {meth : Method} {c : Code} {D : va_G} {B0 : Nat} {X : Nat → Nat} {ws0 : va_W} {r : aR} {h' : aH} {mc ms : Nat}
theorem t_X1_sharedFactor_15_b (C : Cx p l s m args meth c B0 X RX1 "sharedFactor" cX1_sharedFactor 11 (some .long) [])   {k15 : Int64 → Int64 → Int32 → aH → aO} (K15 : ∀ (l4 : Int64) (l6 : Int64) (l8 : Int32) (h : aH), k15 l4 l6 l8 h = some (r, h') → Ev p l e { frames := 1, cells := mc, slots := ms, locals := 23 } s m args below meth c D B0 X ws0 r h' mc ms 11 mc ms 15 [none, none, none, none, some (.long l4), none, some (.long l6), none, some (.int l8), none, none] [] h) {l4 : Int64} {l6 : Int64} {l8 : Int32} {h : aH} (hs : s_X1_sharedFactor_15_b  k15 l4 l6 l8 h = some (r, h')) : Ev p l e { frames := 1, cells := mc, slots := ms, locals := 23 } s m args below meth c D B0 X ws0 r h' mc ms 11 mc ms 15 [none, none, none, none, some (.long l4), none, some (.long l6), none, some (.int l8), none, none] [] h := by
  unfold s_X1_sharedFactor_15_b at hs
  refine ev_iload C rfl dX1_sharedFactor_15 ?_
  refine ev_bipush C (v := 100) dX1_sharedFactor_17 (by decide) ?_
  refine ev_icmp_ge C (tgt := 50) (by decide) dX1_sharedFactor_19 (fun q19 => ?_) (fun q19 => ?_)
  · replace hs := (if_pos q19).symm.trans hs
    refine ev_lload C rfl dX1_sharedFactor_50 ?_
    cases hs
    exact ev_lret C rfl rfl (Nat.le_refl _) (Nat.le_refl _) rfl dX1_sharedFactor_52
  · replace hs := (if_neg q19).symm.trans hs
    refine ev_lload C rfl dX1_sharedFactor_22 ?_
    refine ev_lconst C (v := 0) dX1_sharedFactor_24 (by decide) ?_
    refine ev_lcmp C dX1_sharedFactor_25 ?_
    refine ev_if_eq C (tgt := 50) (by decide) dX1_sharedFactor_26 (fun q26 => ?_) (fun q26 => ?_)
    · replace hs := (if_pos q26).symm.trans hs
      refine ev_lload C rfl dX1_sharedFactor_50 ?_
      cases hs
      exact ev_lret C rfl rfl (Nat.le_refl _) (Nat.le_refl _) rfl dX1_sharedFactor_52
    · replace hs := (if_neg q26).symm.trans hs
      refine ev_lload C rfl dX1_sharedFactor_29 ?_
      refine ev_lload C rfl dX1_sharedFactor_31 ?_
      obtain ⟨n33, hs⟩ := nzL_at hs
      refine ev_lrem C n33 dX1_sharedFactor_33 ?_
      refine ev_lstore C (by decide) dX1_sharedFactor_34 ?_
      refine ev_lload C rfl dX1_sharedFactor_36 ?_
      refine ev_lstore C (by decide) dX1_sharedFactor_38 ?_
      refine ev_lload C rfl dX1_sharedFactor_40 ?_
      refine ev_lstore C (by decide) dX1_sharedFactor_42 ?_
      refine ev_iinc C (i := 8) (n := 1) (x := l8) (v := l8 + 1) rfl (congrArg (fun z => l8 + z) (show Int32.ofInt 1 = 1 by decide)) (by decide) dX1_sharedFactor_44 ?_
      refine ev_goto C (tgt := 15) (by decide) dX1_sharedFactor_47 ?_
      exact Ev.keep [true, true, true, true, true, true, true, true, true, false, true] (K15 _ _ _ _ hs)
theorem t_X1_sharedFactor_15 (C : Cx p l s m args meth c B0 X RX1 "sharedFactor" cX1_sharedFactor 11 (some .long) [])   : ∀ (n : Nat) {l4 : Int64} {l6 : Int64} {l8 : Int32} {h : aH} (hs : s_X1_sharedFactor_15  n l4 l6 l8 h = some (r, h')), Ev p l e { frames := 1, cells := mc, slots := ms, locals := 23 } s m args below meth c D B0 X ws0 r h' mc ms 11 mc ms 15 [none, none, none, none, some (.long l4), none, some (.long l6), none, some (.int l8), none, none] [] h
  | 0, _, _, _, _, hs => nomatch hs
  | n + 1, _, _, _, _, hs => t_X1_sharedFactor_15_b C  (k15 := s_X1_sharedFactor_15  n) (fun _ _ _ _ hs => t_X1_sharedFactor_15 C  n hs) hs
theorem hy_X1_sharedFactor : yX1_sharedFactor.cls ≠ "java/lang/invoke/MethodHandle" ∧ yX1_sharedFactor.cls ≠ "java/lang/invoke/VarHandle" ∧ (parseMethodDescriptor yX1_sharedFactor.desc).map (fun d => d.parameters.length) = some 2 := by decide +kernel
theorem T_X1_sharedFactor (a1 : Int64) (a2 : Int64) (h : aH) (r : aR) (h' : aH) (hs : s_X1_sharedFactor a1 a2 h = some (r, h')) : Mt yX1_sharedFactor (Cond.code yX1_sharedFactor cX1_sharedFactor 11 (some .long) :: aTB) 1 23 0 0 [.long a1, .long a2] h r h' := by
  unfold s_X1_sharedFactor at hs
  refine Mt_of (k := 7) (by decide) rfl (fun p l e s m args below meth c D B0 X ws0 C => ?_)
  show Ev p l e { frames := 1, cells := 0, slots := 0, locals := 23 } s m args below meth c D B0 X ws0 r h' 0 0 11 0 0 0 [some (.long a1), none, some (.long a2), none, none, none, none, none, none, none, none] [] h
  refine ev_lload_n C rfl dX1_sharedFactor_0 ?_
  refine ev_mabsL C wm_X1_184 wt_mabsL wz_J9 wc_mabsL (Nat.le_of_ble_eq_true rfl) (Nat.le_of_ble_eq_true rfl) (Nat.le_refl _) (Nat.le_refl _) dX1_sharedFactor_1 ?_
  refine ev_lstore C (by decide) dX1_sharedFactor_4 ?_
  refine ev_lload_n C rfl dX1_sharedFactor_6 ?_
  refine ev_mabsL C wm_X1_184 wt_mabsL wz_J9 wc_mabsL (Nat.le_of_ble_eq_true rfl) (Nat.le_of_ble_eq_true rfl) (Nat.le_refl _) (Nat.le_refl _) dX1_sharedFactor_7 ?_
  refine ev_lstore C (by decide) dX1_sharedFactor_10 ?_
  refine ev_iconst C (v := 0) dX1_sharedFactor_12 (by decide) ?_
  refine ev_istore C (by decide) dX1_sharedFactor_13 ?_
  exact Ev.keep [false, true, false, true, true, true, true, true, true, true, true] (t_X1_sharedFactor_15 C  FU hs)
end
-- X1_setGain
theorem dX1_setGain_0 : decode cX1_setGain 0 = .ok (.aload_n 0, 1) := by decide +kernel
theorem dX1_setGain_1 : decode cX1_setGain 1 = .ok (.iload_n 1, 1) := by decide +kernel
theorem dX1_setGain_2 : decode cX1_setGain 2 = .ok (.invokevirtual 172, 3) := by decide +kernel
theorem dX1_setGain_5 : decode cX1_setGain 5 = .ok (.aload_n 0, 1) := by decide +kernel
theorem dX1_setGain_6 : decode cX1_setGain 6 = .ok (.iconst 0, 1) := by decide +kernel
theorem dX1_setGain_7 : decode cX1_setGain 7 = .ok (.iconst 1, 1) := by decide +kernel
theorem dX1_setGain_8 : decode cX1_setGain 8 = .ok (.iconst 2, 1) := by decide +kernel
theorem dX1_setGain_9 : decode cX1_setGain 9 = .ok (.invokevirtual 140, 3) := by decide +kernel
theorem dX1_setGain_12 : decode cX1_setGain 12 = .ok (.lstore 4, 2) := by decide +kernel
theorem dX1_setGain_14 : decode cX1_setGain 14 = .ok (.aload_n 0, 1) := by decide +kernel
theorem dX1_setGain_15 : decode cX1_setGain 15 = .ok (.iload_n 1, 1) := by decide +kernel
theorem dX1_setGain_16 : decode cX1_setGain 16 = .ok (.invokevirtual 172, 3) := by decide +kernel
theorem dX1_setGain_19 : decode cX1_setGain 19 = .ok (.lconst 1, 1) := by decide +kernel
theorem dX1_setGain_20 : decode cX1_setGain 20 = .ok (.lload 4, 2) := by decide +kernel
theorem dX1_setGain_22 : decode cX1_setGain 22 = .ok (.lload_n 2, 1) := by decide +kernel
theorem dX1_setGain_23 : decode cX1_setGain 23 = .ok (.invokestatic 176, 3) := by decide +kernel
theorem dX1_setGain_26 : decode cX1_setGain 26 = .ok (.invokestatic 180, 3) := by decide +kernel
theorem dX1_setGain_29 : decode cX1_setGain 29 = .ok (.lstore 6, 2) := by decide +kernel
theorem dX1_setGain_31 : decode cX1_setGain 31 = .ok (.lload_n 2, 1) := by decide +kernel
theorem dX1_setGain_32 : decode cX1_setGain 32 = .ok (.lconst 0, 1) := by decide +kernel
theorem dX1_setGain_33 : decode cX1_setGain 33 = .ok (.lcmp, 1) := by decide +kernel
theorem dX1_setGain_34 : decode cX1_setGain 34 = .ok (.ifCond .ge 9, 3) := by decide +kernel
theorem dX1_setGain_37 : decode cX1_setGain 37 = .ok (.ldc2_w 182, 3) := by decide +kernel
theorem dX1_setGain_40 : decode cX1_setGain 40 = .ok (.goto 4, 3) := by decide +kernel
theorem dX1_setGain_43 : decode cX1_setGain 43 = .ok (.lconst 1, 1) := by decide +kernel
theorem dX1_setGain_44 : decode cX1_setGain 44 = .ok (.lstore 8, 2) := by decide +kernel
theorem dX1_setGain_46 : decode cX1_setGain 46 = .ok (.aload_n 0, 1) := by decide +kernel
theorem dX1_setGain_47 : decode cX1_setGain 47 = .ok (.getfield 28, 3) := by decide +kernel
theorem dX1_setGain_50 : decode cX1_setGain 50 = .ok (.iload_n 1, 1) := by decide +kernel
theorem dX1_setGain_51 : decode cX1_setGain 51 = .ok (.lload 8, 2) := by decide +kernel
theorem dX1_setGain_53 : decode cX1_setGain 53 = .ok (.lload 4, 2) := by decide +kernel
theorem dX1_setGain_55 : decode cX1_setGain 55 = .ok (.lload 6, 2) := by decide +kernel
theorem dX1_setGain_57 : decode cX1_setGain 57 = .ok (.ldiv, 1) := by decide +kernel
theorem dX1_setGain_58 : decode cX1_setGain 58 = .ok (.lmul, 1) := by decide +kernel
theorem dX1_setGain_59 : decode cX1_setGain 59 = .ok (.lastore, 1) := by decide +kernel
theorem dX1_setGain_60 : decode cX1_setGain 60 = .ok (.aload_n 0, 1) := by decide +kernel
theorem dX1_setGain_61 : decode cX1_setGain 61 = .ok (.getfield 31, 3) := by decide +kernel
theorem dX1_setGain_64 : decode cX1_setGain 64 = .ok (.iload_n 1, 1) := by decide +kernel
theorem dX1_setGain_65 : decode cX1_setGain 65 = .ok (.lload 8, 2) := by decide +kernel
theorem dX1_setGain_67 : decode cX1_setGain 67 = .ok (.lload_n 2, 1) := by decide +kernel
theorem dX1_setGain_68 : decode cX1_setGain 68 = .ok (.lload 6, 2) := by decide +kernel
theorem dX1_setGain_70 : decode cX1_setGain 70 = .ok (.ldiv, 1) := by decide +kernel
theorem dX1_setGain_71 : decode cX1_setGain 71 = .ok (.lmul, 1) := by decide +kernel
theorem dX1_setGain_72 : decode cX1_setGain 72 = .ok (.lastore, 1) := by decide +kernel
theorem dX1_setGain_73 : decode cX1_setGain 73 = .ok (.return_, 1) := by decide +kernel
def s_X1_setGain_44  (l0 : Nat) (l1 : Int32) (l2 : Int64) (l4 : Int64) (l6 : Int64) (s0 : Int64) (h : aH) : aO :=
  (gO h (.ref l0) 1 9).bind fun x47 => nzL l6 ((stJ h (.ref x47) l1 (s0 * (l4 / l6))).bind fun h59 => (gO h59 (.ref l0) 1 10).bind fun x61 => nzL l6 ((stJ h59 (.ref x61) l1 (s0 * (l2 / l6))).bind fun h72 => some (.inl none, h72)))
def s_X1_setGain (o : Nat) (a1 : Int32) (a2 : Int64) (h : aH) : aO :=
  kO h o 1 (cN (s_X1_swapColumn o a1 h) fun h2 => kO h2 o 1 (cJ (s_X1_determinant o 0 1 2 h2) fun x9 h9 => kO h9 o 1 (cN (s_X1_swapColumn o a1 h9) fun h16 => cJ (s_X1_sharedFactor x9 a2 h16) fun x23 h23 => if 0 ≤ (lg_cmp a2 0) then (s_X1_setGain_44 o a1 a2 x9 (jmaxL 1 x23) 1 h23) else (s_X1_setGain_44 o a1 a2 x9 (jmaxL 1 x23) (-1) h23))))
section
variable {p : Program} {l : Launch} {e : Env} {s : State} {m : MethodId} {args : Array Value} {below : List Frame} {meth : Method} {c : Code} {D : va_G} {B0 : Nat} {X : Nat → Nat} {ws0 : va_W} {r : aR} {h' : aH} {mc ms : Nat}
theorem t_X1_setGain_44 (C : Cx p l s m args meth c B0 X RX1 "setGain" cX1_setGain 10 none [])   {l0 : Nat} {l1 : Int32} {l2 : Int64} {l4 : Int64} {l6 : Int64} {s0 : Int64} {h : aH} (hs : s_X1_setGain_44  l0 l1 l2 l4 l6 s0 h = some (r, h')) : Ev p l e { frames := 2, cells := mc, slots := ms, locals := 53 } s m args below meth c D B0 X ws0 r h' mc ms 10 mc ms 44 [some (.ref l0), some (.int l1), some (.long l2), none, some (.long l4), none, some (.long l6), none, none, none] [.long s0] h := by
  unfold s_X1_setGain_44 at hs
  refine ev_lstore C (by decide) dX1_setGain_44 ?_
  refine ev_aload_n C (x := .ref l0) rfl trivial dX1_setGain_46 ?_
  obtain ⟨x47, e47, hs⟩ := aB hs
  refine ev_get C (ci := 1) (k := 9) rfl wu_1 (by decide) wf_X1_28 (gO_F e47) dX1_setGain_47 ?_
  refine ev_iload_n C rfl dX1_setGain_50 ?_
  refine ev_lload C rfl dX1_setGain_51 ?_
  refine ev_lload C rfl dX1_setGain_53 ?_
  refine ev_lload C rfl dX1_setGain_55 ?_
  obtain ⟨n57, hs⟩ := nzL_at hs
  refine ev_ldiv C n57 dX1_setGain_57 ?_
  refine ev_lmul C dX1_setGain_58 ?_
  obtain ⟨h59, e59, hs⟩ := aB hs
  refine ev_last C e59 dX1_setGain_59 ?_
  refine ev_aload_n C (x := .ref l0) rfl trivial dX1_setGain_60 ?_
  obtain ⟨x61, e61, hs⟩ := aB hs
  refine ev_get C (ci := 1) (k := 10) rfl wu_1 (by decide) wf_X1_31 (gO_F e61) dX1_setGain_61 ?_
  refine ev_iload_n C rfl dX1_setGain_64 ?_
  refine ev_lload C rfl dX1_setGain_65 ?_
  refine ev_lload_n C rfl dX1_setGain_67 ?_
  refine ev_lload C rfl dX1_setGain_68 ?_
  obtain ⟨n70, hs⟩ := nzL_at hs
  refine ev_ldiv C n70 dX1_setGain_70 ?_
  refine ev_lmul C dX1_setGain_71 ?_
  obtain ⟨h72, e72, hs⟩ := aB hs
  refine ev_last C e72 dX1_setGain_72 ?_
  cases hs
  exact ev_vret C rfl rfl (Nat.le_refl _) (Nat.le_refl _) rfl dX1_setGain_73
theorem hy_X1_setGain : yX1_setGain.cls ≠ "java/lang/invoke/MethodHandle" ∧ yX1_setGain.cls ≠ "java/lang/invoke/VarHandle" ∧ (parseMethodDescriptor yX1_setGain.desc).map (fun d => d.parameters.length) = some 2 := by decide +kernel
theorem T_X1_setGain (o : Nat) (a1 : Int32) (a2 : Int64) (h : aH) (r : aR) (h' : aH) (hs : s_X1_setGain o a1 a2 h = some (r, h')) : Mt yX1_setGain (Cond.code yX1_setGain cX1_setGain 10 none :: aTB) 2 53 0 0 [.ref o, .int a1, .long a2] h r h' := by
  unfold s_X1_setGain at hs
  refine Mt_of (k := 6) (by decide) rfl (fun p l e s m args below meth c D B0 X ws0 C => ?_)
  show Ev p l e { frames := 2, cells := 0, slots := 0, locals := 53 } s m args below meth c D B0 X ws0 r h' 0 0 10 0 0 0 [some (.ref o), some (.int a1), some (.long a2), none, none, none, none, none, none, none] [] h
  refine ev_aload_n C (x := .ref o) rfl trivial dX1_setGain_0 ?_
  refine ev_iload_n C rfl dX1_setGain_1 ?_
  obtain ⟨eo2, hs⟩ := kO_at hs
  obtain ⟨h2, e2, hs⟩ := cN_at hs
  refine ev_callV C (T_X1_swapColumn _ _ _ _ _ e2) (ci := 1) rfl eo2 wc_X1_swapColumn wm_X1_172 wi_X1_swapColumn ws_X1_swapColumn wz_X1 hy_X1_swapColumn ⟨(Nat.le_of_ble_eq_true rfl), (Nat.le_of_ble_eq_true rfl)⟩ ⟨(Nat.le_refl _), (Nat.le_refl _)⟩ (Nat.le_of_ble_eq_true rfl) rfl dX1_setGain_2 ?_
  refine ev_aload_n C (x := .ref o) rfl trivial dX1_setGain_5 ?_
  refine ev_iconst C (v := 0) dX1_setGain_6 (by decide) ?_
  refine ev_iconst C (v := 1) dX1_setGain_7 (by decide) ?_
  refine ev_iconst C (v := 2) dX1_setGain_8 (by decide) ?_
  obtain ⟨eo9, hs⟩ := kO_at hs
  obtain ⟨x9, h9, e9, hs⟩ := cJ_at hs
  refine ev_callV C (T_X1_determinant _ _ _ _ _ _ _ e9) (ci := 1) rfl eo9 wc_X1_determinant wm_X1_140 wi_X1_determinant ws_X1_determinant wz_X1 hy_X1_determinant ⟨(Nat.le_of_ble_eq_true rfl), (Nat.le_of_ble_eq_true rfl)⟩ ⟨(Nat.le_refl _), (Nat.le_refl _)⟩ (Nat.le_of_ble_eq_true rfl) rfl dX1_setGain_9 ?_
  refine ev_lstore C (by decide) dX1_setGain_12 ?_
  refine ev_aload_n C (x := .ref o) rfl trivial dX1_setGain_14 ?_
  refine ev_iload_n C rfl dX1_setGain_15 ?_
  obtain ⟨eo16, hs⟩ := kO_at hs
  obtain ⟨h16, e16, hs⟩ := cN_at hs
  refine ev_callV C (T_X1_swapColumn _ _ _ _ _ e16) (ci := 1) rfl eo16 wc_X1_swapColumn wm_X1_172 wi_X1_swapColumn ws_X1_swapColumn wz_X1 hy_X1_swapColumn ⟨(Nat.le_of_ble_eq_true rfl), (Nat.le_of_ble_eq_true rfl)⟩ ⟨(Nat.le_refl _), (Nat.le_refl _)⟩ (Nat.le_of_ble_eq_true rfl) rfl dX1_setGain_16 ?_
  refine ev_lconst C (v := 1) dX1_setGain_19 (by decide) ?_
  refine ev_lload C rfl dX1_setGain_20 ?_
  refine ev_lload_n C rfl dX1_setGain_22 ?_
  obtain ⟨x23, h23, e23, hs⟩ := cJ_at hs
  refine ev_callS C (T_X1_sharedFactor _ _ _ _ _ e23) wc_X1_sharedFactor wm_X1_176 wt_X1_sharedFactor wz_X1 hy_X1_sharedFactor ⟨(Nat.le_of_ble_eq_true rfl), (Nat.le_of_ble_eq_true rfl)⟩ ⟨(Nat.le_refl _), (Nat.le_refl _)⟩ (Nat.le_of_ble_eq_true rfl) rfl dX1_setGain_23 ?_
  refine ev_mmaxL C wm_X1_180 wt_mmaxL wz_J9 wc_mmaxL (Nat.le_of_ble_eq_true rfl) (Nat.le_of_ble_eq_true rfl) (Nat.le_refl _) (Nat.le_refl _) dX1_setGain_26 ?_
  refine ev_lstore C (by decide) dX1_setGain_29 ?_
  refine ev_lload_n C rfl dX1_setGain_31 ?_
  refine ev_lconst C (v := 0) dX1_setGain_32 (by decide) ?_
  refine ev_lcmp C dX1_setGain_33 ?_
  refine ev_if_ge C (tgt := 43) (by decide) dX1_setGain_34 (fun q34 => ?_) (fun q34 => ?_)
  · replace hs := (if_pos q34).symm.trans hs
    refine ev_lconst C (v := 1) dX1_setGain_43 (by decide) ?_
    exact (t_X1_setGain_44 C  hs)
  · replace hs := (if_neg q34).symm.trans hs
    refine ev_ldc2 C wv_X1_182 dX1_setGain_37 ?_
    refine ev_goto C (tgt := 44) (by decide) dX1_setGain_40 ?_
    exact (t_X1_setGain_44 C  hs)
end
-- X1_solve
theorem dX1_solve_0 : decode cX1_solve 0 = .ok (.aload_n 0, 1) := by decide +kernel
theorem dX1_solve_1 : decode cX1_solve 1 = .ok (.getfield 43, 3) := by decide +kernel
theorem dX1_solve_4 : decode cX1_solve 4 = .ok (.getfield 92, 3) := by decide +kernel
theorem dX1_solve_7 : decode cX1_solve 7 = .ok (.iconst 0, 1) := by decide +kernel
theorem dX1_solve_8 : decode cX1_solve 8 = .ok (.iaload, 1) := by decide +kernel
theorem dX1_solve_9 : decode cX1_solve 9 = .ok (.istore 4, 2) := by decide +kernel
theorem dX1_solve_11 : decode cX1_solve 11 = .ok (.aload_n 0, 1) := by decide +kernel
theorem dX1_solve_12 : decode cX1_solve 12 = .ok (.getfield 25, 3) := by decide +kernel
theorem dX1_solve_15 : decode cX1_solve 15 = .ok (.lconst 0, 1) := by decide +kernel
theorem dX1_solve_16 : decode cX1_solve 16 = .ok (.invokestatic 144, 3) := by decide +kernel
theorem dX1_solve_19 : decode cX1_solve 19 = .ok (.iconst 0, 1) := by decide +kernel
theorem dX1_solve_20 : decode cX1_solve 20 = .ok (.istore 5, 2) := by decide +kernel
theorem dX1_solve_22 : decode cX1_solve 22 = .ok (.iload 5, 2) := by decide +kernel
theorem dX1_solve_24 : decode cX1_solve 24 = .ok (.iload 4, 2) := by decide +kernel
theorem dX1_solve_26 : decode cX1_solve 26 = .ok (.if_icmp .ge 33, 3) := by decide +kernel
theorem dX1_solve_29 : decode cX1_solve 29 = .ok (.aload_n 0, 1) := by decide +kernel
theorem dX1_solve_30 : decode cX1_solve 30 = .ok (.getfield 25, 3) := by decide +kernel
theorem dX1_solve_33 : decode cX1_solve 33 = .ok (.iload 4, 2) := by decide +kernel
theorem dX1_solve_35 : decode cX1_solve 35 = .ok (.iconst 1, 1) := by decide +kernel
theorem dX1_solve_36 : decode cX1_solve 36 = .ok (.isub, 1) := by decide +kernel
theorem dX1_solve_37 : decode cX1_solve 37 = .ok (.iconst 3, 1) := by decide +kernel
theorem dX1_solve_38 : decode cX1_solve 38 = .ok (.imul, 1) := by decide +kernel
theorem dX1_solve_39 : decode cX1_solve 39 = .ok (.iload 5, 2) := by decide +kernel
theorem dX1_solve_41 : decode cX1_solve 41 = .ok (.iadd, 1) := by decide +kernel
theorem dX1_solve_42 : decode cX1_solve 42 = .ok (.aload_n 0, 1) := by decide +kernel
theorem dX1_solve_43 : decode cX1_solve 43 = .ok (.getfield 15, 3) := by decide +kernel
theorem dX1_solve_46 : decode cX1_solve 46 = .ok (.iload 5, 2) := by decide +kernel
theorem dX1_solve_48 : decode cX1_solve 48 = .ok (.iconst 2, 1) := by decide +kernel
theorem dX1_solve_49 : decode cX1_solve 49 = .ok (.imul, 1) := by decide +kernel
theorem dX1_solve_50 : decode cX1_solve 50 = .ok (.iaload, 1) := by decide +kernel
theorem dX1_solve_51 : decode cX1_solve 51 = .ok (.i2l, 1) := by decide +kernel
theorem dX1_solve_52 : decode cX1_solve 52 = .ok (.lastore, 1) := by decide +kernel
theorem dX1_solve_53 : decode cX1_solve 53 = .ok (.iinc 5 1, 3) := by decide +kernel
theorem dX1_solve_56 : decode cX1_solve 56 = .ok (.goto (-34), 3) := by decide +kernel
theorem dX1_solve_59 : decode cX1_solve 59 = .ok (.iload 4, 2) := by decide +kernel
theorem dX1_solve_61 : decode cX1_solve 61 = .ok (.iconst 1, 1) := by decide +kernel
theorem dX1_solve_62 : decode cX1_solve 62 = .ok (.isub, 1) := by decide +kernel
theorem dX1_solve_63 : decode cX1_solve 63 = .ok (.istore 5, 2) := by decide +kernel
theorem dX1_solve_65 : decode cX1_solve 65 = .ok (.iload 5, 2) := by decide +kernel
theorem dX1_solve_67 : decode cX1_solve 67 = .ok (.ifCond .le 71, 3) := by decide +kernel
theorem dX1_solve_70 : decode cX1_solve 70 = .ok (.aload_n 0, 1) := by decide +kernel
theorem dX1_solve_71 : decode cX1_solve 71 = .ok (.iload 5, 2) := by decide +kernel
theorem dX1_solve_73 : decode cX1_solve 73 = .ok (.iload 5, 2) := by decide +kernel
theorem dX1_solve_75 : decode cX1_solve 75 = .ok (.iconst 1, 1) := by decide +kernel
theorem dX1_solve_76 : decode cX1_solve 76 = .ok (.isub, 1) := by decide +kernel
theorem dX1_solve_77 : decode cX1_solve 77 = .ok (.iconst 0, 1) := by decide +kernel
theorem dX1_solve_78 : decode cX1_solve 78 = .ok (.invokevirtual 147, 3) := by decide +kernel
theorem dX1_solve_81 : decode cX1_solve 81 = .ok (.iconst 0, 1) := by decide +kernel
theorem dX1_solve_82 : decode cX1_solve 82 = .ok (.istore 6, 2) := by decide +kernel
theorem dX1_solve_84 : decode cX1_solve 84 = .ok (.iload 6, 2) := by decide +kernel
theorem dX1_solve_86 : decode cX1_solve 86 = .ok (.iload 4, 2) := by decide +kernel
theorem dX1_solve_88 : decode cX1_solve 88 = .ok (.if_icmp .ge 44, 3) := by decide +kernel
theorem dX1_solve_91 : decode cX1_solve 91 = .ok (.aload_n 0, 1) := by decide +kernel
theorem dX1_solve_92 : decode cX1_solve 92 = .ok (.getfield 25, 3) := by decide +kernel
theorem dX1_solve_95 : decode cX1_solve 95 = .ok (.iload 5, 2) := by decide +kernel
theorem dX1_solve_97 : decode cX1_solve 97 = .ok (.iconst 1, 1) := by decide +kernel
theorem dX1_solve_98 : decode cX1_solve 98 = .ok (.isub, 1) := by decide +kernel
theorem dX1_solve_99 : decode cX1_solve 99 = .ok (.iconst 3, 1) := by decide +kernel
theorem dX1_solve_100 : decode cX1_solve 100 = .ok (.imul, 1) := by decide +kernel
theorem dX1_solve_101 : decode cX1_solve 101 = .ok (.iload 6, 2) := by decide +kernel
theorem dX1_solve_103 : decode cX1_solve 103 = .ok (.iadd, 1) := by decide +kernel
theorem dX1_solve_104 : decode cX1_solve 104 = .ok (.dup2, 1) := by decide +kernel
theorem dX1_solve_105 : decode cX1_solve 105 = .ok (.laload, 1) := by decide +kernel
theorem dX1_solve_106 : decode cX1_solve 106 = .ok (.aload_n 0, 1) := by decide +kernel
theorem dX1_solve_107 : decode cX1_solve 107 = .ok (.getfield 21, 3) := by decide +kernel
theorem dX1_solve_110 : decode cX1_solve 110 = .ok (.iload 5, 2) := by decide +kernel
theorem dX1_solve_112 : decode cX1_solve 112 = .ok (.laload, 1) := by decide +kernel
theorem dX1_solve_113 : decode cX1_solve 113 = .ok (.aload_n 0, 1) := by decide +kernel
theorem dX1_solve_114 : decode cX1_solve 114 = .ok (.getfield 15, 3) := by decide +kernel
theorem dX1_solve_117 : decode cX1_solve 117 = .ok (.iload 6, 2) := by decide +kernel
theorem dX1_solve_119 : decode cX1_solve 119 = .ok (.iconst 2, 1) := by decide +kernel
theorem dX1_solve_120 : decode cX1_solve 120 = .ok (.imul, 1) := by decide +kernel
theorem dX1_solve_121 : decode cX1_solve 121 = .ok (.iaload, 1) := by decide +kernel
theorem dX1_solve_122 : decode cX1_solve 122 = .ok (.i2l, 1) := by decide +kernel
theorem dX1_solve_123 : decode cX1_solve 123 = .ok (.lmul, 1) := by decide +kernel
theorem dX1_solve_124 : decode cX1_solve 124 = .ok (.ladd, 1) := by decide +kernel
theorem dX1_solve_125 : decode cX1_solve 125 = .ok (.lastore, 1) := by decide +kernel
theorem dX1_solve_126 : decode cX1_solve 126 = .ok (.iinc 6 1, 3) := by decide +kernel
theorem dX1_solve_129 : decode cX1_solve 129 = .ok (.goto (-45), 3) := by decide +kernel
theorem dX1_solve_132 : decode cX1_solve 132 = .ok (.iinc 5 (-1), 3) := by decide +kernel
theorem dX1_solve_135 : decode cX1_solve 135 = .ok (.goto (-70), 3) := by decide +kernel
theorem dX1_solve_138 : decode cX1_solve 138 = .ok (.aload_n 0, 1) := by decide +kernel
theorem dX1_solve_139 : decode cX1_solve 139 = .ok (.getfield 34, 3) := by decide +kernel
theorem dX1_solve_142 : decode cX1_solve 142 = .ok (.iconst 0, 1) := by decide +kernel
theorem dX1_solve_143 : decode cX1_solve 143 = .ok (.aload_n 0, 1) := by decide +kernel
theorem dX1_solve_144 : decode cX1_solve 144 = .ok (.getfield 21, 3) := by decide +kernel
theorem dX1_solve_147 : decode cX1_solve 147 = .ok (.iconst 0, 1) := by decide +kernel
theorem dX1_solve_148 : decode cX1_solve 148 = .ok (.laload, 1) := by decide +kernel
theorem dX1_solve_149 : decode cX1_solve 149 = .ok (.iload_n 1, 1) := by decide +kernel
theorem dX1_solve_150 : decode cX1_solve 150 = .ok (.i2l, 1) := by decide +kernel
theorem dX1_solve_151 : decode cX1_solve 151 = .ok (.lsub, 1) := by decide +kernel
theorem dX1_solve_152 : decode cX1_solve 152 = .ok (.lastore, 1) := by decide +kernel
theorem dX1_solve_153 : decode cX1_solve 153 = .ok (.aload_n 0, 1) := by decide +kernel
theorem dX1_solve_154 : decode cX1_solve 154 = .ok (.getfield 34, 3) := by decide +kernel
theorem dX1_solve_157 : decode cX1_solve 157 = .ok (.iconst 1, 1) := by decide +kernel
theorem dX1_solve_158 : decode cX1_solve 158 = .ok (.iload 4, 2) := by decide +kernel
theorem dX1_solve_160 : decode cX1_solve 160 = .ok (.iconst 1, 1) := by decide +kernel
theorem dX1_solve_161 : decode cX1_solve 161 = .ok (.if_icmp .le 15, 3) := by decide +kernel
theorem dX1_solve_164 : decode cX1_solve 164 = .ok (.aload_n 0, 1) := by decide +kernel
theorem dX1_solve_165 : decode cX1_solve 165 = .ok (.getfield 21, 3) := by decide +kernel
theorem dX1_solve_168 : decode cX1_solve 168 = .ok (.iconst 1, 1) := by decide +kernel
theorem dX1_solve_169 : decode cX1_solve 169 = .ok (.laload, 1) := by decide +kernel
theorem dX1_solve_170 : decode cX1_solve 170 = .ok (.iload_n 2, 1) := by decide +kernel
theorem dX1_solve_171 : decode cX1_solve 171 = .ok (.i2l, 1) := by decide +kernel
theorem dX1_solve_172 : decode cX1_solve 172 = .ok (.lsub, 1) := by decide +kernel
theorem dX1_solve_173 : decode cX1_solve 173 = .ok (.goto 4, 3) := by decide +kernel
theorem dX1_solve_176 : decode cX1_solve 176 = .ok (.lconst 0, 1) := by decide +kernel
theorem dX1_solve_177 : decode cX1_solve 177 = .ok (.lastore, 1) := by decide +kernel
theorem dX1_solve_178 : decode cX1_solve 178 = .ok (.aload_n 0, 1) := by decide +kernel
theorem dX1_solve_179 : decode cX1_solve 179 = .ok (.getfield 34, 3) := by decide +kernel
theorem dX1_solve_182 : decode cX1_solve 182 = .ok (.iconst 2, 1) := by decide +kernel
theorem dX1_solve_183 : decode cX1_solve 183 = .ok (.iload 4, 2) := by decide +kernel
theorem dX1_solve_185 : decode cX1_solve 185 = .ok (.iconst 2, 1) := by decide +kernel
theorem dX1_solve_186 : decode cX1_solve 186 = .ok (.if_icmp .le 15, 3) := by decide +kernel
theorem dX1_solve_189 : decode cX1_solve 189 = .ok (.aload_n 0, 1) := by decide +kernel
theorem dX1_solve_190 : decode cX1_solve 190 = .ok (.getfield 21, 3) := by decide +kernel
theorem dX1_solve_193 : decode cX1_solve 193 = .ok (.iconst 2, 1) := by decide +kernel
theorem dX1_solve_194 : decode cX1_solve 194 = .ok (.laload, 1) := by decide +kernel
theorem dX1_solve_195 : decode cX1_solve 195 = .ok (.iload_n 3, 1) := by decide +kernel
theorem dX1_solve_196 : decode cX1_solve 196 = .ok (.i2l, 1) := by decide +kernel
theorem dX1_solve_197 : decode cX1_solve 197 = .ok (.lsub, 1) := by decide +kernel
theorem dX1_solve_198 : decode cX1_solve 198 = .ok (.goto 4, 3) := by decide +kernel
theorem dX1_solve_201 : decode cX1_solve 201 = .ok (.lconst 0, 1) := by decide +kernel
theorem dX1_solve_202 : decode cX1_solve 202 = .ok (.lastore, 1) := by decide +kernel
theorem dX1_solve_203 : decode cX1_solve 203 = .ok (.iload 4, 2) := by decide +kernel
theorem dX1_solve_205 : decode cX1_solve 205 = .ok (.istore 5, 2) := by decide +kernel
theorem dX1_solve_207 : decode cX1_solve 207 = .ok (.iload 5, 2) := by decide +kernel
theorem dX1_solve_209 : decode cX1_solve 209 = .ok (.iconst 3, 1) := by decide +kernel
theorem dX1_solve_210 : decode cX1_solve 210 = .ok (.if_icmp .ge 22, 3) := by decide +kernel
theorem dX1_solve_213 : decode cX1_solve 213 = .ok (.aload_n 0, 1) := by decide +kernel
theorem dX1_solve_214 : decode cX1_solve 214 = .ok (.getfield 25, 3) := by decide +kernel
theorem dX1_solve_217 : decode cX1_solve 217 = .ok (.iload 5, 2) := by decide +kernel
theorem dX1_solve_219 : decode cX1_solve 219 = .ok (.iconst 3, 1) := by decide +kernel
theorem dX1_solve_220 : decode cX1_solve 220 = .ok (.imul, 1) := by decide +kernel
theorem dX1_solve_221 : decode cX1_solve 221 = .ok (.iload 5, 2) := by decide +kernel
theorem dX1_solve_223 : decode cX1_solve 223 = .ok (.iadd, 1) := by decide +kernel
theorem dX1_solve_224 : decode cX1_solve 224 = .ok (.lconst 1, 1) := by decide +kernel
theorem dX1_solve_225 : decode cX1_solve 225 = .ok (.lastore, 1) := by decide +kernel
theorem dX1_solve_226 : decode cX1_solve 226 = .ok (.iinc 5 1, 3) := by decide +kernel
theorem dX1_solve_229 : decode cX1_solve 229 = .ok (.goto (-22), 3) := by decide +kernel
theorem dX1_solve_232 : decode cX1_solve 232 = .ok (.aload_n 0, 1) := by decide +kernel
theorem dX1_solve_233 : decode cX1_solve 233 = .ok (.iconst 0, 1) := by decide +kernel
theorem dX1_solve_234 : decode cX1_solve 234 = .ok (.iconst 1, 1) := by decide +kernel
theorem dX1_solve_235 : decode cX1_solve 235 = .ok (.iconst 2, 1) := by decide +kernel
theorem dX1_solve_236 : decode cX1_solve 236 = .ok (.invokevirtual 140, 3) := by decide +kernel
theorem dX1_solve_239 : decode cX1_solve 239 = .ok (.lstore 5, 2) := by decide +kernel
theorem dX1_solve_241 : decode cX1_solve 241 = .ok (.aload_n 0, 1) := by decide +kernel
theorem dX1_solve_242 : decode cX1_solve 242 = .ok (.iload 4, 2) := by decide +kernel
theorem dX1_solve_244 : decode cX1_solve 244 = .ok (.putfield 165, 3) := by decide +kernel
theorem dX1_solve_247 : decode cX1_solve 247 = .ok (.iconst 0, 1) := by decide +kernel
theorem dX1_solve_248 : decode cX1_solve 248 = .ok (.istore 7, 2) := by decide +kernel
theorem dX1_solve_250 : decode cX1_solve 250 = .ok (.iload 7, 2) := by decide +kernel
theorem dX1_solve_252 : decode cX1_solve 252 = .ok (.iload 4, 2) := by decide +kernel
theorem dX1_solve_254 : decode cX1_solve 254 = .ok (.if_icmp .ge 17, 3) := by decide +kernel
theorem dX1_solve_257 : decode cX1_solve 257 = .ok (.aload_n 0, 1) := by decide +kernel
theorem dX1_solve_258 : decode cX1_solve 258 = .ok (.iload 7, 2) := by decide +kernel
theorem dX1_solve_260 : decode cX1_solve 260 = .ok (.lload 5, 2) := by decide +kernel
theorem dX1_solve_262 : decode cX1_solve 262 = .ok (.invokevirtual 168, 3) := by decide +kernel
theorem dX1_solve_265 : decode cX1_solve 265 = .ok (.iinc 7 1, 3) := by decide +kernel
theorem dX1_solve_268 : decode cX1_solve 268 = .ok (.goto (-18), 3) := by decide +kernel
theorem dX1_solve_271 : decode cX1_solve 271 = .ok (.return_, 1) := by decide +kernel
def s_X1_solve_250_b  (k250 : Nat → Int32 → Int64 → Int32 → aH → aO) (l0 : Nat) (l4 : Int32) (l5 : Int64) (l7 : Int32) (h : aH) : aO :=
  if l4 ≤ l7 then (some (.inl none, h)) else (kO h l0 1 (cN (s_X1_setGain l0 l7 l5 h) fun h262 => k250 l0 l4 l5 (l7 + 1) h262))
def s_X1_solve_250  (n : Nat) : Nat → Int32 → Int64 → Int32 → aH → aO := lpF (fun _ _ _ _ _ => none) (s_X1_solve_250_b ) n
def s_X1_solve_207_b  (k207 : Nat → Int32 → Int32 → aH → aO) (l0 : Nat) (l4 : Int32) (l5 : Int32) (h : aH) : aO :=
  if 3 ≤ l5 then (kO h l0 1 (cJ (s_X1_determinant l0 0 1 2 h) fun x236 h236 => (pF h236 (.ref l0) 1 8 (.int l4)).bind fun h244 => s_X1_solve_250 FU l0 l4 x236 0 h244)) else ((gO h (.ref l0) 1 7).bind fun x214 => (stJ h (.ref x214) ((l5 * 3) + l5) 1).bind fun h225 => k207 l0 l4 (l5 + 1) h225)
def s_X1_solve_207  (n : Nat) : Nat → Int32 → Int32 → aH → aO := lpF (fun _ _ _ _ => none) (s_X1_solve_207_b ) n
def s_X1_solve_202  (l0 : Nat) (l4 : Int32) (s0 : Int64) (s1 : Int32) (s2 : Nat) (h : aH) : aO :=
  (stJ h (.ref s2) s1 s0).bind fun h202 => s_X1_solve_207 FU l0 l4 l4 h202
def s_X1_solve_177  (l0 : Nat) (l3 : Int32) (l4 : Int32) (s0 : Int64) (s1 : Int32) (s2 : Nat) (h : aH) : aO :=
  (stJ h (.ref s2) s1 s0).bind fun h177 => (gO h177 (.ref l0) 1 11).bind fun x179 => if l4 ≤ 2 then (s_X1_solve_202 l0 l4 0 2 x179 h177) else ((gO h177 (.ref l0) 1 6).bind fun x190 => (ldJ h177 (.ref x190) 2).bind fun x194 => s_X1_solve_202 l0 l4 (x194 - l3.toInt64) 2 x179 h177)
def s_X1_solve_84_b (k65 : Nat → Int32 → Int32 → Int32 → Int32 → Int32 → aH → aO) (k84 : Nat → Int32 → Int32 → Int32 → Int32 → Int32 → Int32 → aH → aO) (l0 : Nat) (l1 : Int32) (l2 : Int32) (l3 : Int32) (l4 : Int32) (l5 : Int32) (l6 : Int32) (h : aH) : aO :=
  if l4 ≤ l6 then (k65 l0 l1 l2 l3 l4 (l5 + (-1)) h) else ((gO h (.ref l0) 1 7).bind fun x92 => (ldJ h (.ref x92) (((l5 - 1) * 3) + l6)).bind fun x105 => (gO h (.ref l0) 1 6).bind fun x107 => (ldJ h (.ref x107) l5).bind fun x112 => (gO h (.ref l0) 1 4).bind fun x114 => (ldI .int h (.ref x114) (l6 * 2)).bind fun x121 => (stJ h (.ref x92) (((l5 - 1) * 3) + l6) (x105 + (x112 * x121.toInt64))).bind fun h125 => k84 l0 l1 l2 l3 l4 l5 (l6 + 1) h125)
def s_X1_solve_84 (k65 : Nat → Int32 → Int32 → Int32 → Int32 → Int32 → aH → aO) (n : Nat) : Nat → Int32 → Int32 → Int32 → Int32 → Int32 → Int32 → aH → aO := lpF (fun _ _ _ _ _ _ _ _ => none) (s_X1_solve_84_b k65) n
def s_X1_solve_65_b  (k65 : Nat → Int32 → Int32 → Int32 → Int32 → Int32 → aH → aO) (l0 : Nat) (l1 : Int32) (l2 : Int32) (l3 : Int32) (l4 : Int32) (l5 : Int32) (h : aH) : aO :=
  if l5 ≤ 0 then ((gO h (.ref l0) 1 11).bind fun x139 => (gO h (.ref l0) 1 6).bind fun x144 => (ldJ h (.ref x144) 0).bind fun x148 => (stJ h (.ref x139) 0 (x148 - l1.toInt64)).bind fun h152 => (gO h152 (.ref l0) 1 11).bind fun x154 => if l4 ≤ 1 then (s_X1_solve_177 l0 l3 l4 0 1 x154 h152) else ((gO h152 (.ref l0) 1 6).bind fun x165 => (ldJ h152 (.ref x165) 1).bind fun x169 => s_X1_solve_177 l0 l3 l4 (x169 - l2.toInt64) 1 x154 h152)) else (kO h l0 1 (cN (s_X1_multiply l0 l5 (l5 - 1) 0 h) fun h78 => s_X1_solve_84 k65 FU l0 l1 l2 l3 l4 l5 0 h78))
def s_X1_solve_65  (n : Nat) : Nat → Int32 → Int32 → Int32 → Int32 → Int32 → aH → aO := lpF (fun _ _ _ _ _ _ _ => none) (s_X1_solve_65_b ) n
def s_X1_solve_22_b  (k22 : Nat → Int32 → Int32 → Int32 → Int32 → Int32 → aH → aO) (l0 : Nat) (l1 : Int32) (l2 : Int32) (l3 : Int32) (l4 : Int32) (l5 : Int32) (h : aH) : aO :=
  if l4 ≤ l5 then (s_X1_solve_65 FU l0 l1 l2 l3 l4 (l4 - 1) h) else ((gO h (.ref l0) 1 7).bind fun x30 => (gO h (.ref l0) 1 4).bind fun x43 => (ldI .int h (.ref x43) (l5 * 2)).bind fun x50 => (stJ h (.ref x30) (((l4 - 1) * 3) + l5) x50.toInt64).bind fun h52 => k22 l0 l1 l2 l3 l4 (l5 + 1) h52)
def s_X1_solve_22  (n : Nat) : Nat → Int32 → Int32 → Int32 → Int32 → Int32 → aH → aO := lpF (fun _ _ _ _ _ _ _ => none) (s_X1_solve_22_b ) n
def s_X1_solve (o : Nat) (a1 : Int32) (a2 : Int32) (a3 : Int32) (h : aH) : aO :=
  (gO h (.ref o) 1 0).bind fun x1 => (gO h (.ref x1) 2 0).bind fun x4 => (ldI .int h (.ref x4) 0).bind fun x8 => (gO h (.ref o) 1 7).bind fun x12 => cN (s_J7_fill_d0a16 x12 0 h) fun h16 => s_X1_solve_22 FU o a1 a2 a3 x8 0 h16
section
variable {p : Program} {l : Launch} {e : Env} {s : State} {m : MethodId} {args : Array Value} {below : List Frame} {meth : Method} {c : Code} {D : va_G} {B0 : Nat} {X : Nat → Nat} {ws0 : va_W} {r : aR} {h' : aH} {mc ms : Nat}
theorem t_X1_solve_250_b (C : Cx p l s m args meth c B0 X RX1 "solve" cX1_solve 8 none [])   {k250 : Nat → Int32 → Int64 → Int32 → aH → aO} (K250 : ∀ (l0 : Nat) (l4 : Int32) (l5 : Int64) (l7 : Int32) (h : aH), k250 l0 l4 l5 l7 h = some (r, h') → Ev p l e { frames := 3, cells := mc, slots := ms, locals := 82 } s m args below meth c D B0 X ws0 r h' mc ms 8 mc ms 250 [some (.ref l0), none, none, none, some (.int l4), some (.long l5), none, some (.int l7)] [] h) {l0 : Nat} {l4 : Int32} {l5 : Int64} {l7 : Int32} {h : aH} (hs : s_X1_solve_250_b  k250 l0 l4 l5 l7 h = some (r, h')) : Ev p l e { frames := 3, cells := mc, slots := ms, locals := 82 } s m args below meth c D B0 X ws0 r h' mc ms 8 mc ms 250 [some (.ref l0), none, none, none, some (.int l4), some (.long l5), none, some (.int l7)] [] h := by
  unfold s_X1_solve_250_b at hs
  refine ev_iload C rfl dX1_solve_250 ?_
  refine ev_iload C rfl dX1_solve_252 ?_
  refine ev_icmp_ge C (tgt := 271) (by decide) dX1_solve_254 (fun q254 => ?_) (fun q254 => ?_)
  · replace hs := (if_pos q254).symm.trans hs
    cases hs
    exact ev_vret C rfl rfl (Nat.le_refl _) (Nat.le_refl _) rfl dX1_solve_271
  · replace hs := (if_neg q254).symm.trans hs
    refine ev_aload_n C (x := .ref l0) rfl trivial dX1_solve_257 ?_
    refine ev_iload C rfl dX1_solve_258 ?_
    refine ev_lload C rfl dX1_solve_260 ?_
    obtain ⟨eo262, hs⟩ := kO_at hs
    obtain ⟨h262, e262, hs⟩ := cN_at hs
    refine ev_callV C (T_X1_setGain _ _ _ _ _ _ e262) (ci := 1) rfl eo262 wc_X1_setGain wm_X1_168 wi_X1_setGain ws_X1_setGain wz_X1 hy_X1_setGain ⟨(Nat.le_of_ble_eq_true rfl), (Nat.le_of_ble_eq_true rfl)⟩ ⟨(Nat.le_refl _), (Nat.le_refl _)⟩ (Nat.le_of_ble_eq_true rfl) rfl dX1_solve_262 ?_
    refine ev_iinc C (i := 7) (n := 1) (x := l7) (v := l7 + 1) rfl (congrArg (fun z => l7 + z) (show Int32.ofInt 1 = 1 by decide)) (by decide) dX1_solve_265 ?_
    refine ev_goto C (tgt := 250) (by decide) dX1_solve_268 ?_
    exact (K250 _ _ _ _ _ hs)
theorem t_X1_solve_250 (C : Cx p l s m args meth c B0 X RX1 "solve" cX1_solve 8 none [])   : ∀ (n : Nat) {l0 : Nat} {l4 : Int32} {l5 : Int64} {l7 : Int32} {h : aH} (hs : s_X1_solve_250  n l0 l4 l5 l7 h = some (r, h')), Ev p l e { frames := 3, cells := mc, slots := ms, locals := 82 } s m args below meth c D B0 X ws0 r h' mc ms 8 mc ms 250 [some (.ref l0), none, none, none, some (.int l4), some (.long l5), none, some (.int l7)] [] h
  | 0, _, _, _, _, _, hs => nomatch hs
  | n + 1, _, _, _, _, _, hs => t_X1_solve_250_b C  (k250 := s_X1_solve_250  n) (fun _ _ _ _ _ hs => t_X1_solve_250 C  n hs) hs
theorem t_X1_solve_207_b (C : Cx p l s m args meth c B0 X RX1 "solve" cX1_solve 8 none [])   {k207 : Nat → Int32 → Int32 → aH → aO} (K207 : ∀ (l0 : Nat) (l4 : Int32) (l5 : Int32) (h : aH), k207 l0 l4 l5 h = some (r, h') → Ev p l e { frames := 3, cells := mc, slots := ms, locals := 82 } s m args below meth c D B0 X ws0 r h' mc ms 8 mc ms 207 [some (.ref l0), none, none, none, some (.int l4), some (.int l5), none, none] [] h) {l0 : Nat} {l4 : Int32} {l5 : Int32} {h : aH} (hs : s_X1_solve_207_b  k207 l0 l4 l5 h = some (r, h')) : Ev p l e { frames := 3, cells := mc, slots := ms, locals := 82 } s m args below meth c D B0 X ws0 r h' mc ms 8 mc ms 207 [some (.ref l0), none, none, none, some (.int l4), some (.int l5), none, none] [] h := by
  unfold s_X1_solve_207_b at hs
  refine ev_iload C rfl dX1_solve_207 ?_
  refine ev_iconst C (v := 3) dX1_solve_209 (by decide) ?_
  refine ev_icmp_ge C (tgt := 232) (by decide) dX1_solve_210 (fun q210 => ?_) (fun q210 => ?_)
  · replace hs := (if_pos q210).symm.trans hs
    refine ev_aload_n C (x := .ref l0) rfl trivial dX1_solve_232 ?_
    refine ev_iconst C (v := 0) dX1_solve_233 (by decide) ?_
    refine ev_iconst C (v := 1) dX1_solve_234 (by decide) ?_
    refine ev_iconst C (v := 2) dX1_solve_235 (by decide) ?_
    obtain ⟨eo236, hs⟩ := kO_at hs
    obtain ⟨x236, h236, e236, hs⟩ := cJ_at hs
    refine ev_callV C (T_X1_determinant _ _ _ _ _ _ _ e236) (ci := 1) rfl eo236 wc_X1_determinant wm_X1_140 wi_X1_determinant ws_X1_determinant wz_X1 hy_X1_determinant ⟨(Nat.le_of_ble_eq_true rfl), (Nat.le_of_ble_eq_true rfl)⟩ ⟨(Nat.le_refl _), (Nat.le_refl _)⟩ (Nat.le_of_ble_eq_true rfl) rfl dX1_solve_236 ?_
    refine ev_lstore C (by decide) dX1_solve_239 ?_
    refine ev_aload_n C (x := .ref l0) rfl trivial dX1_solve_241 ?_
    refine ev_iload C rfl dX1_solve_242 ?_
    obtain ⟨h244, e244, hs⟩ := aB hs
    refine ev_put C (ci := 1) (k := 8) rfl wu_1 (by decide) tyX1 tyX1_ok nmX1 wf_X1_165 rfl trivial e244 dX1_solve_244 ?_
    refine ev_iconst C (v := 0) dX1_solve_247 (by decide) ?_
    refine ev_istore C (by decide) dX1_solve_248 ?_
    exact (t_X1_solve_250 C  FU hs)
  · replace hs := (if_neg q210).symm.trans hs
    refine ev_aload_n C (x := .ref l0) rfl trivial dX1_solve_213 ?_
    obtain ⟨x214, e214, hs⟩ := aB hs
    refine ev_get C (ci := 1) (k := 7) rfl wu_1 (by decide) wf_X1_25 (gO_F e214) dX1_solve_214 ?_
    refine ev_iload C rfl dX1_solve_217 ?_
    refine ev_iconst C (v := 3) dX1_solve_219 (by decide) ?_
    refine ev_imul C dX1_solve_220 ?_
    refine ev_iload C rfl dX1_solve_221 ?_
    refine ev_iadd C dX1_solve_223 ?_
    refine ev_lconst C (v := 1) dX1_solve_224 (by decide) ?_
    obtain ⟨h225, e225, hs⟩ := aB hs
    refine ev_last C e225 dX1_solve_225 ?_
    refine ev_iinc C (i := 5) (n := 1) (x := l5) (v := l5 + 1) rfl (congrArg (fun z => l5 + z) (show Int32.ofInt 1 = 1 by decide)) (by decide) dX1_solve_226 ?_
    refine ev_goto C (tgt := 207) (by decide) dX1_solve_229 ?_
    exact (K207 _ _ _ _ hs)
theorem t_X1_solve_207 (C : Cx p l s m args meth c B0 X RX1 "solve" cX1_solve 8 none [])   : ∀ (n : Nat) {l0 : Nat} {l4 : Int32} {l5 : Int32} {h : aH} (hs : s_X1_solve_207  n l0 l4 l5 h = some (r, h')), Ev p l e { frames := 3, cells := mc, slots := ms, locals := 82 } s m args below meth c D B0 X ws0 r h' mc ms 8 mc ms 207 [some (.ref l0), none, none, none, some (.int l4), some (.int l5), none, none] [] h
  | 0, _, _, _, _, hs => nomatch hs
  | n + 1, _, _, _, _, hs => t_X1_solve_207_b C  (k207 := s_X1_solve_207  n) (fun _ _ _ _ hs => t_X1_solve_207 C  n hs) hs
theorem t_X1_solve_202 (C : Cx p l s m args meth c B0 X RX1 "solve" cX1_solve 8 none [])   {l0 : Nat} {l4 : Int32} {s0 : Int64} {s1 : Int32} {s2 : Nat} {h : aH} (hs : s_X1_solve_202  l0 l4 s0 s1 s2 h = some (r, h')) : Ev p l e { frames := 3, cells := mc, slots := ms, locals := 82 } s m args below meth c D B0 X ws0 r h' mc ms 8 mc ms 202 [some (.ref l0), none, none, none, some (.int l4), none, none, none] [.long s0, .int s1, .ref s2] h := by
  unfold s_X1_solve_202 at hs
  obtain ⟨h202, e202, hs⟩ := aB hs
  refine ev_last C e202 dX1_solve_202 ?_
  refine ev_iload C rfl dX1_solve_203 ?_
  refine ev_istore C (by decide) dX1_solve_205 ?_
  exact (t_X1_solve_207 C  FU hs)
theorem t_X1_solve_177 (C : Cx p l s m args meth c B0 X RX1 "solve" cX1_solve 8 none [])   {l0 : Nat} {l3 : Int32} {l4 : Int32} {s0 : Int64} {s1 : Int32} {s2 : Nat} {h : aH} (hs : s_X1_solve_177  l0 l3 l4 s0 s1 s2 h = some (r, h')) : Ev p l e { frames := 3, cells := mc, slots := ms, locals := 82 } s m args below meth c D B0 X ws0 r h' mc ms 8 mc ms 177 [some (.ref l0), none, none, some (.int l3), some (.int l4), none, none, none] [.long s0, .int s1, .ref s2] h := by
  unfold s_X1_solve_177 at hs
  obtain ⟨h177, e177, hs⟩ := aB hs
  refine ev_last C e177 dX1_solve_177 ?_
  refine ev_aload_n C (x := .ref l0) rfl trivial dX1_solve_178 ?_
  obtain ⟨x179, e179, hs⟩ := aB hs
  refine ev_get C (ci := 1) (k := 11) rfl wu_1 (by decide) wf_X1_34 (gO_F e179) dX1_solve_179 ?_
  refine ev_iconst C (v := 2) dX1_solve_182 (by decide) ?_
  refine ev_iload C rfl dX1_solve_183 ?_
  refine ev_iconst C (v := 2) dX1_solve_185 (by decide) ?_
  refine ev_icmp_le C (tgt := 201) (by decide) dX1_solve_186 (fun q186 => ?_) (fun q186 => ?_)
  · replace hs := (if_pos q186).symm.trans hs
    refine ev_lconst C (v := 0) dX1_solve_201 (by decide) ?_
    exact Ev.keep [true, true, true, false, true, true, true, true] (t_X1_solve_202 C  hs)
  · replace hs := (if_neg q186).symm.trans hs
    refine ev_aload_n C (x := .ref l0) rfl trivial dX1_solve_189 ?_
    obtain ⟨x190, e190, hs⟩ := aB hs
    refine ev_get C (ci := 1) (k := 6) rfl wu_1 (by decide) wf_X1_21 (gO_F e190) dX1_solve_190 ?_
    refine ev_iconst C (v := 2) dX1_solve_193 (by decide) ?_
    obtain ⟨x194, e194, hs⟩ := aB hs
    refine ev_lald C e194 dX1_solve_194 ?_
    refine ev_iload_n C rfl dX1_solve_195 ?_
    refine ev_i2l C dX1_solve_196 ?_
    refine ev_lsub C dX1_solve_197 ?_
    refine ev_goto C (tgt := 202) (by decide) dX1_solve_198 ?_
    exact Ev.keep [true, true, true, false, true, true, true, true] (t_X1_solve_202 C  hs)
theorem t_X1_solve_84_b (C : Cx p l s m args meth c B0 X RX1 "solve" cX1_solve 8 none []) {k65 : Nat → Int32 → Int32 → Int32 → Int32 → Int32 → aH → aO} (K65 : ∀ (l0 : Nat) (l1 : Int32) (l2 : Int32) (l3 : Int32) (l4 : Int32) (l5 : Int32) (h : aH), k65 l0 l1 l2 l3 l4 l5 h = some (r, h') → Ev p l e { frames := 3, cells := mc, slots := ms, locals := 82 } s m args below meth c D B0 X ws0 r h' mc ms 8 mc ms 65 [some (.ref l0), some (.int l1), some (.int l2), some (.int l3), some (.int l4), some (.int l5), none, none] [] h) {k84 : Nat → Int32 → Int32 → Int32 → Int32 → Int32 → Int32 → aH → aO} (K84 : ∀ (l0 : Nat) (l1 : Int32) (l2 : Int32) (l3 : Int32) (l4 : Int32) (l5 : Int32) (l6 : Int32) (h : aH), k84 l0 l1 l2 l3 l4 l5 l6 h = some (r, h') → Ev p l e { frames := 3, cells := mc, slots := ms, locals := 82 } s m args below meth c D B0 X ws0 r h' mc ms 8 mc ms 84 [some (.ref l0), some (.int l1), some (.int l2), some (.int l3), some (.int l4), some (.int l5), some (.int l6), none] [] h) {l0 : Nat} {l1 : Int32} {l2 : Int32} {l3 : Int32} {l4 : Int32} {l5 : Int32} {l6 : Int32} {h : aH} (hs : s_X1_solve_84_b k65 k84 l0 l1 l2 l3 l4 l5 l6 h = some (r, h')) : Ev p l e { frames := 3, cells := mc, slots := ms, locals := 82 } s m args below meth c D B0 X ws0 r h' mc ms 8 mc ms 84 [some (.ref l0), some (.int l1), some (.int l2), some (.int l3), some (.int l4), some (.int l5), some (.int l6), none] [] h := by
  unfold s_X1_solve_84_b at hs
  refine ev_iload C rfl dX1_solve_84 ?_
  refine ev_iload C rfl dX1_solve_86 ?_
  refine ev_icmp_ge C (tgt := 132) (by decide) dX1_solve_88 (fun q88 => ?_) (fun q88 => ?_)
  · replace hs := (if_pos q88).symm.trans hs
    refine ev_iinc C (i := 5) (n := -1) (x := l5) (v := l5 + (-1)) rfl (congrArg (fun z => l5 + z) (show Int32.ofInt (-1) = (-1) by decide)) (by decide) dX1_solve_132 ?_
    refine ev_goto C (tgt := 65) (by decide) dX1_solve_135 ?_
    exact Ev.keep [true, true, true, true, true, true, false, true] (K65 _ _ _ _ _ _ _ hs)
  · replace hs := (if_neg q88).symm.trans hs
    refine ev_aload_n C (x := .ref l0) rfl trivial dX1_solve_91 ?_
    obtain ⟨x92, e92, hs⟩ := aB hs
    refine ev_get C (ci := 1) (k := 7) rfl wu_1 (by decide) wf_X1_25 (gO_F e92) dX1_solve_92 ?_
    refine ev_iload C rfl dX1_solve_95 ?_
    refine ev_iconst C (v := 1) dX1_solve_97 (by decide) ?_
    refine ev_isub C dX1_solve_98 ?_
    refine ev_iconst C (v := 3) dX1_solve_99 (by decide) ?_
    refine ev_imul C dX1_solve_100 ?_
    refine ev_iload C rfl dX1_solve_101 ?_
    refine ev_iadd C dX1_solve_103 ?_
    refine ev_dup2 C rfl rfl dX1_solve_104 ?_
    obtain ⟨x105, e105, hs⟩ := aB hs
    refine ev_lald C e105 dX1_solve_105 ?_
    refine ev_aload_n C (x := .ref l0) rfl trivial dX1_solve_106 ?_
    obtain ⟨x107, e107, hs⟩ := aB hs
    refine ev_get C (ci := 1) (k := 6) rfl wu_1 (by decide) wf_X1_21 (gO_F e107) dX1_solve_107 ?_
    refine ev_iload C rfl dX1_solve_110 ?_
    obtain ⟨x112, e112, hs⟩ := aB hs
    refine ev_lald C e112 dX1_solve_112 ?_
    refine ev_aload_n C (x := .ref l0) rfl trivial dX1_solve_113 ?_
    obtain ⟨x114, e114, hs⟩ := aB hs
    refine ev_get C (ci := 1) (k := 4) rfl wu_1 (by decide) wf_X1_15 (gO_F e114) dX1_solve_114 ?_
    refine ev_iload C rfl dX1_solve_117 ?_
    refine ev_iconst C (v := 2) dX1_solve_119 (by decide) ?_
    refine ev_imul C dX1_solve_120 ?_
    obtain ⟨x121, e121, hs⟩ := aB hs
    refine ev_iald C e121 dX1_solve_121 ?_
    refine ev_i2l C dX1_solve_122 ?_
    refine ev_lmul C dX1_solve_123 ?_
    refine ev_ladd C dX1_solve_124 ?_
    obtain ⟨h125, e125, hs⟩ := aB hs
    refine ev_last C e125 dX1_solve_125 ?_
    refine ev_iinc C (i := 6) (n := 1) (x := l6) (v := l6 + 1) rfl (congrArg (fun z => l6 + z) (show Int32.ofInt 1 = 1 by decide)) (by decide) dX1_solve_126 ?_
    refine ev_goto C (tgt := 84) (by decide) dX1_solve_129 ?_
    exact (K84 _ _ _ _ _ _ _ _ hs)
theorem t_X1_solve_84 (C : Cx p l s m args meth c B0 X RX1 "solve" cX1_solve 8 none []) {k65 : Nat → Int32 → Int32 → Int32 → Int32 → Int32 → aH → aO} (K65 : ∀ (l0 : Nat) (l1 : Int32) (l2 : Int32) (l3 : Int32) (l4 : Int32) (l5 : Int32) (h : aH), k65 l0 l1 l2 l3 l4 l5 h = some (r, h') → Ev p l e { frames := 3, cells := mc, slots := ms, locals := 82 } s m args below meth c D B0 X ws0 r h' mc ms 8 mc ms 65 [some (.ref l0), some (.int l1), some (.int l2), some (.int l3), some (.int l4), some (.int l5), none, none] [] h) : ∀ (n : Nat) {l0 : Nat} {l1 : Int32} {l2 : Int32} {l3 : Int32} {l4 : Int32} {l5 : Int32} {l6 : Int32} {h : aH} (hs : s_X1_solve_84 k65 n l0 l1 l2 l3 l4 l5 l6 h = some (r, h')), Ev p l e { frames := 3, cells := mc, slots := ms, locals := 82 } s m args below meth c D B0 X ws0 r h' mc ms 8 mc ms 84 [some (.ref l0), some (.int l1), some (.int l2), some (.int l3), some (.int l4), some (.int l5), some (.int l6), none] [] h
  | 0, _, _, _, _, _, _, _, _, hs => nomatch hs
  | n + 1, _, _, _, _, _, _, _, _, hs => t_X1_solve_84_b C K65 (k84 := s_X1_solve_84 k65 n) (fun _ _ _ _ _ _ _ _ hs => t_X1_solve_84 C K65 n hs) hs
theorem t_X1_solve_65_b (C : Cx p l s m args meth c B0 X RX1 "solve" cX1_solve 8 none [])   {k65 : Nat → Int32 → Int32 → Int32 → Int32 → Int32 → aH → aO} (K65 : ∀ (l0 : Nat) (l1 : Int32) (l2 : Int32) (l3 : Int32) (l4 : Int32) (l5 : Int32) (h : aH), k65 l0 l1 l2 l3 l4 l5 h = some (r, h') → Ev p l e { frames := 3, cells := mc, slots := ms, locals := 82 } s m args below meth c D B0 X ws0 r h' mc ms 8 mc ms 65 [some (.ref l0), some (.int l1), some (.int l2), some (.int l3), some (.int l4), some (.int l5), none, none] [] h) {l0 : Nat} {l1 : Int32} {l2 : Int32} {l3 : Int32} {l4 : Int32} {l5 : Int32} {h : aH} (hs : s_X1_solve_65_b  k65 l0 l1 l2 l3 l4 l5 h = some (r, h')) : Ev p l e { frames := 3, cells := mc, slots := ms, locals := 82 } s m args below meth c D B0 X ws0 r h' mc ms 8 mc ms 65 [some (.ref l0), some (.int l1), some (.int l2), some (.int l3), some (.int l4), some (.int l5), none, none] [] h := by
  unfold s_X1_solve_65_b at hs
  refine ev_iload C rfl dX1_solve_65 ?_
  refine ev_if_le C (tgt := 138) (by decide) dX1_solve_67 (fun q67 => ?_) (fun q67 => ?_)
  · replace hs := (if_pos q67).symm.trans hs
    refine ev_aload_n C (x := .ref l0) rfl trivial dX1_solve_138 ?_
    obtain ⟨x139, e139, hs⟩ := aB hs
    refine ev_get C (ci := 1) (k := 11) rfl wu_1 (by decide) wf_X1_34 (gO_F e139) dX1_solve_139 ?_
    refine ev_iconst C (v := 0) dX1_solve_142 (by decide) ?_
    refine ev_aload_n C (x := .ref l0) rfl trivial dX1_solve_143 ?_
    obtain ⟨x144, e144, hs⟩ := aB hs
    refine ev_get C (ci := 1) (k := 6) rfl wu_1 (by decide) wf_X1_21 (gO_F e144) dX1_solve_144 ?_
    refine ev_iconst C (v := 0) dX1_solve_147 (by decide) ?_
    obtain ⟨x148, e148, hs⟩ := aB hs
    refine ev_lald C e148 dX1_solve_148 ?_
    refine ev_iload_n C rfl dX1_solve_149 ?_
    refine ev_i2l C dX1_solve_150 ?_
    refine ev_lsub C dX1_solve_151 ?_
    obtain ⟨h152, e152, hs⟩ := aB hs
    refine ev_last C e152 dX1_solve_152 ?_
    refine ev_aload_n C (x := .ref l0) rfl trivial dX1_solve_153 ?_
    obtain ⟨x154, e154, hs⟩ := aB hs
    refine ev_get C (ci := 1) (k := 11) rfl wu_1 (by decide) wf_X1_34 (gO_F e154) dX1_solve_154 ?_
    refine ev_iconst C (v := 1) dX1_solve_157 (by decide) ?_
    refine ev_iload C rfl dX1_solve_158 ?_
    refine ev_iconst C (v := 1) dX1_solve_160 (by decide) ?_
    refine ev_icmp_le C (tgt := 176) (by decide) dX1_solve_161 (fun q161 => ?_) (fun q161 => ?_)
    · replace hs := (if_pos q161).symm.trans hs
      refine ev_lconst C (v := 0) dX1_solve_176 (by decide) ?_
      exact Ev.keep [true, false, false, true, true, false, true, true] (t_X1_solve_177 C  hs)
    · replace hs := (if_neg q161).symm.trans hs
      refine ev_aload_n C (x := .ref l0) rfl trivial dX1_solve_164 ?_
      obtain ⟨x165, e165, hs⟩ := aB hs
      refine ev_get C (ci := 1) (k := 6) rfl wu_1 (by decide) wf_X1_21 (gO_F e165) dX1_solve_165 ?_
      refine ev_iconst C (v := 1) dX1_solve_168 (by decide) ?_
      obtain ⟨x169, e169, hs⟩ := aB hs
      refine ev_lald C e169 dX1_solve_169 ?_
      refine ev_iload_n C rfl dX1_solve_170 ?_
      refine ev_i2l C dX1_solve_171 ?_
      refine ev_lsub C dX1_solve_172 ?_
      refine ev_goto C (tgt := 177) (by decide) dX1_solve_173 ?_
      exact Ev.keep [true, false, false, true, true, false, true, true] (t_X1_solve_177 C  hs)
  · replace hs := (if_neg q67).symm.trans hs
    refine ev_aload_n C (x := .ref l0) rfl trivial dX1_solve_70 ?_
    refine ev_iload C rfl dX1_solve_71 ?_
    refine ev_iload C rfl dX1_solve_73 ?_
    refine ev_iconst C (v := 1) dX1_solve_75 (by decide) ?_
    refine ev_isub C dX1_solve_76 ?_
    refine ev_iconst C (v := 0) dX1_solve_77 (by decide) ?_
    obtain ⟨eo78, hs⟩ := kO_at hs
    obtain ⟨h78, e78, hs⟩ := cN_at hs
    refine ev_callV C (T_X1_multiply _ _ _ _ _ _ _ e78) (ci := 1) rfl eo78 wc_X1_multiply wm_X1_147 wi_X1_multiply ws_X1_multiply wz_X1 hy_X1_multiply ⟨(Nat.le_of_ble_eq_true rfl), (Nat.le_of_ble_eq_true rfl)⟩ ⟨(Nat.le_refl _), (Nat.le_refl _)⟩ (Nat.le_of_ble_eq_true rfl) rfl dX1_solve_78 ?_
    refine ev_iconst C (v := 0) dX1_solve_81 (by decide) ?_
    refine ev_istore C (by decide) dX1_solve_82 ?_
    exact (t_X1_solve_84 C K65 FU hs)
theorem t_X1_solve_65 (C : Cx p l s m args meth c B0 X RX1 "solve" cX1_solve 8 none [])   : ∀ (n : Nat) {l0 : Nat} {l1 : Int32} {l2 : Int32} {l3 : Int32} {l4 : Int32} {l5 : Int32} {h : aH} (hs : s_X1_solve_65  n l0 l1 l2 l3 l4 l5 h = some (r, h')), Ev p l e { frames := 3, cells := mc, slots := ms, locals := 82 } s m args below meth c D B0 X ws0 r h' mc ms 8 mc ms 65 [some (.ref l0), some (.int l1), some (.int l2), some (.int l3), some (.int l4), some (.int l5), none, none] [] h
  | 0, _, _, _, _, _, _, _, hs => nomatch hs
  | n + 1, _, _, _, _, _, _, _, hs => t_X1_solve_65_b C  (k65 := s_X1_solve_65  n) (fun _ _ _ _ _ _ _ hs => t_X1_solve_65 C  n hs) hs
theorem t_X1_solve_22_b (C : Cx p l s m args meth c B0 X RX1 "solve" cX1_solve 8 none [])   {k22 : Nat → Int32 → Int32 → Int32 → Int32 → Int32 → aH → aO} (K22 : ∀ (l0 : Nat) (l1 : Int32) (l2 : Int32) (l3 : Int32) (l4 : Int32) (l5 : Int32) (h : aH), k22 l0 l1 l2 l3 l4 l5 h = some (r, h') → Ev p l e { frames := 3, cells := mc, slots := ms, locals := 82 } s m args below meth c D B0 X ws0 r h' mc ms 8 mc ms 22 [some (.ref l0), some (.int l1), some (.int l2), some (.int l3), some (.int l4), some (.int l5), none, none] [] h) {l0 : Nat} {l1 : Int32} {l2 : Int32} {l3 : Int32} {l4 : Int32} {l5 : Int32} {h : aH} (hs : s_X1_solve_22_b  k22 l0 l1 l2 l3 l4 l5 h = some (r, h')) : Ev p l e { frames := 3, cells := mc, slots := ms, locals := 82 } s m args below meth c D B0 X ws0 r h' mc ms 8 mc ms 22 [some (.ref l0), some (.int l1), some (.int l2), some (.int l3), some (.int l4), some (.int l5), none, none] [] h := by
  unfold s_X1_solve_22_b at hs
  refine ev_iload C rfl dX1_solve_22 ?_
  refine ev_iload C rfl dX1_solve_24 ?_
  refine ev_icmp_ge C (tgt := 59) (by decide) dX1_solve_26 (fun q26 => ?_) (fun q26 => ?_)
  · replace hs := (if_pos q26).symm.trans hs
    refine ev_iload C rfl dX1_solve_59 ?_
    refine ev_iconst C (v := 1) dX1_solve_61 (by decide) ?_
    refine ev_isub C dX1_solve_62 ?_
    refine ev_istore C (by decide) dX1_solve_63 ?_
    exact (t_X1_solve_65 C  FU hs)
  · replace hs := (if_neg q26).symm.trans hs
    refine ev_aload_n C (x := .ref l0) rfl trivial dX1_solve_29 ?_
    obtain ⟨x30, e30, hs⟩ := aB hs
    refine ev_get C (ci := 1) (k := 7) rfl wu_1 (by decide) wf_X1_25 (gO_F e30) dX1_solve_30 ?_
    refine ev_iload C rfl dX1_solve_33 ?_
    refine ev_iconst C (v := 1) dX1_solve_35 (by decide) ?_
    refine ev_isub C dX1_solve_36 ?_
    refine ev_iconst C (v := 3) dX1_solve_37 (by decide) ?_
    refine ev_imul C dX1_solve_38 ?_
    refine ev_iload C rfl dX1_solve_39 ?_
    refine ev_iadd C dX1_solve_41 ?_
    refine ev_aload_n C (x := .ref l0) rfl trivial dX1_solve_42 ?_
    obtain ⟨x43, e43, hs⟩ := aB hs
    refine ev_get C (ci := 1) (k := 4) rfl wu_1 (by decide) wf_X1_15 (gO_F e43) dX1_solve_43 ?_
    refine ev_iload C rfl dX1_solve_46 ?_
    refine ev_iconst C (v := 2) dX1_solve_48 (by decide) ?_
    refine ev_imul C dX1_solve_49 ?_
    obtain ⟨x50, e50, hs⟩ := aB hs
    refine ev_iald C e50 dX1_solve_50 ?_
    refine ev_i2l C dX1_solve_51 ?_
    obtain ⟨h52, e52, hs⟩ := aB hs
    refine ev_last C e52 dX1_solve_52 ?_
    refine ev_iinc C (i := 5) (n := 1) (x := l5) (v := l5 + 1) rfl (congrArg (fun z => l5 + z) (show Int32.ofInt 1 = 1 by decide)) (by decide) dX1_solve_53 ?_
    refine ev_goto C (tgt := 22) (by decide) dX1_solve_56 ?_
    exact (K22 _ _ _ _ _ _ _ hs)
theorem t_X1_solve_22 (C : Cx p l s m args meth c B0 X RX1 "solve" cX1_solve 8 none [])   : ∀ (n : Nat) {l0 : Nat} {l1 : Int32} {l2 : Int32} {l3 : Int32} {l4 : Int32} {l5 : Int32} {h : aH} (hs : s_X1_solve_22  n l0 l1 l2 l3 l4 l5 h = some (r, h')), Ev p l e { frames := 3, cells := mc, slots := ms, locals := 82 } s m args below meth c D B0 X ws0 r h' mc ms 8 mc ms 22 [some (.ref l0), some (.int l1), some (.int l2), some (.int l3), some (.int l4), some (.int l5), none, none] [] h
  | 0, _, _, _, _, _, _, _, hs => nomatch hs
  | n + 1, _, _, _, _, _, _, _, hs => t_X1_solve_22_b C  (k22 := s_X1_solve_22  n) (fun _ _ _ _ _ _ _ hs => t_X1_solve_22 C  n hs) hs
theorem hy_X1_solve : yX1_solve.cls ≠ "java/lang/invoke/MethodHandle" ∧ yX1_solve.cls ≠ "java/lang/invoke/VarHandle" ∧ (parseMethodDescriptor yX1_solve.desc).map (fun d => d.parameters.length) = some 3 := by decide +kernel
theorem T_X1_solve (o : Nat) (a1 : Int32) (a2 : Int32) (a3 : Int32) (h : aH) (r : aR) (h' : aH) (hs : s_X1_solve o a1 a2 a3 h = some (r, h')) : Mt yX1_solve (Cond.code yX1_solve cX1_solve 8 none :: aTB) 3 82 0 0 [.ref o, .int a1, .int a2, .int a3] h r h' := by
  unfold s_X1_solve at hs
  refine Mt_of (k := 4) (by decide) rfl (fun p l e s m args below meth c D B0 X ws0 C => ?_)
  show Ev p l e { frames := 3, cells := 0, slots := 0, locals := 82 } s m args below meth c D B0 X ws0 r h' 0 0 8 0 0 0 [some (.ref o), some (.int a1), some (.int a2), some (.int a3), none, none, none, none] [] h
  refine ev_aload_n C (x := .ref o) rfl trivial dX1_solve_0 ?_
  obtain ⟨x1, e1, hs⟩ := aB hs
  refine ev_get C (ci := 1) (k := 0) rfl wu_1 (by decide) wf_X1_43 (gO_F e1) dX1_solve_1 ?_
  obtain ⟨x4, e4, hs⟩ := aB hs
  refine ev_getN C (ci := 2) (k := 0) rfl wu_2 (by decide) wg_X1_92 (gO_F e4) dX1_solve_4 ?_
  refine ev_iconst C (v := 0) dX1_solve_7 (by decide) ?_
  obtain ⟨x8, e8, hs⟩ := aB hs
  refine ev_iald C e8 dX1_solve_8 ?_
  refine ev_istore C (by decide) dX1_solve_9 ?_
  refine ev_aload_n C (x := .ref o) rfl trivial dX1_solve_11 ?_
  obtain ⟨x12, e12, hs⟩ := aB hs
  refine ev_get C (ci := 1) (k := 7) rfl wu_1 (by decide) wf_X1_25 (gO_F e12) dX1_solve_12 ?_
  refine ev_lconst C (v := 0) dX1_solve_15 (by decide) ?_
  obtain ⟨h16, e16, hs⟩ := cN_at hs
  refine ev_callS C (T_J7_fill_d0a16 _ _ _ _ _ e16) wc_J7_fill_d0a16 wm_X1_144 wt_J7_fill_d0a16 wz_J7 hy_J7_fill_d0a16 ⟨(Nat.le_of_ble_eq_true rfl), (Nat.le_of_ble_eq_true rfl)⟩ ⟨(Nat.le_refl _), (Nat.le_refl _)⟩ (Nat.le_of_ble_eq_true rfl) rfl dX1_solve_16 ?_
  refine ev_iconst C (v := 0) dX1_solve_19 (by decide) ?_
  refine ev_istore C (by decide) dX1_solve_20 ?_
  exact (t_X1_solve_22 C  FU hs)
end
-- X1_rootsWithin
theorem dX1_rootsWithin_0 : decode cX1_rootsWithin 0 = .ok (.aload_n 0, 1) := by decide +kernel
theorem dX1_rootsWithin_1 : decode cX1_rootsWithin 1 = .ok (.getfield 37, 3) := by decide +kernel
theorem dX1_rootsWithin_4 : decode cX1_rootsWithin 4 = .ok (.iconst 0, 1) := by decide +kernel
theorem dX1_rootsWithin_5 : decode cX1_rootsWithin 5 = .ok (.iload_n 1, 1) := by decide +kernel
theorem dX1_rootsWithin_6 : decode cX1_rootsWithin 6 = .ok (.i2l, 1) := by decide +kernel
theorem dX1_rootsWithin_7 : decode cX1_rootsWithin 7 = .ok (.lastore, 1) := by decide +kernel
theorem dX1_rootsWithin_8 : decode cX1_rootsWithin 8 = .ok (.aload_n 0, 1) := by decide +kernel
theorem dX1_rootsWithin_9 : decode cX1_rootsWithin 9 = .ok (.getfield 37, 3) := by decide +kernel
theorem dX1_rootsWithin_12 : decode cX1_rootsWithin 12 = .ok (.iconst 1, 1) := by decide +kernel
theorem dX1_rootsWithin_13 : decode cX1_rootsWithin 13 = .ok (.iload_n 2, 1) := by decide +kernel
theorem dX1_rootsWithin_14 : decode cX1_rootsWithin 14 = .ok (.i2l, 1) := by decide +kernel
theorem dX1_rootsWithin_15 : decode cX1_rootsWithin 15 = .ok (.lastore, 1) := by decide +kernel
theorem dX1_rootsWithin_16 : decode cX1_rootsWithin 16 = .ok (.aload_n 0, 1) := by decide +kernel
theorem dX1_rootsWithin_17 : decode cX1_rootsWithin 17 = .ok (.getfield 37, 3) := by decide +kernel
theorem dX1_rootsWithin_20 : decode cX1_rootsWithin 20 = .ok (.iconst 2, 1) := by decide +kernel
theorem dX1_rootsWithin_21 : decode cX1_rootsWithin 21 = .ok (.iload_n 3, 1) := by decide +kernel
theorem dX1_rootsWithin_22 : decode cX1_rootsWithin 22 = .ok (.i2l, 1) := by decide +kernel
theorem dX1_rootsWithin_23 : decode cX1_rootsWithin 23 = .ok (.lastore, 1) := by decide +kernel
theorem dX1_rootsWithin_24 : decode cX1_rootsWithin 24 = .ok (.aload_n 0, 1) := by decide +kernel
theorem dX1_rootsWithin_25 : decode cX1_rootsWithin 25 = .ok (.getfield 37, 3) := by decide +kernel
theorem dX1_rootsWithin_28 : decode cX1_rootsWithin 28 = .ok (.iconst 3, 1) := by decide +kernel
theorem dX1_rootsWithin_29 : decode cX1_rootsWithin 29 = .ok (.iload 4, 2) := by decide +kernel
theorem dX1_rootsWithin_31 : decode cX1_rootsWithin 31 = .ok (.i2l, 1) := by decide +kernel
theorem dX1_rootsWithin_32 : decode cX1_rootsWithin 32 = .ok (.lastore, 1) := by decide +kernel
theorem dX1_rootsWithin_33 : decode cX1_rootsWithin 33 = .ok (.iload 4, 2) := by decide +kernel
theorem dX1_rootsWithin_35 : decode cX1_rootsWithin 35 = .ok (.ifCond .eq 7, 3) := by decide +kernel
theorem dX1_rootsWithin_38 : decode cX1_rootsWithin 38 = .ok (.iconst 3, 1) := by decide +kernel
theorem dX1_rootsWithin_39 : decode cX1_rootsWithin 39 = .ok (.goto 20, 3) := by decide +kernel
theorem dX1_rootsWithin_42 : decode cX1_rootsWithin 42 = .ok (.iload_n 3, 1) := by decide +kernel
theorem dX1_rootsWithin_43 : decode cX1_rootsWithin 43 = .ok (.ifCond .eq 7, 3) := by decide +kernel
theorem dX1_rootsWithin_46 : decode cX1_rootsWithin 46 = .ok (.iconst 2, 1) := by decide +kernel
theorem dX1_rootsWithin_47 : decode cX1_rootsWithin 47 = .ok (.goto 12, 3) := by decide +kernel
theorem dX1_rootsWithin_50 : decode cX1_rootsWithin 50 = .ok (.iload_n 2, 1) := by decide +kernel
theorem dX1_rootsWithin_51 : decode cX1_rootsWithin 51 = .ok (.ifCond .eq 7, 3) := by decide +kernel
theorem dX1_rootsWithin_54 : decode cX1_rootsWithin 54 = .ok (.iconst 1, 1) := by decide +kernel
theorem dX1_rootsWithin_55 : decode cX1_rootsWithin 55 = .ok (.goto 4, 3) := by decide +kernel
theorem dX1_rootsWithin_58 : decode cX1_rootsWithin 58 = .ok (.iconst 0, 1) := by decide +kernel
theorem dX1_rootsWithin_59 : decode cX1_rootsWithin 59 = .ok (.istore 5, 2) := by decide +kernel
theorem dX1_rootsWithin_61 : decode cX1_rootsWithin 61 = .ok (.iload 5, 2) := by decide +kernel
theorem dX1_rootsWithin_63 : decode cX1_rootsWithin 63 = .ok (.istore 6, 2) := by decide +kernel
theorem dX1_rootsWithin_65 : decode cX1_rootsWithin 65 = .ok (.iload 6, 2) := by decide +kernel
theorem dX1_rootsWithin_67 : decode cX1_rootsWithin 67 = .ok (.ifCond .le 113, 3) := by decide +kernel
theorem dX1_rootsWithin_70 : decode cX1_rootsWithin 70 = .ok (.aload_n 0, 1) := by decide +kernel
theorem dX1_rootsWithin_71 : decode cX1_rootsWithin 71 = .ok (.getfield 37, 3) := by decide +kernel
theorem dX1_rootsWithin_74 : decode cX1_rootsWithin 74 = .ok (.iconst 0, 1) := by decide +kernel
theorem dX1_rootsWithin_75 : decode cX1_rootsWithin 75 = .ok (.laload, 1) := by decide +kernel
theorem dX1_rootsWithin_76 : decode cX1_rootsWithin 76 = .ok (.invokestatic 184, 3) := by decide +kernel
theorem dX1_rootsWithin_79 : decode cX1_rootsWithin 79 = .ok (.aload_n 0, 1) := by decide +kernel
theorem dX1_rootsWithin_80 : decode cX1_rootsWithin 80 = .ok (.getfield 37, 3) := by decide +kernel
theorem dX1_rootsWithin_83 : decode cX1_rootsWithin 83 = .ok (.iload 6, 2) := by decide +kernel
theorem dX1_rootsWithin_85 : decode cX1_rootsWithin 85 = .ok (.laload, 1) := by decide +kernel
theorem dX1_rootsWithin_86 : decode cX1_rootsWithin 86 = .ok (.invokestatic 184, 3) := by decide +kernel
theorem dX1_rootsWithin_89 : decode cX1_rootsWithin 89 = .ok (.lcmp, 1) := by decide +kernel
theorem dX1_rootsWithin_90 : decode cX1_rootsWithin 90 = .ok (.ifCond .lt 5, 3) := by decide +kernel
theorem dX1_rootsWithin_93 : decode cX1_rootsWithin 93 = .ok (.iconst 0, 1) := by decide +kernel
theorem dX1_rootsWithin_94 : decode cX1_rootsWithin 94 = .ok (.ireturn, 1) := by decide +kernel
theorem dX1_rootsWithin_95 : decode cX1_rootsWithin 95 = .ok (.iconst 1, 1) := by decide +kernel
theorem dX1_rootsWithin_96 : decode cX1_rootsWithin 96 = .ok (.istore 7, 2) := by decide +kernel
theorem dX1_rootsWithin_98 : decode cX1_rootsWithin 98 = .ok (.iload 6, 2) := by decide +kernel
theorem dX1_rootsWithin_100 : decode cX1_rootsWithin 100 = .ok (.iconst 1, 1) := by decide +kernel
theorem dX1_rootsWithin_101 : decode cX1_rootsWithin 101 = .ok (.if_icmp .le 58, 3) := by decide +kernel
theorem dX1_rootsWithin_104 : decode cX1_rootsWithin 104 = .ok (.iload 7, 2) := by decide +kernel
theorem dX1_rootsWithin_106 : decode cX1_rootsWithin 106 = .ok (.iload 6, 2) := by decide +kernel
theorem dX1_rootsWithin_108 : decode cX1_rootsWithin 108 = .ok (.if_icmp .gt 51, 3) := by decide +kernel
theorem dX1_rootsWithin_111 : decode cX1_rootsWithin 111 = .ok (.aload_n 0, 1) := by decide +kernel
theorem dX1_rootsWithin_112 : decode cX1_rootsWithin 112 = .ok (.getfield 40, 3) := by decide +kernel
theorem dX1_rootsWithin_115 : decode cX1_rootsWithin 115 = .ok (.iload 7, 2) := by decide +kernel
theorem dX1_rootsWithin_117 : decode cX1_rootsWithin 117 = .ok (.iconst 1, 1) := by decide +kernel
theorem dX1_rootsWithin_118 : decode cX1_rootsWithin 118 = .ok (.isub, 1) := by decide +kernel
theorem dX1_rootsWithin_119 : decode cX1_rootsWithin 119 = .ok (.aload_n 0, 1) := by decide +kernel
theorem dX1_rootsWithin_120 : decode cX1_rootsWithin 120 = .ok (.getfield 37, 3) := by decide +kernel
theorem dX1_rootsWithin_123 : decode cX1_rootsWithin 123 = .ok (.iload 6, 2) := by decide +kernel
theorem dX1_rootsWithin_125 : decode cX1_rootsWithin 125 = .ok (.laload, 1) := by decide +kernel
theorem dX1_rootsWithin_126 : decode cX1_rootsWithin 126 = .ok (.aload_n 0, 1) := by decide +kernel
theorem dX1_rootsWithin_127 : decode cX1_rootsWithin 127 = .ok (.getfield 37, 3) := by decide +kernel
theorem dX1_rootsWithin_130 : decode cX1_rootsWithin 130 = .ok (.iload 7, 2) := by decide +kernel
theorem dX1_rootsWithin_132 : decode cX1_rootsWithin 132 = .ok (.laload, 1) := by decide +kernel
theorem dX1_rootsWithin_133 : decode cX1_rootsWithin 133 = .ok (.lmul, 1) := by decide +kernel
theorem dX1_rootsWithin_134 : decode cX1_rootsWithin 134 = .ok (.aload_n 0, 1) := by decide +kernel
theorem dX1_rootsWithin_135 : decode cX1_rootsWithin 135 = .ok (.getfield 37, 3) := by decide +kernel
theorem dX1_rootsWithin_138 : decode cX1_rootsWithin 138 = .ok (.iconst 0, 1) := by decide +kernel
theorem dX1_rootsWithin_139 : decode cX1_rootsWithin 139 = .ok (.laload, 1) := by decide +kernel
theorem dX1_rootsWithin_140 : decode cX1_rootsWithin 140 = .ok (.aload_n 0, 1) := by decide +kernel
theorem dX1_rootsWithin_141 : decode cX1_rootsWithin 141 = .ok (.getfield 37, 3) := by decide +kernel
theorem dX1_rootsWithin_144 : decode cX1_rootsWithin 144 = .ok (.iload 6, 2) := by decide +kernel
theorem dX1_rootsWithin_146 : decode cX1_rootsWithin 146 = .ok (.iload 7, 2) := by decide +kernel
theorem dX1_rootsWithin_148 : decode cX1_rootsWithin 148 = .ok (.isub, 1) := by decide +kernel
theorem dX1_rootsWithin_149 : decode cX1_rootsWithin 149 = .ok (.laload, 1) := by decide +kernel
theorem dX1_rootsWithin_150 : decode cX1_rootsWithin 150 = .ok (.lmul, 1) := by decide +kernel
theorem dX1_rootsWithin_151 : decode cX1_rootsWithin 151 = .ok (.lsub, 1) := by decide +kernel
theorem dX1_rootsWithin_152 : decode cX1_rootsWithin 152 = .ok (.lastore, 1) := by decide +kernel
theorem dX1_rootsWithin_153 : decode cX1_rootsWithin 153 = .ok (.iinc 7 1, 3) := by decide +kernel
theorem dX1_rootsWithin_156 : decode cX1_rootsWithin 156 = .ok (.goto (-58), 3) := by decide +kernel
theorem dX1_rootsWithin_159 : decode cX1_rootsWithin 159 = .ok (.aload_n 0, 1) := by decide +kernel
theorem dX1_rootsWithin_160 : decode cX1_rootsWithin 160 = .ok (.getfield 40, 3) := by decide +kernel
theorem dX1_rootsWithin_163 : decode cX1_rootsWithin 163 = .ok (.iconst 0, 1) := by decide +kernel
theorem dX1_rootsWithin_164 : decode cX1_rootsWithin 164 = .ok (.aload_n 0, 1) := by decide +kernel
theorem dX1_rootsWithin_165 : decode cX1_rootsWithin 165 = .ok (.getfield 37, 3) := by decide +kernel
theorem dX1_rootsWithin_168 : decode cX1_rootsWithin 168 = .ok (.iconst 0, 1) := by decide +kernel
theorem dX1_rootsWithin_169 : decode cX1_rootsWithin 169 = .ok (.iload 6, 2) := by decide +kernel
theorem dX1_rootsWithin_171 : decode cX1_rootsWithin 171 = .ok (.invokestatic 188, 3) := by decide +kernel
theorem dX1_rootsWithin_174 : decode cX1_rootsWithin 174 = .ok (.iinc 6 (-1), 3) := by decide +kernel
theorem dX1_rootsWithin_177 : decode cX1_rootsWithin 177 = .ok (.goto (-112), 3) := by decide +kernel
theorem dX1_rootsWithin_180 : decode cX1_rootsWithin 180 = .ok (.iconst 1, 1) := by decide +kernel
theorem dX1_rootsWithin_181 : decode cX1_rootsWithin 181 = .ok (.ireturn, 1) := by decide +kernel
def s_X1_rootsWithin_159 (k65 : Nat → Int32 → aH → aO) (l0 : Nat) (l6 : Int32) (h : aH) : aO :=
  (gO h (.ref l0) 1 13).bind fun x160 => (gO h (.ref l0) 1 12).bind fun x165 => (cpJ h (.ref x160) 0 (.ref x165) 0 l6).bind fun h171 => k65 l0 (l6 + (-1)) h171
def s_X1_rootsWithin_98_b (k65 : Nat → Int32 → aH → aO) (k98 : Nat → Int32 → Int32 → aH → aO) (l0 : Nat) (l6 : Int32) (l7 : Int32) (h : aH) : aO :=
  if l6 ≤ 1 then (s_X1_rootsWithin_159 k65 l0 l6 h) else (if l6 < l7 then (s_X1_rootsWithin_159 k65 l0 l6 h) else ((gO h (.ref l0) 1 13).bind fun x112 => (gO h (.ref l0) 1 12).bind fun x120 => (ldJ h (.ref x120) l6).bind fun x125 => (gO h (.ref l0) 1 12).bind fun x127 => (ldJ h (.ref x127) l7).bind fun x132 => (gO h (.ref l0) 1 12).bind fun x135 => (ldJ h (.ref x135) 0).bind fun x139 => (gO h (.ref l0) 1 12).bind fun x141 => (ldJ h (.ref x141) (l6 - l7)).bind fun x149 => (stJ h (.ref x112) (l7 - 1) ((x125 * x132) - (x139 * x149))).bind fun h152 => k98 l0 l6 (l7 + 1) h152))
def s_X1_rootsWithin_98 (k65 : Nat → Int32 → aH → aO) (n : Nat) : Nat → Int32 → Int32 → aH → aO := lpF (fun _ _ _ _ => none) (s_X1_rootsWithin_98_b k65) n
def s_X1_rootsWithin_65_b  (k65 : Nat → Int32 → aH → aO) (l0 : Nat) (l6 : Int32) (h : aH) : aO :=
  if l6 ≤ 0 then (rtZ 1 h) else ((gO h (.ref l0) 1 12).bind fun x71 => (ldJ h (.ref x71) 0).bind fun x75 => (gO h (.ref l0) 1 12).bind fun x80 => (ldJ h (.ref x80) l6).bind fun x85 => if (lg_cmp (jabsL x75) (jabsL x85)) < 0 then (s_X1_rootsWithin_98 k65 FU l0 l6 1 h) else (rtZ 0 h))
def s_X1_rootsWithin_65  (n : Nat) : Nat → Int32 → aH → aO := lpF (fun _ _ _ => none) (s_X1_rootsWithin_65_b ) n
def s_X1_rootsWithin_59  (l0 : Nat) (s0 : Int32) (h : aH) : aO :=
  s_X1_rootsWithin_65 FU l0 s0 h
def s_X1_rootsWithin (o : Nat) (a1 : Int32) (a2 : Int32) (a3 : Int32) (a4 : Int32) (h : aH) : aO :=
  (gO h (.ref o) 1 12).bind fun x1 => (stJ h (.ref x1) 0 a1.toInt64).bind fun h7 => (gO h7 (.ref o) 1 12).bind fun x9 => (stJ h7 (.ref x9) 1 a2.toInt64).bind fun h15 => (gO h15 (.ref o) 1 12).bind fun x17 => (stJ h15 (.ref x17) 2 a3.toInt64).bind fun h23 => (gO h23 (.ref o) 1 12).bind fun x25 => (stJ h23 (.ref x25) 3 a4.toInt64).bind fun h32 => if a4 = 0 then (if a3 = 0 then (if a2 = 0 then (s_X1_rootsWithin_59 o 0 h32) else (s_X1_rootsWithin_59 o 1 h32)) else (s_X1_rootsWithin_59 o 2 h32)) else (s_X1_rootsWithin_59 o 3 h32)
section
variable {p : Program} {l : Launch} {e : Env} {s : State} {m : MethodId} {args : Array Value} {below : List Frame} {meth : Method} {c : Code} {D : va_G} {B0 : Nat} {X : Nat → Nat} {ws0 : va_W} {r : aR} {h' : aH} {mc ms : Nat}
theorem t_X1_rootsWithin_159 (C : Cx p l s m args meth c B0 X RX1 "rootsWithin" cX1_rootsWithin 8 (some .boolean) []) {k65 : Nat → Int32 → aH → aO} (K65 : ∀ (l0 : Nat) (l6 : Int32) (h : aH), k65 l0 l6 h = some (r, h') → Ev p l e { frames := 1, cells := mc, slots := ms, locals := 60 } s m args below meth c D B0 X ws0 r h' mc ms 8 mc ms 65 [some (.ref l0), none, none, none, none, none, some (.int l6), none] [] h) {l0 : Nat} {l6 : Int32} {h : aH} (hs : s_X1_rootsWithin_159 k65 l0 l6 h = some (r, h')) : Ev p l e { frames := 1, cells := mc, slots := ms, locals := 60 } s m args below meth c D B0 X ws0 r h' mc ms 8 mc ms 159 [some (.ref l0), none, none, none, none, none, some (.int l6), none] [] h := by
  unfold s_X1_rootsWithin_159 at hs
  refine ev_aload_n C (x := .ref l0) rfl trivial dX1_rootsWithin_159 ?_
  obtain ⟨x160, e160, hs⟩ := aB hs
  refine ev_get C (ci := 1) (k := 13) rfl wu_1 (by decide) wf_X1_40 (gO_F e160) dX1_rootsWithin_160 ?_
  refine ev_iconst C (v := 0) dX1_rootsWithin_163 (by decide) ?_
  refine ev_aload_n C (x := .ref l0) rfl trivial dX1_rootsWithin_164 ?_
  obtain ⟨x165, e165, hs⟩ := aB hs
  refine ev_get C (ci := 1) (k := 12) rfl wu_1 (by decide) wf_X1_37 (gO_F e165) dX1_rootsWithin_165 ?_
  refine ev_iconst C (v := 0) dX1_rootsWithin_168 (by decide) ?_
  refine ev_iload C rfl dX1_rootsWithin_169 ?_
  obtain ⟨h171, e171, hs⟩ := aB hs
  refine ev_cpJ C wm_X1_188 wb_acopy wt_acopy wz_J10 e171 (Nat.le_of_ble_eq_true rfl) (Nat.le_of_ble_eq_true rfl) dX1_rootsWithin_171 ?_
  refine ev_iinc C (i := 6) (n := -1) (x := l6) (v := l6 + (-1)) rfl (congrArg (fun z => l6 + z) (show Int32.ofInt (-1) = (-1) by decide)) (by decide) dX1_rootsWithin_174 ?_
  refine ev_goto C (tgt := 65) (by decide) dX1_rootsWithin_177 ?_
  exact (K65 _ _ _ hs)
theorem t_X1_rootsWithin_98_b (C : Cx p l s m args meth c B0 X RX1 "rootsWithin" cX1_rootsWithin 8 (some .boolean) []) {k65 : Nat → Int32 → aH → aO} (K65 : ∀ (l0 : Nat) (l6 : Int32) (h : aH), k65 l0 l6 h = some (r, h') → Ev p l e { frames := 1, cells := mc, slots := ms, locals := 60 } s m args below meth c D B0 X ws0 r h' mc ms 8 mc ms 65 [some (.ref l0), none, none, none, none, none, some (.int l6), none] [] h) {k98 : Nat → Int32 → Int32 → aH → aO} (K98 : ∀ (l0 : Nat) (l6 : Int32) (l7 : Int32) (h : aH), k98 l0 l6 l7 h = some (r, h') → Ev p l e { frames := 1, cells := mc, slots := ms, locals := 60 } s m args below meth c D B0 X ws0 r h' mc ms 8 mc ms 98 [some (.ref l0), none, none, none, none, none, some (.int l6), some (.int l7)] [] h) {l0 : Nat} {l6 : Int32} {l7 : Int32} {h : aH} (hs : s_X1_rootsWithin_98_b k65 k98 l0 l6 l7 h = some (r, h')) : Ev p l e { frames := 1, cells := mc, slots := ms, locals := 60 } s m args below meth c D B0 X ws0 r h' mc ms 8 mc ms 98 [some (.ref l0), none, none, none, none, none, some (.int l6), some (.int l7)] [] h := by
  unfold s_X1_rootsWithin_98_b at hs
  refine ev_iload C rfl dX1_rootsWithin_98 ?_
  refine ev_iconst C (v := 1) dX1_rootsWithin_100 (by decide) ?_
  refine ev_icmp_le C (tgt := 159) (by decide) dX1_rootsWithin_101 (fun q101 => ?_) (fun q101 => ?_)
  · replace hs := (if_pos q101).symm.trans hs
    exact Ev.keep [true, true, true, true, true, true, true, false] (t_X1_rootsWithin_159 C K65 hs)
  · replace hs := (if_neg q101).symm.trans hs
    refine ev_iload C rfl dX1_rootsWithin_104 ?_
    refine ev_iload C rfl dX1_rootsWithin_106 ?_
    refine ev_icmp_gt C (tgt := 159) (by decide) dX1_rootsWithin_108 (fun q108 => ?_) (fun q108 => ?_)
    · replace hs := (if_pos q108).symm.trans hs
      exact Ev.keep [true, true, true, true, true, true, true, false] (t_X1_rootsWithin_159 C K65 hs)
    · replace hs := (if_neg q108).symm.trans hs
      refine ev_aload_n C (x := .ref l0) rfl trivial dX1_rootsWithin_111 ?_
      obtain ⟨x112, e112, hs⟩ := aB hs
      refine ev_get C (ci := 1) (k := 13) rfl wu_1 (by decide) wf_X1_40 (gO_F e112) dX1_rootsWithin_112 ?_
      refine ev_iload C rfl dX1_rootsWithin_115 ?_
      refine ev_iconst C (v := 1) dX1_rootsWithin_117 (by decide) ?_
      refine ev_isub C dX1_rootsWithin_118 ?_
      refine ev_aload_n C (x := .ref l0) rfl trivial dX1_rootsWithin_119 ?_
      obtain ⟨x120, e120, hs⟩ := aB hs
      refine ev_get C (ci := 1) (k := 12) rfl wu_1 (by decide) wf_X1_37 (gO_F e120) dX1_rootsWithin_120 ?_
      refine ev_iload C rfl dX1_rootsWithin_123 ?_
      obtain ⟨x125, e125, hs⟩ := aB hs
      refine ev_lald C e125 dX1_rootsWithin_125 ?_
      refine ev_aload_n C (x := .ref l0) rfl trivial dX1_rootsWithin_126 ?_
      obtain ⟨x127, e127, hs⟩ := aB hs
      refine ev_get C (ci := 1) (k := 12) rfl wu_1 (by decide) wf_X1_37 (gO_F e127) dX1_rootsWithin_127 ?_
      refine ev_iload C rfl dX1_rootsWithin_130 ?_
      obtain ⟨x132, e132, hs⟩ := aB hs
      refine ev_lald C e132 dX1_rootsWithin_132 ?_
      refine ev_lmul C dX1_rootsWithin_133 ?_
      refine ev_aload_n C (x := .ref l0) rfl trivial dX1_rootsWithin_134 ?_
      obtain ⟨x135, e135, hs⟩ := aB hs
      refine ev_get C (ci := 1) (k := 12) rfl wu_1 (by decide) wf_X1_37 (gO_F e135) dX1_rootsWithin_135 ?_
      refine ev_iconst C (v := 0) dX1_rootsWithin_138 (by decide) ?_
      obtain ⟨x139, e139, hs⟩ := aB hs
      refine ev_lald C e139 dX1_rootsWithin_139 ?_
      refine ev_aload_n C (x := .ref l0) rfl trivial dX1_rootsWithin_140 ?_
      obtain ⟨x141, e141, hs⟩ := aB hs
      refine ev_get C (ci := 1) (k := 12) rfl wu_1 (by decide) wf_X1_37 (gO_F e141) dX1_rootsWithin_141 ?_
      refine ev_iload C rfl dX1_rootsWithin_144 ?_
      refine ev_iload C rfl dX1_rootsWithin_146 ?_
      refine ev_isub C dX1_rootsWithin_148 ?_
      obtain ⟨x149, e149, hs⟩ := aB hs
      refine ev_lald C e149 dX1_rootsWithin_149 ?_
      refine ev_lmul C dX1_rootsWithin_150 ?_
      refine ev_lsub C dX1_rootsWithin_151 ?_
      obtain ⟨h152, e152, hs⟩ := aB hs
      refine ev_last C e152 dX1_rootsWithin_152 ?_
      refine ev_iinc C (i := 7) (n := 1) (x := l7) (v := l7 + 1) rfl (congrArg (fun z => l7 + z) (show Int32.ofInt 1 = 1 by decide)) (by decide) dX1_rootsWithin_153 ?_
      refine ev_goto C (tgt := 98) (by decide) dX1_rootsWithin_156 ?_
      exact (K98 _ _ _ _ hs)
theorem t_X1_rootsWithin_98 (C : Cx p l s m args meth c B0 X RX1 "rootsWithin" cX1_rootsWithin 8 (some .boolean) []) {k65 : Nat → Int32 → aH → aO} (K65 : ∀ (l0 : Nat) (l6 : Int32) (h : aH), k65 l0 l6 h = some (r, h') → Ev p l e { frames := 1, cells := mc, slots := ms, locals := 60 } s m args below meth c D B0 X ws0 r h' mc ms 8 mc ms 65 [some (.ref l0), none, none, none, none, none, some (.int l6), none] [] h) : ∀ (n : Nat) {l0 : Nat} {l6 : Int32} {l7 : Int32} {h : aH} (hs : s_X1_rootsWithin_98 k65 n l0 l6 l7 h = some (r, h')), Ev p l e { frames := 1, cells := mc, slots := ms, locals := 60 } s m args below meth c D B0 X ws0 r h' mc ms 8 mc ms 98 [some (.ref l0), none, none, none, none, none, some (.int l6), some (.int l7)] [] h
  | 0, _, _, _, _, hs => nomatch hs
  | n + 1, _, _, _, _, hs => t_X1_rootsWithin_98_b C K65 (k98 := s_X1_rootsWithin_98 k65 n) (fun _ _ _ _ hs => t_X1_rootsWithin_98 C K65 n hs) hs
theorem t_X1_rootsWithin_65_b (C : Cx p l s m args meth c B0 X RX1 "rootsWithin" cX1_rootsWithin 8 (some .boolean) [])   {k65 : Nat → Int32 → aH → aO} (K65 : ∀ (l0 : Nat) (l6 : Int32) (h : aH), k65 l0 l6 h = some (r, h') → Ev p l e { frames := 1, cells := mc, slots := ms, locals := 60 } s m args below meth c D B0 X ws0 r h' mc ms 8 mc ms 65 [some (.ref l0), none, none, none, none, none, some (.int l6), none] [] h) {l0 : Nat} {l6 : Int32} {h : aH} (hs : s_X1_rootsWithin_65_b  k65 l0 l6 h = some (r, h')) : Ev p l e { frames := 1, cells := mc, slots := ms, locals := 60 } s m args below meth c D B0 X ws0 r h' mc ms 8 mc ms 65 [some (.ref l0), none, none, none, none, none, some (.int l6), none] [] h := by
  unfold s_X1_rootsWithin_65_b at hs
  refine ev_iload C rfl dX1_rootsWithin_65 ?_
  refine ev_if_le C (tgt := 180) (by decide) dX1_rootsWithin_67 (fun q67 => ?_) (fun q67 => ?_)
  · replace hs := (if_pos q67).symm.trans hs
    refine ev_iconst C (v := 1) dX1_rootsWithin_180 (by decide) ?_
    obtain ⟨hz, rfl, rfl⟩ := rtZ_at hs
    exact ev_zret C rfl hz rfl (Nat.le_refl _) (Nat.le_refl _) rfl dX1_rootsWithin_181
  · replace hs := (if_neg q67).symm.trans hs
    refine ev_aload_n C (x := .ref l0) rfl trivial dX1_rootsWithin_70 ?_
    obtain ⟨x71, e71, hs⟩ := aB hs
    refine ev_get C (ci := 1) (k := 12) rfl wu_1 (by decide) wf_X1_37 (gO_F e71) dX1_rootsWithin_71 ?_
    refine ev_iconst C (v := 0) dX1_rootsWithin_74 (by decide) ?_
    obtain ⟨x75, e75, hs⟩ := aB hs
    refine ev_lald C e75 dX1_rootsWithin_75 ?_
    refine ev_mabsL C wm_X1_184 wt_mabsL wz_J9 wc_mabsL (Nat.le_of_ble_eq_true rfl) (Nat.le_of_ble_eq_true rfl) (Nat.le_refl _) (Nat.le_refl _) dX1_rootsWithin_76 ?_
    refine ev_aload_n C (x := .ref l0) rfl trivial dX1_rootsWithin_79 ?_
    obtain ⟨x80, e80, hs⟩ := aB hs
    refine ev_get C (ci := 1) (k := 12) rfl wu_1 (by decide) wf_X1_37 (gO_F e80) dX1_rootsWithin_80 ?_
    refine ev_iload C rfl dX1_rootsWithin_83 ?_
    obtain ⟨x85, e85, hs⟩ := aB hs
    refine ev_lald C e85 dX1_rootsWithin_85 ?_
    refine ev_mabsL C wm_X1_184 wt_mabsL wz_J9 wc_mabsL (Nat.le_of_ble_eq_true rfl) (Nat.le_of_ble_eq_true rfl) (Nat.le_refl _) (Nat.le_refl _) dX1_rootsWithin_86 ?_
    refine ev_lcmp C dX1_rootsWithin_89 ?_
    refine ev_if_lt C (tgt := 95) (by decide) dX1_rootsWithin_90 (fun q90 => ?_) (fun q90 => ?_)
    · replace hs := (if_pos q90).symm.trans hs
      refine ev_iconst C (v := 1) dX1_rootsWithin_95 (by decide) ?_
      refine ev_istore C (by decide) dX1_rootsWithin_96 ?_
      exact (t_X1_rootsWithin_98 C K65 FU hs)
    · replace hs := (if_neg q90).symm.trans hs
      refine ev_iconst C (v := 0) dX1_rootsWithin_93 (by decide) ?_
      obtain ⟨hz, rfl, rfl⟩ := rtZ_at hs
      exact ev_zret C rfl hz rfl (Nat.le_refl _) (Nat.le_refl _) rfl dX1_rootsWithin_94
theorem t_X1_rootsWithin_65 (C : Cx p l s m args meth c B0 X RX1 "rootsWithin" cX1_rootsWithin 8 (some .boolean) [])   : ∀ (n : Nat) {l0 : Nat} {l6 : Int32} {h : aH} (hs : s_X1_rootsWithin_65  n l0 l6 h = some (r, h')), Ev p l e { frames := 1, cells := mc, slots := ms, locals := 60 } s m args below meth c D B0 X ws0 r h' mc ms 8 mc ms 65 [some (.ref l0), none, none, none, none, none, some (.int l6), none] [] h
  | 0, _, _, _, hs => nomatch hs
  | n + 1, _, _, _, hs => t_X1_rootsWithin_65_b C  (k65 := s_X1_rootsWithin_65  n) (fun _ _ _ hs => t_X1_rootsWithin_65 C  n hs) hs
theorem t_X1_rootsWithin_59 (C : Cx p l s m args meth c B0 X RX1 "rootsWithin" cX1_rootsWithin 8 (some .boolean) [])   {l0 : Nat} {s0 : Int32} {h : aH} (hs : s_X1_rootsWithin_59  l0 s0 h = some (r, h')) : Ev p l e { frames := 1, cells := mc, slots := ms, locals := 60 } s m args below meth c D B0 X ws0 r h' mc ms 8 mc ms 59 [some (.ref l0), none, none, none, none, none, none, none] [.int s0] h := by
  unfold s_X1_rootsWithin_59 at hs
  refine ev_istore C (by decide) dX1_rootsWithin_59 ?_
  refine ev_iload C rfl dX1_rootsWithin_61 ?_
  refine ev_istore C (by decide) dX1_rootsWithin_63 ?_
  exact Ev.keep [true, true, true, true, true, false, true, true] (t_X1_rootsWithin_65 C  FU hs)
theorem hy_X1_rootsWithin : yX1_rootsWithin.cls ≠ "java/lang/invoke/MethodHandle" ∧ yX1_rootsWithin.cls ≠ "java/lang/invoke/VarHandle" ∧ (parseMethodDescriptor yX1_rootsWithin.desc).map (fun d => d.parameters.length) = some 4 := by decide +kernel
theorem T_X1_rootsWithin (o : Nat) (a1 : Int32) (a2 : Int32) (a3 : Int32) (a4 : Int32) (h : aH) (r : aR) (h' : aH) (hs : s_X1_rootsWithin o a1 a2 a3 a4 h = some (r, h')) : Mt yX1_rootsWithin (Cond.code yX1_rootsWithin cX1_rootsWithin 8 (some .boolean) :: aTB) 1 60 0 0 [.ref o, .int a1, .int a2, .int a3, .int a4] h r h' := by
  unfold s_X1_rootsWithin at hs
  refine Mt_of (k := 3) (by decide) rfl (fun p l e s m args below meth c D B0 X ws0 C => ?_)
  show Ev p l e { frames := 1, cells := 0, slots := 0, locals := 60 } s m args below meth c D B0 X ws0 r h' 0 0 8 0 0 0 [some (.ref o), some (.int a1), some (.int a2), some (.int a3), some (.int a4), none, none, none] [] h
  refine ev_aload_n C (x := .ref o) rfl trivial dX1_rootsWithin_0 ?_
  obtain ⟨x1, e1, hs⟩ := aB hs
  refine ev_get C (ci := 1) (k := 12) rfl wu_1 (by decide) wf_X1_37 (gO_F e1) dX1_rootsWithin_1 ?_
  refine ev_iconst C (v := 0) dX1_rootsWithin_4 (by decide) ?_
  refine ev_iload_n C rfl dX1_rootsWithin_5 ?_
  refine ev_i2l C dX1_rootsWithin_6 ?_
  obtain ⟨h7, e7, hs⟩ := aB hs
  refine ev_last C e7 dX1_rootsWithin_7 ?_
  refine ev_aload_n C (x := .ref o) rfl trivial dX1_rootsWithin_8 ?_
  obtain ⟨x9, e9, hs⟩ := aB hs
  refine ev_get C (ci := 1) (k := 12) rfl wu_1 (by decide) wf_X1_37 (gO_F e9) dX1_rootsWithin_9 ?_
  refine ev_iconst C (v := 1) dX1_rootsWithin_12 (by decide) ?_
  refine ev_iload_n C rfl dX1_rootsWithin_13 ?_
  refine ev_i2l C dX1_rootsWithin_14 ?_
  obtain ⟨h15, e15, hs⟩ := aB hs
  refine ev_last C e15 dX1_rootsWithin_15 ?_
  refine ev_aload_n C (x := .ref o) rfl trivial dX1_rootsWithin_16 ?_
  obtain ⟨x17, e17, hs⟩ := aB hs
  refine ev_get C (ci := 1) (k := 12) rfl wu_1 (by decide) wf_X1_37 (gO_F e17) dX1_rootsWithin_17 ?_
  refine ev_iconst C (v := 2) dX1_rootsWithin_20 (by decide) ?_
  refine ev_iload_n C rfl dX1_rootsWithin_21 ?_
  refine ev_i2l C dX1_rootsWithin_22 ?_
  obtain ⟨h23, e23, hs⟩ := aB hs
  refine ev_last C e23 dX1_rootsWithin_23 ?_
  refine ev_aload_n C (x := .ref o) rfl trivial dX1_rootsWithin_24 ?_
  obtain ⟨x25, e25, hs⟩ := aB hs
  refine ev_get C (ci := 1) (k := 12) rfl wu_1 (by decide) wf_X1_37 (gO_F e25) dX1_rootsWithin_25 ?_
  refine ev_iconst C (v := 3) dX1_rootsWithin_28 (by decide) ?_
  refine ev_iload C rfl dX1_rootsWithin_29 ?_
  refine ev_i2l C dX1_rootsWithin_31 ?_
  obtain ⟨h32, e32, hs⟩ := aB hs
  refine ev_last C e32 dX1_rootsWithin_32 ?_
  refine ev_iload C rfl dX1_rootsWithin_33 ?_
  refine ev_if_eq C (tgt := 42) (by decide) dX1_rootsWithin_35 (fun q35 => ?_) (fun q35 => ?_)
  · replace hs := (if_pos q35).symm.trans hs
    refine ev_iload_n C rfl dX1_rootsWithin_42 ?_
    refine ev_if_eq C (tgt := 50) (by decide) dX1_rootsWithin_43 (fun q43 => ?_) (fun q43 => ?_)
    · replace hs := (if_pos q43).symm.trans hs
      refine ev_iload_n C rfl dX1_rootsWithin_50 ?_
      refine ev_if_eq C (tgt := 58) (by decide) dX1_rootsWithin_51 (fun q51 => ?_) (fun q51 => ?_)
      · replace hs := (if_pos q51).symm.trans hs
        refine ev_iconst C (v := 0) dX1_rootsWithin_58 (by decide) ?_
        exact Ev.keep [true, false, false, false, false, true, true, true] (t_X1_rootsWithin_59 C  hs)
      · replace hs := (if_neg q51).symm.trans hs
        refine ev_iconst C (v := 1) dX1_rootsWithin_54 (by decide) ?_
        refine ev_goto C (tgt := 59) (by decide) dX1_rootsWithin_55 ?_
        exact Ev.keep [true, false, false, false, false, true, true, true] (t_X1_rootsWithin_59 C  hs)
    · replace hs := (if_neg q43).symm.trans hs
      refine ev_iconst C (v := 2) dX1_rootsWithin_46 (by decide) ?_
      refine ev_goto C (tgt := 59) (by decide) dX1_rootsWithin_47 ?_
      exact Ev.keep [true, false, false, false, false, true, true, true] (t_X1_rootsWithin_59 C  hs)
  · replace hs := (if_neg q35).symm.trans hs
    refine ev_iconst C (v := 3) dX1_rootsWithin_38 (by decide) ?_
    refine ev_goto C (tgt := 59) (by decide) dX1_rootsWithin_39 ?_
    exact Ev.keep [true, false, false, false, false, true, true, true] (t_X1_rootsWithin_59 C  hs)
end
-- X2_init
theorem dX2_init_0 : decode cX2_init 0 = .ok (.aload_n 0, 1) := by decide +kernel
theorem dX2_init_1 : decode cX2_init 1 = .ok (.invokespecial 3, 3) := by decide +kernel
theorem dX2_init_4 : decode cX2_init 4 = .ok (.aload_n 0, 1) := by decide +kernel
theorem dX2_init_5 : decode cX2_init 5 = .ok (.iconst 5, 1) := by decide +kernel
theorem dX2_init_6 : decode cX2_init 6 = .ok (.newarray .int, 2) := by decide +kernel
theorem dX2_init_8 : decode cX2_init 8 = .ok (.putfield 9, 3) := by decide +kernel
theorem dX2_init_11 : decode cX2_init 11 = .ok (.aload_n 0, 1) := by decide +kernel
theorem dX2_init_12 : decode cX2_init 12 = .ok (.bipush 11, 2) := by decide +kernel
theorem dX2_init_14 : decode cX2_init 14 = .ok (.newarray .long, 2) := by decide +kernel
theorem dX2_init_16 : decode cX2_init 16 = .ok (.putfield 15, 3) := by decide +kernel
theorem dX2_init_19 : decode cX2_init 19 = .ok (.aload_n 0, 1) := by decide +kernel
theorem dX2_init_20 : decode cX2_init 20 = .ok (.bipush 9, 2) := by decide +kernel
theorem dX2_init_22 : decode cX2_init 22 = .ok (.newarray .int, 2) := by decide +kernel
theorem dX2_init_24 : decode cX2_init 24 = .ok (.putfield 19, 3) := by decide +kernel
theorem dX2_init_27 : decode cX2_init 27 = .ok (.aload_n 0, 1) := by decide +kernel
theorem dX2_init_28 : decode cX2_init 28 = .ok (.bipush 9, 2) := by decide +kernel
theorem dX2_init_30 : decode cX2_init 30 = .ok (.newarray .int, 2) := by decide +kernel
theorem dX2_init_32 : decode cX2_init 32 = .ok (.putfield 22, 3) := by decide +kernel
theorem dX2_init_35 : decode cX2_init 35 = .ok (.aload_n 0, 1) := by decide +kernel
theorem dX2_init_36 : decode cX2_init 36 = .ok (.bipush 8, 2) := by decide +kernel
theorem dX2_init_38 : decode cX2_init 38 = .ok (.newarray .int, 2) := by decide +kernel
theorem dX2_init_40 : decode cX2_init 40 = .ok (.putfield 25, 3) := by decide +kernel
theorem dX2_init_43 : decode cX2_init 43 = .ok (.aload_n 0, 1) := by decide +kernel
theorem dX2_init_44 : decode cX2_init 44 = .ok (.bipush 8, 2) := by decide +kernel
theorem dX2_init_46 : decode cX2_init 46 = .ok (.newarray .int, 2) := by decide +kernel
theorem dX2_init_48 : decode cX2_init 48 = .ok (.putfield 28, 3) := by decide +kernel
theorem dX2_init_51 : decode cX2_init 51 = .ok (.aload_n 0, 1) := by decide +kernel
theorem dX2_init_52 : decode cX2_init 52 = .ok (.bipush 8, 2) := by decide +kernel
theorem dX2_init_54 : decode cX2_init 54 = .ok (.newarray .int, 2) := by decide +kernel
theorem dX2_init_56 : decode cX2_init 56 = .ok (.putfield 31, 3) := by decide +kernel
theorem dX2_init_59 : decode cX2_init 59 = .ok (.aload_n 0, 1) := by decide +kernel
theorem dX2_init_60 : decode cX2_init 60 = .ok (.bipush 8, 2) := by decide +kernel
theorem dX2_init_62 : decode cX2_init 62 = .ok (.newarray .int, 2) := by decide +kernel
theorem dX2_init_64 : decode cX2_init 64 = .ok (.putfield 34, 3) := by decide +kernel
theorem dX2_init_67 : decode cX2_init 67 = .ok (.aload_n 0, 1) := by decide +kernel
theorem dX2_init_68 : decode cX2_init 68 = .ok (.bipush 8, 2) := by decide +kernel
theorem dX2_init_70 : decode cX2_init 70 = .ok (.newarray .int, 2) := by decide +kernel
theorem dX2_init_72 : decode cX2_init 72 = .ok (.putfield 37, 3) := by decide +kernel
theorem dX2_init_75 : decode cX2_init 75 = .ok (.aload_n 0, 1) := by decide +kernel
theorem dX2_init_76 : decode cX2_init 76 = .ok (.iconst 2, 1) := by decide +kernel
theorem dX2_init_77 : decode cX2_init 77 = .ok (.newarray .int, 2) := by decide +kernel
theorem dX2_init_79 : decode cX2_init 79 = .ok (.putfield 40, 3) := by decide +kernel
theorem dX2_init_82 : decode cX2_init 82 = .ok (.aload_n 0, 1) := by decide +kernel
theorem dX2_init_83 : decode cX2_init 83 = .ok (.iconst 2, 1) := by decide +kernel
theorem dX2_init_84 : decode cX2_init 84 = .ok (.newarray .int, 2) := by decide +kernel
theorem dX2_init_86 : decode cX2_init 86 = .ok (.putfield 43, 3) := by decide +kernel
theorem dX2_init_89 : decode cX2_init 89 = .ok (.aload_n 0, 1) := by decide +kernel
theorem dX2_init_90 : decode cX2_init 90 = .ok (.iconst 1, 1) := by decide +kernel
theorem dX2_init_91 : decode cX2_init 91 = .ok (.putfield 46, 3) := by decide +kernel
theorem dX2_init_94 : decode cX2_init 94 = .ok (.aload_n 0, 1) := by decide +kernel
theorem dX2_init_95 : decode cX2_init 95 = .ok (.new 50, 3) := by decide +kernel
theorem dX2_init_98 : decode cX2_init 98 = .ok (.dup, 1) := by decide +kernel
theorem dX2_init_99 : decode cX2_init 99 = .ok (.invokespecial 52, 3) := by decide +kernel
theorem dX2_init_102 : decode cX2_init 102 = .ok (.putfield 53, 3) := by decide +kernel
theorem dX2_init_105 : decode cX2_init 105 = .ok (.return_, 1) := by decide +kernel
def s_X2_init (o : Nat) (h : aH) : aP :=
  bP (nwA .int h 5) fun o6 h6 => ck (0 + 1) (0 + Int32.toNatClampNeg 5) ((pF h6 (.ref o) 2 0 (.ref o6)).bind fun h8 => bP (nwA .long h8 11) fun o14 h14 => ck (0 + 1 + 1) (0 + Int32.toNatClampNeg 5 + Int32.toNatClampNeg 11) ((pF h14 (.ref o) 2 1 (.ref o14)).bind fun h16 => bP (nwA .int h16 9) fun o22 h22 => ck (0 + 1 + 1 + 1) (0 + Int32.toNatClampNeg 5 + Int32.toNatClampNeg 11 + Int32.toNatClampNeg 9) ((pF h22 (.ref o) 2 2 (.ref o22)).bind fun h24 => bP (nwA .int h24 9) fun o30 h30 => ck (0 + 1 + 1 + 1 + 1) (0 + Int32.toNatClampNeg 5 + Int32.toNatClampNeg 11 + Int32.toNatClampNeg 9 + Int32.toNatClampNeg 9) ((pF h30 (.ref o) 2 3 (.ref o30)).bind fun h32 => bP (nwA .int h32 8) fun o38 h38 => ck (0 + 1 + 1 + 1 + 1 + 1) (0 + Int32.toNatClampNeg 5 + Int32.toNatClampNeg 11 + Int32.toNatClampNeg 9 + Int32.toNatClampNeg 9 + Int32.toNatClampNeg 8) ((pF h38 (.ref o) 2 5 (.ref o38)).bind fun h40 => bP (nwA .int h40 8) fun o46 h46 => ck (0 + 1 + 1 + 1 + 1 + 1 + 1) (0 + Int32.toNatClampNeg 5 + Int32.toNatClampNeg 11 + Int32.toNatClampNeg 9 + Int32.toNatClampNeg 9 + Int32.toNatClampNeg 8 + Int32.toNatClampNeg 8) ((pF h46 (.ref o) 2 6 (.ref o46)).bind fun h48 => bP (nwA .int h48 8) fun o54 h54 => ck (0 + 1 + 1 + 1 + 1 + 1 + 1 + 1) (0 + Int32.toNatClampNeg 5 + Int32.toNatClampNeg 11 + Int32.toNatClampNeg 9 + Int32.toNatClampNeg 9 + Int32.toNatClampNeg 8 + Int32.toNatClampNeg 8 + Int32.toNatClampNeg 8) ((pF h54 (.ref o) 2 7 (.ref o54)).bind fun h56 => bP (nwA .int h56 8) fun o62 h62 => ck (0 + 1 + 1 + 1 + 1 + 1 + 1 + 1 + 1) (0 + Int32.toNatClampNeg 5 + Int32.toNatClampNeg 11 + Int32.toNatClampNeg 9 + Int32.toNatClampNeg 9 + Int32.toNatClampNeg 8 + Int32.toNatClampNeg 8 + Int32.toNatClampNeg 8 + Int32.toNatClampNeg 8) ((pF h62 (.ref o) 2 8 (.ref o62)).bind fun h64 => bP (nwA .int h64 8) fun o70 h70 => ck (0 + 1 + 1 + 1 + 1 + 1 + 1 + 1 + 1 + 1) (0 + Int32.toNatClampNeg 5 + Int32.toNatClampNeg 11 + Int32.toNatClampNeg 9 + Int32.toNatClampNeg 9 + Int32.toNatClampNeg 8 + Int32.toNatClampNeg 8 + Int32.toNatClampNeg 8 + Int32.toNatClampNeg 8 + Int32.toNatClampNeg 8) ((pF h70 (.ref o) 2 9 (.ref o70)).bind fun h72 => bP (nwA .int h72 2) fun o77 h77 => ck (0 + 1 + 1 + 1 + 1 + 1 + 1 + 1 + 1 + 1 + 1) (0 + Int32.toNatClampNeg 5 + Int32.toNatClampNeg 11 + Int32.toNatClampNeg 9 + Int32.toNatClampNeg 9 + Int32.toNatClampNeg 8 + Int32.toNatClampNeg 8 + Int32.toNatClampNeg 8 + Int32.toNatClampNeg 8 + Int32.toNatClampNeg 8 + Int32.toNatClampNeg 2) ((pF h77 (.ref o) 2 10 (.ref o77)).bind fun h79 => bP (nwA .int h79 2) fun o84 h84 => ck (0 + 1 + 1 + 1 + 1 + 1 + 1 + 1 + 1 + 1 + 1 + 1) (0 + Int32.toNatClampNeg 5 + Int32.toNatClampNeg 11 + Int32.toNatClampNeg 9 + Int32.toNatClampNeg 9 + Int32.toNatClampNeg 8 + Int32.toNatClampNeg 8 + Int32.toNatClampNeg 8 + Int32.toNatClampNeg 8 + Int32.toNatClampNeg 8 + Int32.toNatClampNeg 2 + Int32.toNatClampNeg 2) ((pF h84 (.ref o) 2 11 (.ref o84)).bind fun h86 => (pF h86 (.ref o) 2 15 (.int 1)).bind fun h91 => bP (nwO dfX0 0 h91) fun o95 h95 => ck (0 + 1 + 1 + 1 + 1 + 1 + 1 + 1 + 1 + 1 + 1 + 1 + 1) (0 + Int32.toNatClampNeg 5 + Int32.toNatClampNeg 11 + Int32.toNatClampNeg 9 + Int32.toNatClampNeg 9 + Int32.toNatClampNeg 8 + Int32.toNatClampNeg 8 + Int32.toNatClampNeg 8 + Int32.toNatClampNeg 8 + Int32.toNatClampNeg 8 + Int32.toNatClampNeg 2 + Int32.toNatClampNeg 2 + 9) (dN (s_X0_init o95 h95) fun h99 n99 y99 => ck (0 + 1 + 1 + 1 + 1 + 1 + 1 + 1 + 1 + 1 + 1 + 1 + 1 + n99) (0 + Int32.toNatClampNeg 5 + Int32.toNatClampNeg 11 + Int32.toNatClampNeg 9 + Int32.toNatClampNeg 9 + Int32.toNatClampNeg 8 + Int32.toNatClampNeg 8 + Int32.toNatClampNeg 8 + Int32.toNatClampNeg 8 + Int32.toNatClampNeg 8 + Int32.toNatClampNeg 2 + Int32.toNatClampNeg 2 + 9 + y99) (wC (0 + 1 + 1 + 1 + 1 + 1 + 1 + 1 + 1 + 1 + 1 + 1 + 1 + n99) (0 + Int32.toNatClampNeg 5 + Int32.toNatClampNeg 11 + Int32.toNatClampNeg 9 + Int32.toNatClampNeg 9 + Int32.toNatClampNeg 8 + Int32.toNatClampNeg 8 + Int32.toNatClampNeg 8 + Int32.toNatClampNeg 8 + Int32.toNatClampNeg 8 + Int32.toNatClampNeg 2 + Int32.toNatClampNeg 2 + 9 + y99) ((pF h99 (.ref o) 2 16 (.ref o95)).bind fun h102 => some (.inl none, h102)))))))))))))))
section
variable {p : Program} {l : Launch} {e : Env} {s : State} {m : MethodId} {args : Array Value} {below : List Frame} {meth : Method} {c : Code} {D : va_G} {B0 : Nat} {X : Nat → Nat} {ws0 : va_W} {r : aR} {h' : aH} {mc ms : Nat}
theorem hy_X2_init : yX2_init.cls ≠ "java/lang/invoke/MethodHandle" ∧ yX2_init.cls ≠ "java/lang/invoke/VarHandle" ∧ (parseMethodDescriptor yX2_init.desc).map (fun d => d.parameters.length) = some 0 := by decide +kernel
theorem T_X2_init (o : Nat) (h : aH) (r : aR) (h' : aH) (mc ms : Nat) (hs : s_X2_init o h = some (r, h', mc, ms)) : Mt yX2_init (Cond.code yX2_init cX2_init 1 none :: aTB) 2 40 mc ms [.ref o] h r h' := by
  unfold s_X2_init at hs
  refine Mt_of (k := 0) (by decide) rfl (fun p l e s m args below meth c D B0 X ws0 C => ?_)
  show Ev p l e { frames := 2, cells := mc, slots := ms, locals := 40 } s m args below meth c D B0 X ws0 r h' mc ms 1 0 0 0 [some (.ref o)] [] h
  refine ev_aload_n C (x := .ref o) rfl trivial dX2_init_0 ?_
  refine ev_objInit C wm_X2_3 wi_oinit wc_oinit (Nat.le_of_ble_eq_true rfl) (Nat.le_of_ble_eq_true rfl) dX2_init_1 ?_
  refine ev_aload_n C (x := .ref o) rfl trivial dX2_init_4 ?_
  refine ev_iconst C (v := 5) dX2_init_5 (by decide) ?_
  obtain ⟨o6, h6, e6, hs⟩ := bP_at hs
  obtain ⟨c6, z6, hs⟩ := ck_at hs
  refine ev_newa C (atype := .int) (ty := .int) rfl wa_int (fun _ _ => rfl) e6 c6 z6 dX2_init_6 ?_
  obtain ⟨h8, e8, hs⟩ := aB hs
  refine ev_putF C (ci := 2) (k := 0) rfl wu_2 (by decide) tyX2 tyX2_ok nmX2 wf_X2_9 rfl rfl rfl trivial e8 dX2_init_8 ?_
  refine ev_aload_n C (x := .ref o) rfl trivial dX2_init_11 ?_
  refine ev_bipush C (v := 11) dX2_init_12 (by decide) ?_
  obtain ⟨o14, h14, e14, hs⟩ := bP_at hs
  obtain ⟨c14, z14, hs⟩ := ck_at hs
  refine ev_newa C (atype := .long) (ty := .long) rfl wa_long (fun _ _ => rfl) e14 c14 z14 dX2_init_14 ?_
  obtain ⟨h16, e16, hs⟩ := aB hs
  refine ev_putF C (ci := 2) (k := 1) rfl wu_2 (by decide) tyX2 tyX2_ok nmX2 wf_X2_15 rfl rfl rfl trivial e16 dX2_init_16 ?_
  refine ev_aload_n C (x := .ref o) rfl trivial dX2_init_19 ?_
  refine ev_bipush C (v := 9) dX2_init_20 (by decide) ?_
  obtain ⟨o22, h22, e22, hs⟩ := bP_at hs
  obtain ⟨c22, z22, hs⟩ := ck_at hs
  refine ev_newa C (atype := .int) (ty := .int) rfl wa_int (fun _ _ => rfl) e22 c22 z22 dX2_init_22 ?_
  obtain ⟨h24, e24, hs⟩ := aB hs
  refine ev_putF C (ci := 2) (k := 2) rfl wu_2 (by decide) tyX2 tyX2_ok nmX2 wf_X2_19 rfl rfl rfl trivial e24 dX2_init_24 ?_
  refine ev_aload_n C (x := .ref o) rfl trivial dX2_init_27 ?_
  refine ev_bipush C (v := 9) dX2_init_28 (by decide) ?_
  obtain ⟨o30, h30, e30, hs⟩ := bP_at hs
  obtain ⟨c30, z30, hs⟩ := ck_at hs
  refine ev_newa C (atype := .int) (ty := .int) rfl wa_int (fun _ _ => rfl) e30 c30 z30 dX2_init_30 ?_
  obtain ⟨h32, e32, hs⟩ := aB hs
  refine ev_putF C (ci := 2) (k := 3) rfl wu_2 (by decide) tyX2 tyX2_ok nmX2 wf_X2_22 rfl rfl rfl trivial e32 dX2_init_32 ?_
  refine ev_aload_n C (x := .ref o) rfl trivial dX2_init_35 ?_
  refine ev_bipush C (v := 8) dX2_init_36 (by decide) ?_
  obtain ⟨o38, h38, e38, hs⟩ := bP_at hs
  obtain ⟨c38, z38, hs⟩ := ck_at hs
  refine ev_newa C (atype := .int) (ty := .int) rfl wa_int (fun _ _ => rfl) e38 c38 z38 dX2_init_38 ?_
  obtain ⟨h40, e40, hs⟩ := aB hs
  refine ev_putF C (ci := 2) (k := 5) rfl wu_2 (by decide) tyX2 tyX2_ok nmX2 wf_X2_25 rfl rfl rfl trivial e40 dX2_init_40 ?_
  refine ev_aload_n C (x := .ref o) rfl trivial dX2_init_43 ?_
  refine ev_bipush C (v := 8) dX2_init_44 (by decide) ?_
  obtain ⟨o46, h46, e46, hs⟩ := bP_at hs
  obtain ⟨c46, z46, hs⟩ := ck_at hs
  refine ev_newa C (atype := .int) (ty := .int) rfl wa_int (fun _ _ => rfl) e46 c46 z46 dX2_init_46 ?_
  obtain ⟨h48, e48, hs⟩ := aB hs
  refine ev_putF C (ci := 2) (k := 6) rfl wu_2 (by decide) tyX2 tyX2_ok nmX2 wf_X2_28 rfl rfl rfl trivial e48 dX2_init_48 ?_
  refine ev_aload_n C (x := .ref o) rfl trivial dX2_init_51 ?_
  refine ev_bipush C (v := 8) dX2_init_52 (by decide) ?_
  obtain ⟨o54, h54, e54, hs⟩ := bP_at hs
  obtain ⟨c54, z54, hs⟩ := ck_at hs
  refine ev_newa C (atype := .int) (ty := .int) rfl wa_int (fun _ _ => rfl) e54 c54 z54 dX2_init_54 ?_
  obtain ⟨h56, e56, hs⟩ := aB hs
  refine ev_putF C (ci := 2) (k := 7) rfl wu_2 (by decide) tyX2 tyX2_ok nmX2 wf_X2_31 rfl rfl rfl trivial e56 dX2_init_56 ?_
  refine ev_aload_n C (x := .ref o) rfl trivial dX2_init_59 ?_
  refine ev_bipush C (v := 8) dX2_init_60 (by decide) ?_
  obtain ⟨o62, h62, e62, hs⟩ := bP_at hs
  obtain ⟨c62, z62, hs⟩ := ck_at hs
  refine ev_newa C (atype := .int) (ty := .int) rfl wa_int (fun _ _ => rfl) e62 c62 z62 dX2_init_62 ?_
  obtain ⟨h64, e64, hs⟩ := aB hs
  refine ev_putF C (ci := 2) (k := 8) rfl wu_2 (by decide) tyX2 tyX2_ok nmX2 wf_X2_34 rfl rfl rfl trivial e64 dX2_init_64 ?_
  refine ev_aload_n C (x := .ref o) rfl trivial dX2_init_67 ?_
  refine ev_bipush C (v := 8) dX2_init_68 (by decide) ?_
  obtain ⟨o70, h70, e70, hs⟩ := bP_at hs
  obtain ⟨c70, z70, hs⟩ := ck_at hs
  refine ev_newa C (atype := .int) (ty := .int) rfl wa_int (fun _ _ => rfl) e70 c70 z70 dX2_init_70 ?_
  obtain ⟨h72, e72, hs⟩ := aB hs
  refine ev_putF C (ci := 2) (k := 9) rfl wu_2 (by decide) tyX2 tyX2_ok nmX2 wf_X2_37 rfl rfl rfl trivial e72 dX2_init_72 ?_
  refine ev_aload_n C (x := .ref o) rfl trivial dX2_init_75 ?_
  refine ev_iconst C (v := 2) dX2_init_76 (by decide) ?_
  obtain ⟨o77, h77, e77, hs⟩ := bP_at hs
  obtain ⟨c77, z77, hs⟩ := ck_at hs
  refine ev_newa C (atype := .int) (ty := .int) rfl wa_int (fun _ _ => rfl) e77 c77 z77 dX2_init_77 ?_
  obtain ⟨h79, e79, hs⟩ := aB hs
  refine ev_putF C (ci := 2) (k := 10) rfl wu_2 (by decide) tyX2 tyX2_ok nmX2 wf_X2_40 rfl rfl rfl trivial e79 dX2_init_79 ?_
  refine ev_aload_n C (x := .ref o) rfl trivial dX2_init_82 ?_
  refine ev_iconst C (v := 2) dX2_init_83 (by decide) ?_
  obtain ⟨o84, h84, e84, hs⟩ := bP_at hs
  obtain ⟨c84, z84, hs⟩ := ck_at hs
  refine ev_newa C (atype := .int) (ty := .int) rfl wa_int (fun _ _ => rfl) e84 c84 z84 dX2_init_84 ?_
  obtain ⟨h86, e86, hs⟩ := aB hs
  refine ev_putF C (ci := 2) (k := 11) rfl wu_2 (by decide) tyX2 tyX2_ok nmX2 wf_X2_43 rfl rfl rfl trivial e86 dX2_init_86 ?_
  refine ev_aload_n C (x := .ref o) rfl trivial dX2_init_89 ?_
  refine ev_iconst C (v := 1) dX2_init_90 (by decide) ?_
  obtain ⟨h91, e91, hs⟩ := aB hs
  refine ev_put C (ci := 2) (k := 15) rfl wu_2 (by decide) tyX2 tyX2_ok nmX2 wf_X2_46 rfl trivial e91 dX2_init_91 ?_
  refine ev_aload_n C (x := .ref o) rfl trivial dX2_init_94 ?_
  obtain ⟨o95, h95, e95, hs⟩ := bP_at hs
  obtain ⟨c95, z95, hs⟩ := ck_at hs
  refine ev_new C (ci := 0) rfl wu_0 tyX0 tyX0_ok wk_X2_50 wj_X0 wz_X0 dfX0_ok dfX0_se e95 c95 z95 dX2_init_95 ?_
  refine ev_dup C rfl dX2_init_98 ?_
  obtain ⟨h99, n99, y99, e99, hs⟩ := dN_at hs
  obtain ⟨c99, z99, hs⟩ := ck_at hs
  refine ev_callIN C (T_X0_init _ _ _ _ _ _ e99) wc_X0_init wn_X2_52 wi_X0_init wz_X0 rfl hy_X0_init ⟨(Nat.le_of_ble_eq_true rfl), (Nat.le_of_ble_eq_true rfl)⟩ ⟨c99, z99⟩ (Nat.le_of_ble_eq_true rfl) rfl dX2_init_99 ?_
  obtain ⟨hw9, rfl, rfl⟩ := wC_at hs
  have hs := hw9
  obtain ⟨h102, e102, hs⟩ := aB hs
  refine ev_putF C (ci := 2) (k := 16) rfl wu_2 (by decide) tyX2 tyX2_ok nmX2 wf_X2_53 rfl rfl rfl trivial e102 dX2_init_102 ?_
  cases hs
  exact ev_vret C rfl rfl (Nat.le_refl _) (Nat.le_refl _) rfl dX2_init_105
end
-- X2_clear
theorem dX2_clear_0 : decode cX2_clear 0 = .ok (.aload_n 0, 1) := by decide +kernel
theorem dX2_clear_1 : decode cX2_clear 1 = .ok (.getfield 9, 3) := by decide +kernel
theorem dX2_clear_4 : decode cX2_clear 4 = .ok (.iconst 0, 1) := by decide +kernel
theorem dX2_clear_5 : decode cX2_clear 5 = .ok (.invokestatic 57, 3) := by decide +kernel
theorem dX2_clear_8 : decode cX2_clear 8 = .ok (.aload_n 0, 1) := by decide +kernel
theorem dX2_clear_9 : decode cX2_clear 9 = .ok (.iconst 0, 1) := by decide +kernel
theorem dX2_clear_10 : decode cX2_clear 10 = .ok (.putfield 63, 3) := by decide +kernel
theorem dX2_clear_13 : decode cX2_clear 13 = .ok (.aload_n 0, 1) := by decide +kernel
theorem dX2_clear_14 : decode cX2_clear 14 = .ok (.getfield 53, 3) := by decide +kernel
theorem dX2_clear_17 : decode cX2_clear 17 = .ok (.invokevirtual 66, 3) := by decide +kernel
theorem dX2_clear_20 : decode cX2_clear 20 = .ok (.return_, 1) := by decide +kernel
def s_X2_clear (o : Nat) (h : aH) : aO :=
  (gO h (.ref o) 2 0).bind fun x1 => cN (s_J7_fill_53178 x1 0 h) fun h5 => (pF h5 (.ref o) 2 4 (.int 0)).bind fun h10 => (gO h10 (.ref o) 2 16).bind fun x14 => kO h10 x14 0 (cN (s_X0_clear x14 h10) fun h17 => some (.inl none, h17))
section
variable {p : Program} {l : Launch} {e : Env} {s : State} {m : MethodId} {args : Array Value} {below : List Frame} {meth : Method} {c : Code} {D : va_G} {B0 : Nat} {X : Nat → Nat} {ws0 : va_W} {r : aR} {h' : aH} {mc ms : Nat}
theorem hy_X2_clear : yX2_clear.cls ≠ "java/lang/invoke/MethodHandle" ∧ yX2_clear.cls ≠ "java/lang/invoke/VarHandle" ∧ (parseMethodDescriptor yX2_clear.desc).map (fun d => d.parameters.length) = some 0 := by decide +kernel
theorem T_X2_clear (o : Nat) (h : aH) (r : aR) (h' : aH) (hs : s_X2_clear o h = some (r, h')) : Mt yX2_clear (Cond.code yX2_clear cX2_clear 1 none :: aTB) 1 23 0 0 [.ref o] h r h' := by
  unfold s_X2_clear at hs
  refine Mt_of (k := 0) (by decide) rfl (fun p l e s m args below meth c D B0 X ws0 C => ?_)
  show Ev p l e { frames := 1, cells := 0, slots := 0, locals := 23 } s m args below meth c D B0 X ws0 r h' 0 0 1 0 0 0 [some (.ref o)] [] h
  refine ev_aload_n C (x := .ref o) rfl trivial dX2_clear_0 ?_
  obtain ⟨x1, e1, hs⟩ := aB hs
  refine ev_get C (ci := 2) (k := 0) rfl wu_2 (by decide) wf_X2_9 (gO_F e1) dX2_clear_1 ?_
  refine ev_iconst C (v := 0) dX2_clear_4 (by decide) ?_
  obtain ⟨h5, e5, hs⟩ := cN_at hs
  refine ev_callS C (T_J7_fill_53178 _ _ _ _ _ e5) wc_J7_fill_53178 wm_X2_57 wt_J7_fill_53178 wz_J7 hy_J7_fill_53178 ⟨(Nat.le_of_ble_eq_true rfl), (Nat.le_of_ble_eq_true rfl)⟩ ⟨(Nat.le_refl _), (Nat.le_refl _)⟩ (Nat.le_of_ble_eq_true rfl) rfl dX2_clear_5 ?_
  refine ev_aload_n C (x := .ref o) rfl trivial dX2_clear_8 ?_
  refine ev_iconst C (v := 0) dX2_clear_9 (by decide) ?_
  obtain ⟨h10, e10, hs⟩ := aB hs
  refine ev_put C (ci := 2) (k := 4) rfl wu_2 (by decide) tyX2 tyX2_ok nmX2 wf_X2_63 rfl trivial e10 dX2_clear_10 ?_
  refine ev_aload_n C (x := .ref o) rfl trivial dX2_clear_13 ?_
  obtain ⟨x14, e14, hs⟩ := aB hs
  refine ev_get C (ci := 2) (k := 16) rfl wu_2 (by decide) wf_X2_53 (gO_F e14) dX2_clear_14 ?_
  obtain ⟨eo17, hs⟩ := kO_at hs
  obtain ⟨h17, e17, hs⟩ := cN_at hs
  refine ev_callVN C (T_X0_clear _ _ _ _ e17) (ci := 0) rfl eo17 wc_X0_clear wn_X2_66 wi_X0_clear ws_X0_clear wz_X0 hy_X0_clear ⟨(Nat.le_of_ble_eq_true rfl), (Nat.le_of_ble_eq_true rfl)⟩ ⟨(Nat.le_refl _), (Nat.le_refl _)⟩ (Nat.le_of_ble_eq_true rfl) rfl dX2_clear_17 ?_
  cases hs
  exact ev_vret C rfl rfl (Nat.le_refl _) (Nat.le_refl _) rfl dX2_clear_20
end
-- X2_width
theorem dX2_width_0 : decode cX2_width 0 = .ok (.aload_n 0, 1) := by decide +kernel
theorem dX2_width_1 : decode cX2_width 1 = .ok (.getfield 22, 3) := by decide +kernel
theorem dX2_width_4 : decode cX2_width 4 = .ok (.iload_n 1, 1) := by decide +kernel
theorem dX2_width_5 : decode cX2_width 5 = .ok (.iaload, 1) := by decide +kernel
theorem dX2_width_6 : decode cX2_width 6 = .ok (.aload_n 0, 1) := by decide +kernel
theorem dX2_width_7 : decode cX2_width 7 = .ok (.getfield 19, 3) := by decide +kernel
theorem dX2_width_10 : decode cX2_width 10 = .ok (.iload_n 1, 1) := by decide +kernel
theorem dX2_width_11 : decode cX2_width 11 = .ok (.iaload, 1) := by decide +kernel
theorem dX2_width_12 : decode cX2_width 12 = .ok (.isub, 1) := by decide +kernel
theorem dX2_width_13 : decode cX2_width 13 = .ok (.iconst 1, 1) := by decide +kernel
theorem dX2_width_14 : decode cX2_width 14 = .ok (.iadd, 1) := by decide +kernel
theorem dX2_width_15 : decode cX2_width 15 = .ok (.iconst 2, 1) := by decide +kernel
theorem dX2_width_16 : decode cX2_width 16 = .ok (.iload_n 2, 1) := by decide +kernel
theorem dX2_width_17 : decode cX2_width 17 = .ok (.imul, 1) := by decide +kernel
theorem dX2_width_18 : decode cX2_width 18 = .ok (.iadd, 1) := by decide +kernel
theorem dX2_width_19 : decode cX2_width 19 = .ok (.istore_n 3, 1) := by decide +kernel
theorem dX2_width_20 : decode cX2_width 20 = .ok (.iload_n 3, 1) := by decide +kernel
theorem dX2_width_21 : decode cX2_width 21 = .ok (.ifCond .le 7, 3) := by decide +kernel
theorem dX2_width_24 : decode cX2_width 24 = .ok (.iload_n 3, 1) := by decide +kernel
theorem dX2_width_25 : decode cX2_width 25 = .ok (.goto 4, 3) := by decide +kernel
theorem dX2_width_28 : decode cX2_width 28 = .ok (.iconst 1, 1) := by decide +kernel
theorem dX2_width_29 : decode cX2_width 29 = .ok (.ireturn, 1) := by decide +kernel
def s_X2_width (o : Nat) (a1 : Int32) (a2 : Int32) (h : aH) : aO :=
  (gO h (.ref o) 2 3).bind fun x1 => (ldI .int h (.ref x1) a1).bind fun x5 => (gO h (.ref o) 2 2).bind fun x7 => (ldI .int h (.ref x7) a1).bind fun x11 => if (((x5 - x11) + 1) + (2 * a2)) ≤ 0 then (some (.inl (some (.int 1)), h)) else (some (.inl (some (.int (((x5 - x11) + 1) + (2 * a2)))), h))
section
variable {p : Program} {l : Launch} {e : Env} {s : State} {m : MethodId} {args : Array Value} {below : List Frame} {meth : Method} {c : Code} {D : va_G} {B0 : Nat} {X : Nat → Nat} {ws0 : va_W} {r : aR} {h' : aH} {mc ms : Nat}
theorem hy_X2_width : yX2_width.cls ≠ "java/lang/invoke/MethodHandle" ∧ yX2_width.cls ≠ "java/lang/invoke/VarHandle" ∧ (parseMethodDescriptor yX2_width.desc).map (fun d => d.parameters.length) = some 2 := by decide +kernel
theorem T_X2_width (o : Nat) (a1 : Int32) (a2 : Int32) (h : aH) (r : aR) (h' : aH) (hs : s_X2_width o a1 a2 h = some (r, h')) : Mt yX2_width (Cond.code yX2_width cX2_width 4 (some .int) :: aTB) 0 0 0 0 [.ref o, .int a1, .int a2] h r h' := by
  unfold s_X2_width at hs
  refine Mt_of (k := 1) (by decide) rfl (fun p l e s m args below meth c D B0 X ws0 C => ?_)
  show Ev p l e { frames := 0, cells := 0, slots := 0, locals := 0 } s m args below meth c D B0 X ws0 r h' 0 0 4 0 0 0 [some (.ref o), some (.int a1), some (.int a2), none] [] h
  refine ev_aload_n C (x := .ref o) rfl trivial dX2_width_0 ?_
  obtain ⟨x1, e1, hs⟩ := aB hs
  refine ev_get C (ci := 2) (k := 3) rfl wu_2 (by decide) wf_X2_22 (gO_F e1) dX2_width_1 ?_
  refine ev_iload_n C rfl dX2_width_4 ?_
  obtain ⟨x5, e5, hs⟩ := aB hs
  refine ev_iald C e5 dX2_width_5 ?_
  refine ev_aload_n C (x := .ref o) rfl trivial dX2_width_6 ?_
  obtain ⟨x7, e7, hs⟩ := aB hs
  refine ev_get C (ci := 2) (k := 2) rfl wu_2 (by decide) wf_X2_19 (gO_F e7) dX2_width_7 ?_
  refine ev_iload_n C rfl dX2_width_10 ?_
  obtain ⟨x11, e11, hs⟩ := aB hs
  refine ev_iald C e11 dX2_width_11 ?_
  refine ev_isub C dX2_width_12 ?_
  refine ev_iconst C (v := 1) dX2_width_13 (by decide) ?_
  refine ev_iadd C dX2_width_14 ?_
  refine ev_iconst C (v := 2) dX2_width_15 (by decide) ?_
  refine ev_iload_n C rfl dX2_width_16 ?_
  refine ev_imul C dX2_width_17 ?_
  refine ev_iadd C dX2_width_18 ?_
  refine ev_istore_n C (by decide) dX2_width_19 ?_
  refine ev_iload_n C rfl dX2_width_20 ?_
  refine ev_if_le C (tgt := 28) (by decide) dX2_width_21 (fun q21 => ?_) (fun q21 => ?_)
  · replace hs := (if_pos q21).symm.trans hs
    refine ev_iconst C (v := 1) dX2_width_28 (by decide) ?_
    cases hs
    exact ev_iret C rfl rfl (Nat.le_refl _) (Nat.le_refl _) rfl dX2_width_29
  · replace hs := (if_neg q21).symm.trans hs
    refine ev_iload_n C rfl dX2_width_24 ?_
    refine ev_goto C (tgt := 29) (by decide) dX2_width_25 ?_
    cases hs
    exact ev_iret C rfl rfl (Nat.le_refl _) (Nat.le_refl _) rfl dX2_width_29
end
-- X2_parts
theorem dX2_parts_0 : decode cX2_parts 0 = .ok (.iconst 1, 1) := by decide +kernel
theorem dX2_parts_1 : decode cX2_parts 1 = .ok (.istore_n 3, 1) := by decide +kernel
theorem dX2_parts_2 : decode cX2_parts 2 = .ok (.iconst 0, 1) := by decide +kernel
theorem dX2_parts_3 : decode cX2_parts 3 = .ok (.istore 4, 2) := by decide +kernel
theorem dX2_parts_5 : decode cX2_parts 5 = .ok (.iload 4, 2) := by decide +kernel
theorem dX2_parts_7 : decode cX2_parts 7 = .ok (.aload_n 0, 1) := by decide +kernel
theorem dX2_parts_8 : decode cX2_parts 8 = .ok (.getfield 9, 3) := by decide +kernel
theorem dX2_parts_11 : decode cX2_parts 11 = .ok (.iload_n 1, 1) := by decide +kernel
theorem dX2_parts_12 : decode cX2_parts 12 = .ok (.iaload, 1) := by decide +kernel
theorem dX2_parts_13 : decode cX2_parts 13 = .ok (.if_icmp .ge 25, 3) := by decide +kernel
theorem dX2_parts_16 : decode cX2_parts 16 = .ok (.iload_n 3, 1) := by decide +kernel
theorem dX2_parts_17 : decode cX2_parts 17 = .ok (.aload_n 0, 1) := by decide +kernel
theorem dX2_parts_18 : decode cX2_parts 18 = .ok (.getstatic 95, 3) := by decide +kernel
theorem dX2_parts_21 : decode cX2_parts 21 = .ok (.iload_n 1, 1) := by decide +kernel
theorem dX2_parts_22 : decode cX2_parts 22 = .ok (.iaload, 1) := by decide +kernel
theorem dX2_parts_23 : decode cX2_parts 23 = .ok (.iload 4, 2) := by decide +kernel
theorem dX2_parts_25 : decode cX2_parts 25 = .ok (.iadd, 1) := by decide +kernel
theorem dX2_parts_26 : decode cX2_parts 26 = .ok (.iload_n 2, 1) := by decide +kernel
theorem dX2_parts_27 : decode cX2_parts 27 = .ok (.invokevirtual 101, 3) := by decide +kernel
theorem dX2_parts_30 : decode cX2_parts 30 = .ok (.imul, 1) := by decide +kernel
theorem dX2_parts_31 : decode cX2_parts 31 = .ok (.istore_n 3, 1) := by decide +kernel
theorem dX2_parts_32 : decode cX2_parts 32 = .ok (.iinc 4 1, 3) := by decide +kernel
theorem dX2_parts_35 : decode cX2_parts 35 = .ok (.goto (-30), 3) := by decide +kernel
theorem dX2_parts_38 : decode cX2_parts 38 = .ok (.iload_n 3, 1) := by decide +kernel
theorem dX2_parts_39 : decode cX2_parts 39 = .ok (.ireturn, 1) := by decide +kernel
def s_X2_parts_5_b  (k5 : Nat → Int32 → Int32 → Int32 → Int32 → aH → aO) (l0 : Nat) (l1 : Int32) (l2 : Int32) (l3 : Int32) (l4 : Int32) (h : aH) : aO :=
  (gO h (.ref l0) 2 0).bind fun x8 => (ldI .int h (.ref x8) l1).bind fun x12 => if x12 ≤ l4 then (some (.inl (some (.int l3)), h)) else ((ldI .int h (.ref (aE + 1)) l1).bind fun x22 => kO h l0 2 (cI (s_X2_width l0 (x22 + l4) l2 h) fun x27 h27 => k5 l0 l1 l2 (l3 * x27) (l4 + 1) h27))
def s_X2_parts_5  (n : Nat) : Nat → Int32 → Int32 → Int32 → Int32 → aH → aO := lpF (fun _ _ _ _ _ _ => none) (s_X2_parts_5_b ) n
def s_X2_parts (o : Nat) (a1 : Int32) (a2 : Int32) (h : aH) : aO :=
  s_X2_parts_5 FU o a1 a2 1 0 h
section
variable {p : Program} {l : Launch} {e : Env} {s : State} {m : MethodId} {args : Array Value} {below : List Frame} {meth : Method} {c : Code} {D : va_G} {B0 : Nat} {X : Nat → Nat} {ws0 : va_W} {r : aR} {h' : aH} {mc ms : Nat}
theorem t_X2_parts_5_b (C : Cx p l s m args meth c B0 X RX2 "parts" cX2_parts 5 (some .int) [])   {k5 : Nat → Int32 → Int32 → Int32 → Int32 → aH → aO} (K5 : ∀ (l0 : Nat) (l1 : Int32) (l2 : Int32) (l3 : Int32) (l4 : Int32) (h : aH), k5 l0 l1 l2 l3 l4 h = some (r, h') → Ev p l e { frames := 1, cells := mc, slots := ms, locals := 23 } s m args below meth c D B0 X ws0 r h' mc ms 5 mc ms 5 [some (.ref l0), some (.int l1), some (.int l2), some (.int l3), some (.int l4)] [] h) {l0 : Nat} {l1 : Int32} {l2 : Int32} {l3 : Int32} {l4 : Int32} {h : aH} (hs : s_X2_parts_5_b  k5 l0 l1 l2 l3 l4 h = some (r, h')) : Ev p l e { frames := 1, cells := mc, slots := ms, locals := 23 } s m args below meth c D B0 X ws0 r h' mc ms 5 mc ms 5 [some (.ref l0), some (.int l1), some (.int l2), some (.int l3), some (.int l4)] [] h := by
  unfold s_X2_parts_5_b at hs
  refine ev_iload C rfl dX2_parts_5 ?_
  refine ev_aload_n C (x := .ref l0) rfl trivial dX2_parts_7 ?_
  obtain ⟨x8, e8, hs⟩ := aB hs
  refine ev_get C (ci := 2) (k := 0) rfl wu_2 (by decide) wf_X2_9 (gO_F e8) dX2_parts_8 ?_
  refine ev_iload_n C rfl dX2_parts_11 ?_
  obtain ⟨x12, e12, hs⟩ := aB hs
  refine ev_iald C e12 dX2_parts_12 ?_
  refine ev_icmp_ge C (tgt := 38) (by decide) dX2_parts_13 (fun q13 => ?_) (fun q13 => ?_)
  · replace hs := (if_pos q13).symm.trans hs
    refine ev_iload_n C rfl dX2_parts_38 ?_
    cases hs
    exact ev_iret C rfl rfl (Nat.le_refl _) (Nat.le_refl _) rfl dX2_parts_39
  · replace hs := (if_neg q13).symm.trans hs
    refine ev_iload_n C rfl dX2_parts_16 ?_
    refine ev_aload_n C (x := .ref l0) rfl trivial dX2_parts_17 ?_
    refine ev_getsBASEN C wg_X2_95 dX2_parts_18 ?_
    refine ev_iload_n C rfl dX2_parts_21 ?_
    obtain ⟨x22, e22, hs⟩ := aB hs
    refine ev_iald C e22 dX2_parts_22 ?_
    refine ev_iload C rfl dX2_parts_23 ?_
    refine ev_iadd C dX2_parts_25 ?_
    refine ev_iload_n C rfl dX2_parts_26 ?_
    obtain ⟨eo27, hs⟩ := kO_at hs
    obtain ⟨x27, h27, e27, hs⟩ := cI_at hs
    refine ev_callV C (T_X2_width _ _ _ _ _ _ e27) (ci := 2) rfl eo27 wc_X2_width wm_X2_101 wi_X2_width ws_X2_width wz_X2 hy_X2_width ⟨(Nat.le_of_ble_eq_true rfl), (Nat.le_of_ble_eq_true rfl)⟩ ⟨(Nat.le_refl _), (Nat.le_refl _)⟩ (Nat.le_of_ble_eq_true rfl) rfl dX2_parts_27 ?_
    refine ev_imul C dX2_parts_30 ?_
    refine ev_istore_n C (by decide) dX2_parts_31 ?_
    refine ev_iinc C (i := 4) (n := 1) (x := l4) (v := l4 + 1) rfl (congrArg (fun z => l4 + z) (show Int32.ofInt 1 = 1 by decide)) (by decide) dX2_parts_32 ?_
    refine ev_goto C (tgt := 5) (by decide) dX2_parts_35 ?_
    exact (K5 _ _ _ _ _ _ hs)
theorem t_X2_parts_5 (C : Cx p l s m args meth c B0 X RX2 "parts" cX2_parts 5 (some .int) [])   : ∀ (n : Nat) {l0 : Nat} {l1 : Int32} {l2 : Int32} {l3 : Int32} {l4 : Int32} {h : aH} (hs : s_X2_parts_5  n l0 l1 l2 l3 l4 h = some (r, h')), Ev p l e { frames := 1, cells := mc, slots := ms, locals := 23 } s m args below meth c D B0 X ws0 r h' mc ms 5 mc ms 5 [some (.ref l0), some (.int l1), some (.int l2), some (.int l3), some (.int l4)] [] h
  | 0, _, _, _, _, _, _, hs => nomatch hs
  | n + 1, _, _, _, _, _, _, hs => t_X2_parts_5_b C  (k5 := s_X2_parts_5  n) (fun _ _ _ _ _ _ hs => t_X2_parts_5 C  n hs) hs
theorem hy_X2_parts : yX2_parts.cls ≠ "java/lang/invoke/MethodHandle" ∧ yX2_parts.cls ≠ "java/lang/invoke/VarHandle" ∧ (parseMethodDescriptor yX2_parts.desc).map (fun d => d.parameters.length) = some 2 := by decide +kernel
theorem T_X2_parts (o : Nat) (a1 : Int32) (a2 : Int32) (h : aH) (r : aR) (h' : aH) (hs : s_X2_parts o a1 a2 h = some (r, h')) : Mt yX2_parts (Cond.code yX2_parts cX2_parts 5 (some .int) :: aTB) 1 23 0 0 [.ref o, .int a1, .int a2] h r h' := by
  unfold s_X2_parts at hs
  refine Mt_of (k := 2) (by decide) rfl (fun p l e s m args below meth c D B0 X ws0 C => ?_)
  show Ev p l e { frames := 1, cells := 0, slots := 0, locals := 23 } s m args below meth c D B0 X ws0 r h' 0 0 5 0 0 0 [some (.ref o), some (.int a1), some (.int a2), none, none] [] h
  refine ev_iconst C (v := 1) dX2_parts_0 (by decide) ?_
  refine ev_istore_n C (by decide) dX2_parts_1 ?_
  refine ev_iconst C (v := 0) dX2_parts_2 (by decide) ?_
  refine ev_istore C (by decide) dX2_parts_3 ?_
  exact (t_X2_parts_5 C  FU hs)
end
-- X2_measure
theorem dX2_measure_0 : decode cX2_measure 0 = .ok (.aload_n 0, 1) := by decide +kernel
theorem dX2_measure_1 : decode cX2_measure 1 = .ok (.aload_n 0, 1) := by decide +kernel
theorem dX2_measure_2 : decode cX2_measure 2 = .ok (.iconst 0, 1) := by decide +kernel
theorem dX2_measure_3 : decode cX2_measure 3 = .ok (.iconst 0, 1) := by decide +kernel
theorem dX2_measure_4 : decode cX2_measure 4 = .ok (.invokevirtual 82, 3) := by decide +kernel
theorem dX2_measure_7 : decode cX2_measure 7 = .ok (.putfield 86, 3) := by decide +kernel
theorem dX2_measure_10 : decode cX2_measure 10 = .ok (.aload_n 0, 1) := by decide +kernel
theorem dX2_measure_11 : decode cX2_measure 11 = .ok (.aload_n 0, 1) := by decide +kernel
theorem dX2_measure_12 : decode cX2_measure 12 = .ok (.iconst 1, 1) := by decide +kernel
theorem dX2_measure_13 : decode cX2_measure 13 = .ok (.iconst 0, 1) := by decide +kernel
theorem dX2_measure_14 : decode cX2_measure 14 = .ok (.invokevirtual 82, 3) := by decide +kernel
theorem dX2_measure_17 : decode cX2_measure 17 = .ok (.putfield 89, 3) := by decide +kernel
theorem dX2_measure_20 : decode cX2_measure 20 = .ok (.aload_n 0, 1) := by decide +kernel
theorem dX2_measure_21 : decode cX2_measure 21 = .ok (.aload_n 0, 1) := by decide +kernel
theorem dX2_measure_22 : decode cX2_measure 22 = .ok (.iconst 3, 1) := by decide +kernel
theorem dX2_measure_23 : decode cX2_measure 23 = .ok (.iconst 0, 1) := by decide +kernel
theorem dX2_measure_24 : decode cX2_measure 24 = .ok (.invokevirtual 82, 3) := by decide +kernel
theorem dX2_measure_27 : decode cX2_measure 27 = .ok (.putfield 46, 3) := by decide +kernel
theorem dX2_measure_30 : decode cX2_measure 30 = .ok (.aload_n 0, 1) := by decide +kernel
theorem dX2_measure_31 : decode cX2_measure 31 = .ok (.aload_n 0, 1) := by decide +kernel
theorem dX2_measure_32 : decode cX2_measure 32 = .ok (.iconst 2, 1) := by decide +kernel
theorem dX2_measure_33 : decode cX2_measure 33 = .ok (.iconst 0, 1) := by decide +kernel
theorem dX2_measure_34 : decode cX2_measure 34 = .ok (.invokevirtual 82, 3) := by decide +kernel
theorem dX2_measure_37 : decode cX2_measure 37 = .ok (.aload_n 0, 1) := by decide +kernel
theorem dX2_measure_38 : decode cX2_measure 38 = .ok (.getfield 46, 3) := by decide +kernel
theorem dX2_measure_41 : decode cX2_measure 41 = .ok (.imul, 1) := by decide +kernel
theorem dX2_measure_42 : decode cX2_measure 42 = .ok (.putfield 92, 3) := by decide +kernel
theorem dX2_measure_45 : decode cX2_measure 45 = .ok (.return_, 1) := by decide +kernel
def s_X2_measure (o : Nat) (h : aH) : aO :=
  kO h o 2 (cI (s_X2_parts o 0 0 h) fun x4 h4 => (pF h4 (.ref o) 2 12 (.int x4)).bind fun h7 => kO h7 o 2 (cI (s_X2_parts o 1 0 h7) fun x14 h14 => (pF h14 (.ref o) 2 13 (.int x14)).bind fun h17 => kO h17 o 2 (cI (s_X2_parts o 3 0 h17) fun x24 h24 => (pF h24 (.ref o) 2 15 (.int x24)).bind fun h27 => kO h27 o 2 (cI (s_X2_parts o 2 0 h27) fun x34 h34 => (gI h34 (.ref o) 2 15).bind fun x38 => (pF h34 (.ref o) 2 14 (.int (x34 * x38))).bind fun h42 => some (.inl none, h42)))))
section
variable {p : Program} {l : Launch} {e : Env} {s : State} {m : MethodId} {args : Array Value} {below : List Frame} {meth : Method} {c : Code} {D : va_G} {B0 : Nat} {X : Nat → Nat} {ws0 : va_W} {r : aR} {h' : aH} {mc ms : Nat}
theorem hy_X2_measure : yX2_measure.cls ≠ "java/lang/invoke/MethodHandle" ∧ yX2_measure.cls ≠ "java/lang/invoke/VarHandle" ∧ (parseMethodDescriptor yX2_measure.desc).map (fun d => d.parameters.length) = some 0 := by decide +kernel
theorem T_X2_measure (o : Nat) (h : aH) (r : aR) (h' : aH) (hs : s_X2_measure o h = some (r, h')) : Mt yX2_measure (Cond.code yX2_measure cX2_measure 1 none :: aTB) 2 47 0 0 [.ref o] h r h' := by
  unfold s_X2_measure at hs
  refine Mt_of (k := 0) (by decide) rfl (fun p l e s m args below meth c D B0 X ws0 C => ?_)
  show Ev p l e { frames := 2, cells := 0, slots := 0, locals := 47 } s m args below meth c D B0 X ws0 r h' 0 0 1 0 0 0 [some (.ref o)] [] h
  refine ev_aload_n C (x := .ref o) rfl trivial dX2_measure_0 ?_
  refine ev_aload_n C (x := .ref o) rfl trivial dX2_measure_1 ?_
  refine ev_iconst C (v := 0) dX2_measure_2 (by decide) ?_
  refine ev_iconst C (v := 0) dX2_measure_3 (by decide) ?_
  obtain ⟨eo4, hs⟩ := kO_at hs
  obtain ⟨x4, h4, e4, hs⟩ := cI_at hs
  refine ev_callV C (T_X2_parts _ _ _ _ _ _ e4) (ci := 2) rfl eo4 wc_X2_parts wm_X2_82 wi_X2_parts ws_X2_parts wz_X2 hy_X2_parts ⟨(Nat.le_of_ble_eq_true rfl), (Nat.le_of_ble_eq_true rfl)⟩ ⟨(Nat.le_refl _), (Nat.le_refl _)⟩ (Nat.le_of_ble_eq_true rfl) rfl dX2_measure_4 ?_
  obtain ⟨h7, e7, hs⟩ := aB hs
  refine ev_put C (ci := 2) (k := 12) rfl wu_2 (by decide) tyX2 tyX2_ok nmX2 wf_X2_86 rfl trivial e7 dX2_measure_7 ?_
  refine ev_aload_n C (x := .ref o) rfl trivial dX2_measure_10 ?_
  refine ev_aload_n C (x := .ref o) rfl trivial dX2_measure_11 ?_
  refine ev_iconst C (v := 1) dX2_measure_12 (by decide) ?_
  refine ev_iconst C (v := 0) dX2_measure_13 (by decide) ?_
  obtain ⟨eo14, hs⟩ := kO_at hs
  obtain ⟨x14, h14, e14, hs⟩ := cI_at hs
  refine ev_callV C (T_X2_parts _ _ _ _ _ _ e14) (ci := 2) rfl eo14 wc_X2_parts wm_X2_82 wi_X2_parts ws_X2_parts wz_X2 hy_X2_parts ⟨(Nat.le_of_ble_eq_true rfl), (Nat.le_of_ble_eq_true rfl)⟩ ⟨(Nat.le_refl _), (Nat.le_refl _)⟩ (Nat.le_of_ble_eq_true rfl) rfl dX2_measure_14 ?_
  obtain ⟨h17, e17, hs⟩ := aB hs
  refine ev_put C (ci := 2) (k := 13) rfl wu_2 (by decide) tyX2 tyX2_ok nmX2 wf_X2_89 rfl trivial e17 dX2_measure_17 ?_
  refine ev_aload_n C (x := .ref o) rfl trivial dX2_measure_20 ?_
  refine ev_aload_n C (x := .ref o) rfl trivial dX2_measure_21 ?_
  refine ev_iconst C (v := 3) dX2_measure_22 (by decide) ?_
  refine ev_iconst C (v := 0) dX2_measure_23 (by decide) ?_
  obtain ⟨eo24, hs⟩ := kO_at hs
  obtain ⟨x24, h24, e24, hs⟩ := cI_at hs
  refine ev_callV C (T_X2_parts _ _ _ _ _ _ e24) (ci := 2) rfl eo24 wc_X2_parts wm_X2_82 wi_X2_parts ws_X2_parts wz_X2 hy_X2_parts ⟨(Nat.le_of_ble_eq_true rfl), (Nat.le_of_ble_eq_true rfl)⟩ ⟨(Nat.le_refl _), (Nat.le_refl _)⟩ (Nat.le_of_ble_eq_true rfl) rfl dX2_measure_24 ?_
  obtain ⟨h27, e27, hs⟩ := aB hs
  refine ev_put C (ci := 2) (k := 15) rfl wu_2 (by decide) tyX2 tyX2_ok nmX2 wf_X2_46 rfl trivial e27 dX2_measure_27 ?_
  refine ev_aload_n C (x := .ref o) rfl trivial dX2_measure_30 ?_
  refine ev_aload_n C (x := .ref o) rfl trivial dX2_measure_31 ?_
  refine ev_iconst C (v := 2) dX2_measure_32 (by decide) ?_
  refine ev_iconst C (v := 0) dX2_measure_33 (by decide) ?_
  obtain ⟨eo34, hs⟩ := kO_at hs
  obtain ⟨x34, h34, e34, hs⟩ := cI_at hs
  refine ev_callV C (T_X2_parts _ _ _ _ _ _ e34) (ci := 2) rfl eo34 wc_X2_parts wm_X2_82 wi_X2_parts ws_X2_parts wz_X2 hy_X2_parts ⟨(Nat.le_of_ble_eq_true rfl), (Nat.le_of_ble_eq_true rfl)⟩ ⟨(Nat.le_refl _), (Nat.le_refl _)⟩ (Nat.le_of_ble_eq_true rfl) rfl dX2_measure_34 ?_
  refine ev_aload_n C (x := .ref o) rfl trivial dX2_measure_37 ?_
  obtain ⟨x38, e38, hs⟩ := aB hs
  refine ev_get C (ci := 2) (k := 15) rfl wu_2 (by decide) wf_X2_46 (gI_F e38) dX2_measure_38 ?_
  refine ev_imul C dX2_measure_41 ?_
  obtain ⟨h42, e42, hs⟩ := aB hs
  refine ev_put C (ci := 2) (k := 14) rfl wu_2 (by decide) tyX2 tyX2_ok nmX2 wf_X2_92 rfl trivial e42 dX2_measure_42 ?_
  cases hs
  exact ev_vret C rfl rfl (Nat.le_refl _) (Nat.le_refl _) rfl dX2_measure_45
end
-- X2_take
theorem dX2_take_0 : decode cX2_take 0 = .ok (.aload_n 1, 1) := by decide +kernel
theorem dX2_take_1 : decode cX2_take 1 = .ok (.getfield 9, 3) := by decide +kernel
theorem dX2_take_4 : decode cX2_take 4 = .ok (.iconst 0, 1) := by decide +kernel
theorem dX2_take_5 : decode cX2_take 5 = .ok (.aload_n 0, 1) := by decide +kernel
theorem dX2_take_6 : decode cX2_take 6 = .ok (.getfield 9, 3) := by decide +kernel
theorem dX2_take_9 : decode cX2_take 9 = .ok (.iconst 0, 1) := by decide +kernel
theorem dX2_take_10 : decode cX2_take 10 = .ok (.aload_n 0, 1) := by decide +kernel
theorem dX2_take_11 : decode cX2_take 11 = .ok (.getfield 9, 3) := by decide +kernel
theorem dX2_take_14 : decode cX2_take 14 = .ok (.arraylength, 1) := by decide +kernel
theorem dX2_take_15 : decode cX2_take 15 = .ok (.invokestatic 69, 3) := by decide +kernel
theorem dX2_take_18 : decode cX2_take 18 = .ok (.aload_n 1, 1) := by decide +kernel
theorem dX2_take_19 : decode cX2_take 19 = .ok (.getfield 15, 3) := by decide +kernel
theorem dX2_take_22 : decode cX2_take 22 = .ok (.iconst 0, 1) := by decide +kernel
theorem dX2_take_23 : decode cX2_take 23 = .ok (.aload_n 0, 1) := by decide +kernel
theorem dX2_take_24 : decode cX2_take 24 = .ok (.getfield 15, 3) := by decide +kernel
theorem dX2_take_27 : decode cX2_take 27 = .ok (.iconst 0, 1) := by decide +kernel
theorem dX2_take_28 : decode cX2_take 28 = .ok (.aload_n 0, 1) := by decide +kernel
theorem dX2_take_29 : decode cX2_take 29 = .ok (.getfield 15, 3) := by decide +kernel
theorem dX2_take_32 : decode cX2_take 32 = .ok (.arraylength, 1) := by decide +kernel
theorem dX2_take_33 : decode cX2_take 33 = .ok (.invokestatic 69, 3) := by decide +kernel
theorem dX2_take_36 : decode cX2_take 36 = .ok (.aload_n 1, 1) := by decide +kernel
theorem dX2_take_37 : decode cX2_take 37 = .ok (.getfield 19, 3) := by decide +kernel
theorem dX2_take_40 : decode cX2_take 40 = .ok (.iconst 0, 1) := by decide +kernel
theorem dX2_take_41 : decode cX2_take 41 = .ok (.aload_n 0, 1) := by decide +kernel
theorem dX2_take_42 : decode cX2_take 42 = .ok (.getfield 19, 3) := by decide +kernel
theorem dX2_take_45 : decode cX2_take 45 = .ok (.iconst 0, 1) := by decide +kernel
theorem dX2_take_46 : decode cX2_take 46 = .ok (.bipush 9, 2) := by decide +kernel
theorem dX2_take_48 : decode cX2_take 48 = .ok (.invokestatic 69, 3) := by decide +kernel
theorem dX2_take_51 : decode cX2_take 51 = .ok (.aload_n 1, 1) := by decide +kernel
theorem dX2_take_52 : decode cX2_take 52 = .ok (.getfield 22, 3) := by decide +kernel
theorem dX2_take_55 : decode cX2_take 55 = .ok (.iconst 0, 1) := by decide +kernel
theorem dX2_take_56 : decode cX2_take 56 = .ok (.aload_n 0, 1) := by decide +kernel
theorem dX2_take_57 : decode cX2_take 57 = .ok (.getfield 22, 3) := by decide +kernel
theorem dX2_take_60 : decode cX2_take 60 = .ok (.iconst 0, 1) := by decide +kernel
theorem dX2_take_61 : decode cX2_take 61 = .ok (.bipush 9, 2) := by decide +kernel
theorem dX2_take_63 : decode cX2_take 63 = .ok (.invokestatic 69, 3) := by decide +kernel
theorem dX2_take_66 : decode cX2_take 66 = .ok (.aload_n 0, 1) := by decide +kernel
theorem dX2_take_67 : decode cX2_take 67 = .ok (.aload_n 1, 1) := by decide +kernel
theorem dX2_take_68 : decode cX2_take 68 = .ok (.getfield 63, 3) := by decide +kernel
theorem dX2_take_71 : decode cX2_take 71 = .ok (.putfield 63, 3) := by decide +kernel
theorem dX2_take_74 : decode cX2_take 74 = .ok (.aload_n 1, 1) := by decide +kernel
theorem dX2_take_75 : decode cX2_take 75 = .ok (.getfield 25, 3) := by decide +kernel
theorem dX2_take_78 : decode cX2_take 78 = .ok (.iconst 0, 1) := by decide +kernel
theorem dX2_take_79 : decode cX2_take 79 = .ok (.aload_n 0, 1) := by decide +kernel
theorem dX2_take_80 : decode cX2_take 80 = .ok (.getfield 25, 3) := by decide +kernel
theorem dX2_take_83 : decode cX2_take 83 = .ok (.iconst 0, 1) := by decide +kernel
theorem dX2_take_84 : decode cX2_take 84 = .ok (.bipush 8, 2) := by decide +kernel
theorem dX2_take_86 : decode cX2_take 86 = .ok (.invokestatic 69, 3) := by decide +kernel
theorem dX2_take_89 : decode cX2_take 89 = .ok (.aload_n 1, 1) := by decide +kernel
theorem dX2_take_90 : decode cX2_take 90 = .ok (.getfield 28, 3) := by decide +kernel
theorem dX2_take_93 : decode cX2_take 93 = .ok (.iconst 0, 1) := by decide +kernel
theorem dX2_take_94 : decode cX2_take 94 = .ok (.aload_n 0, 1) := by decide +kernel
theorem dX2_take_95 : decode cX2_take 95 = .ok (.getfield 28, 3) := by decide +kernel
theorem dX2_take_98 : decode cX2_take 98 = .ok (.iconst 0, 1) := by decide +kernel
theorem dX2_take_99 : decode cX2_take 99 = .ok (.bipush 8, 2) := by decide +kernel
theorem dX2_take_101 : decode cX2_take 101 = .ok (.invokestatic 69, 3) := by decide +kernel
theorem dX2_take_104 : decode cX2_take 104 = .ok (.aload_n 1, 1) := by decide +kernel
theorem dX2_take_105 : decode cX2_take 105 = .ok (.getfield 31, 3) := by decide +kernel
theorem dX2_take_108 : decode cX2_take 108 = .ok (.iconst 0, 1) := by decide +kernel
theorem dX2_take_109 : decode cX2_take 109 = .ok (.aload_n 0, 1) := by decide +kernel
theorem dX2_take_110 : decode cX2_take 110 = .ok (.getfield 31, 3) := by decide +kernel
theorem dX2_take_113 : decode cX2_take 113 = .ok (.iconst 0, 1) := by decide +kernel
theorem dX2_take_114 : decode cX2_take 114 = .ok (.bipush 8, 2) := by decide +kernel
theorem dX2_take_116 : decode cX2_take 116 = .ok (.invokestatic 69, 3) := by decide +kernel
theorem dX2_take_119 : decode cX2_take 119 = .ok (.aload_n 1, 1) := by decide +kernel
theorem dX2_take_120 : decode cX2_take 120 = .ok (.getfield 34, 3) := by decide +kernel
theorem dX2_take_123 : decode cX2_take 123 = .ok (.iconst 0, 1) := by decide +kernel
theorem dX2_take_124 : decode cX2_take 124 = .ok (.aload_n 0, 1) := by decide +kernel
theorem dX2_take_125 : decode cX2_take 125 = .ok (.getfield 34, 3) := by decide +kernel
theorem dX2_take_128 : decode cX2_take 128 = .ok (.iconst 0, 1) := by decide +kernel
theorem dX2_take_129 : decode cX2_take 129 = .ok (.bipush 8, 2) := by decide +kernel
theorem dX2_take_131 : decode cX2_take 131 = .ok (.invokestatic 69, 3) := by decide +kernel
theorem dX2_take_134 : decode cX2_take 134 = .ok (.aload_n 1, 1) := by decide +kernel
theorem dX2_take_135 : decode cX2_take 135 = .ok (.getfield 37, 3) := by decide +kernel
theorem dX2_take_138 : decode cX2_take 138 = .ok (.iconst 0, 1) := by decide +kernel
theorem dX2_take_139 : decode cX2_take 139 = .ok (.aload_n 0, 1) := by decide +kernel
theorem dX2_take_140 : decode cX2_take 140 = .ok (.getfield 37, 3) := by decide +kernel
theorem dX2_take_143 : decode cX2_take 143 = .ok (.iconst 0, 1) := by decide +kernel
theorem dX2_take_144 : decode cX2_take 144 = .ok (.bipush 8, 2) := by decide +kernel
theorem dX2_take_146 : decode cX2_take 146 = .ok (.invokestatic 69, 3) := by decide +kernel
theorem dX2_take_149 : decode cX2_take 149 = .ok (.aload_n 1, 1) := by decide +kernel
theorem dX2_take_150 : decode cX2_take 150 = .ok (.getfield 40, 3) := by decide +kernel
theorem dX2_take_153 : decode cX2_take 153 = .ok (.iconst 0, 1) := by decide +kernel
theorem dX2_take_154 : decode cX2_take 154 = .ok (.aload_n 0, 1) := by decide +kernel
theorem dX2_take_155 : decode cX2_take 155 = .ok (.getfield 40, 3) := by decide +kernel
theorem dX2_take_158 : decode cX2_take 158 = .ok (.iconst 0, 1) := by decide +kernel
theorem dX2_take_159 : decode cX2_take 159 = .ok (.aload_n 0, 1) := by decide +kernel
theorem dX2_take_160 : decode cX2_take 160 = .ok (.getfield 40, 3) := by decide +kernel
theorem dX2_take_163 : decode cX2_take 163 = .ok (.arraylength, 1) := by decide +kernel
theorem dX2_take_164 : decode cX2_take 164 = .ok (.invokestatic 69, 3) := by decide +kernel
theorem dX2_take_167 : decode cX2_take 167 = .ok (.aload_n 1, 1) := by decide +kernel
theorem dX2_take_168 : decode cX2_take 168 = .ok (.getfield 43, 3) := by decide +kernel
theorem dX2_take_171 : decode cX2_take 171 = .ok (.iconst 0, 1) := by decide +kernel
theorem dX2_take_172 : decode cX2_take 172 = .ok (.aload_n 0, 1) := by decide +kernel
theorem dX2_take_173 : decode cX2_take 173 = .ok (.getfield 43, 3) := by decide +kernel
theorem dX2_take_176 : decode cX2_take 176 = .ok (.iconst 0, 1) := by decide +kernel
theorem dX2_take_177 : decode cX2_take 177 = .ok (.aload_n 0, 1) := by decide +kernel
theorem dX2_take_178 : decode cX2_take 178 = .ok (.getfield 43, 3) := by decide +kernel
theorem dX2_take_181 : decode cX2_take 181 = .ok (.arraylength, 1) := by decide +kernel
theorem dX2_take_182 : decode cX2_take 182 = .ok (.invokestatic 69, 3) := by decide +kernel
theorem dX2_take_185 : decode cX2_take 185 = .ok (.aload_n 0, 1) := by decide +kernel
theorem dX2_take_186 : decode cX2_take 186 = .ok (.getfield 53, 3) := by decide +kernel
theorem dX2_take_189 : decode cX2_take 189 = .ok (.aload_n 1, 1) := by decide +kernel
theorem dX2_take_190 : decode cX2_take 190 = .ok (.getfield 53, 3) := by decide +kernel
theorem dX2_take_193 : decode cX2_take 193 = .ok (.invokevirtual 75, 3) := by decide +kernel
theorem dX2_take_196 : decode cX2_take 196 = .ok (.aload_n 0, 1) := by decide +kernel
theorem dX2_take_197 : decode cX2_take 197 = .ok (.invokevirtual 79, 3) := by decide +kernel
theorem dX2_take_200 : decode cX2_take 200 = .ok (.return_, 1) := by decide +kernel
def s_X2_take (o : Nat) (a1 : Nat) (h : aH) : aO :=
  (gO h (.ref a1) 2 0).bind fun x1 => (gO h (.ref o) 2 0).bind fun x6 => (gO h (.ref o) 2 0).bind fun x11 => (lnA h (.ref x11)).bind fun x14 => (cpI h (.ref x1) 0 (.ref x6) 0 x14).bind fun h15 => (gO h15 (.ref a1) 2 1).bind fun x19 => (gO h15 (.ref o) 2 1).bind fun x24 => (gO h15 (.ref o) 2 1).bind fun x29 => (lnA h15 (.ref x29)).bind fun x32 => (cpJ h15 (.ref x19) 0 (.ref x24) 0 x32).bind fun h33 => (gO h33 (.ref a1) 2 2).bind fun x37 => (gO h33 (.ref o) 2 2).bind fun x42 => (cpI h33 (.ref x37) 0 (.ref x42) 0 9).bind fun h48 => (gO h48 (.ref a1) 2 3).bind fun x52 => (gO h48 (.ref o) 2 3).bind fun x57 => (cpI h48 (.ref x52) 0 (.ref x57) 0 9).bind fun h63 => (gI h63 (.ref a1) 2 4).bind fun x68 => (pF h63 (.ref o) 2 4 (.int x68)).bind fun h71 => (gO h71 (.ref a1) 2 5).bind fun x75 => (gO h71 (.ref o) 2 5).bind fun x80 => (cpI h71 (.ref x75) 0 (.ref x80) 0 8).bind fun h86 => (gO h86 (.ref a1) 2 6).bind fun x90 => (gO h86 (.ref o) 2 6).bind fun x95 => (cpI h86 (.ref x90) 0 (.ref x95) 0 8).bind fun h101 => (gO h101 (.ref a1) 2 7).bind fun x105 => (gO h101 (.ref o) 2 7).bind fun x110 => (cpI h101 (.ref x105) 0 (.ref x110) 0 8).bind fun h116 => (gO h116 (.ref a1) 2 8).bind fun x120 => (gO h116 (.ref o) 2 8).bind fun x125 => (cpI h116 (.ref x120) 0 (.ref x125) 0 8).bind fun h131 => (gO h131 (.ref a1) 2 9).bind fun x135 => (gO h131 (.ref o) 2 9).bind fun x140 => (cpI h131 (.ref x135) 0 (.ref x140) 0 8).bind fun h146 => (gO h146 (.ref a1) 2 10).bind fun x150 => (gO h146 (.ref o) 2 10).bind fun x155 => (gO h146 (.ref o) 2 10).bind fun x160 => (lnA h146 (.ref x160)).bind fun x163 => (cpI h146 (.ref x150) 0 (.ref x155) 0 x163).bind fun h164 => (gO h164 (.ref a1) 2 11).bind fun x168 => (gO h164 (.ref o) 2 11).bind fun x173 => (gO h164 (.ref o) 2 11).bind fun x178 => (lnA h164 (.ref x178)).bind fun x181 => (cpI h164 (.ref x168) 0 (.ref x173) 0 x181).bind fun h182 => (gO h182 (.ref o) 2 16).bind fun x186 => (gO h182 (.ref a1) 2 16).bind fun x190 => kO h182 x186 0 (cN (s_X0_take x186 x190 h182) fun h193 => kO h193 o 2 (cN (s_X2_measure o h193) fun h197 => some (.inl none, h197)))
section
variable {p : Program} {l : Launch} {e : Env} {s : State} {m : MethodId} {args : Array Value} {below : List Frame} {meth : Method} {c : Code} {D : va_G} {B0 : Nat} {X : Nat → Nat} {ws0 : va_W} {r : aR} {h' : aH} {mc ms : Nat}
theorem hy_X2_take : yX2_take.cls ≠ "java/lang/invoke/MethodHandle" ∧ yX2_take.cls ≠ "java/lang/invoke/VarHandle" ∧ (parseMethodDescriptor yX2_take.desc).map (fun d => d.parameters.length) = some 1 := by decide +kernel
theorem T_X2_take (o : Nat) (a1 : Nat) (h : aH) (r : aR) (h' : aH) (hs : s_X2_take o a1 h = some (r, h')) : Mt yX2_take (Cond.code yX2_take cX2_take 2 none :: aTB) 3 81 0 0 [.ref o, .ref a1] h r h' := by
  unfold s_X2_take at hs
  refine Mt_of (k := 0) (by decide) rfl (fun p l e s m args below meth c D B0 X ws0 C => ?_)
  show Ev p l e { frames := 3, cells := 0, slots := 0, locals := 81 } s m args below meth c D B0 X ws0 r h' 0 0 2 0 0 0 [some (.ref o), some (.ref a1)] [] h
  refine ev_aload_n C (x := .ref a1) rfl trivial dX2_take_0 ?_
  obtain ⟨x1, e1, hs⟩ := aB hs
  refine ev_get C (ci := 2) (k := 0) rfl wu_2 (by decide) wf_X2_9 (gO_F e1) dX2_take_1 ?_
  refine ev_iconst C (v := 0) dX2_take_4 (by decide) ?_
  refine ev_aload_n C (x := .ref o) rfl trivial dX2_take_5 ?_
  obtain ⟨x6, e6, hs⟩ := aB hs
  refine ev_get C (ci := 2) (k := 0) rfl wu_2 (by decide) wf_X2_9 (gO_F e6) dX2_take_6 ?_
  refine ev_iconst C (v := 0) dX2_take_9 (by decide) ?_
  refine ev_aload_n C (x := .ref o) rfl trivial dX2_take_10 ?_
  obtain ⟨x11, e11, hs⟩ := aB hs
  refine ev_get C (ci := 2) (k := 0) rfl wu_2 (by decide) wf_X2_9 (gO_F e11) dX2_take_11 ?_
  obtain ⟨x14, e14, hs⟩ := aB hs
  refine ev_alen C e14 dX2_take_14 ?_
  obtain ⟨h15, e15, hs⟩ := aB hs
  refine ev_cpI C wm_X2_69 wb_acopy wt_acopy wz_J10 e15 (Nat.le_of_ble_eq_true rfl) (Nat.le_of_ble_eq_true rfl) dX2_take_15 ?_
  refine ev_aload_n C (x := .ref a1) rfl trivial dX2_take_18 ?_
  obtain ⟨x19, e19, hs⟩ := aB hs
  refine ev_get C (ci := 2) (k := 1) rfl wu_2 (by decide) wf_X2_15 (gO_F e19) dX2_take_19 ?_
  refine ev_iconst C (v := 0) dX2_take_22 (by decide) ?_
  refine ev_aload_n C (x := .ref o) rfl trivial dX2_take_23 ?_
  obtain ⟨x24, e24, hs⟩ := aB hs
  refine ev_get C (ci := 2) (k := 1) rfl wu_2 (by decide) wf_X2_15 (gO_F e24) dX2_take_24 ?_
  refine ev_iconst C (v := 0) dX2_take_27 (by decide) ?_
  refine ev_aload_n C (x := .ref o) rfl trivial dX2_take_28 ?_
  obtain ⟨x29, e29, hs⟩ := aB hs
  refine ev_get C (ci := 2) (k := 1) rfl wu_2 (by decide) wf_X2_15 (gO_F e29) dX2_take_29 ?_
  obtain ⟨x32, e32, hs⟩ := aB hs
  refine ev_alen C e32 dX2_take_32 ?_
  obtain ⟨h33, e33, hs⟩ := aB hs
  refine ev_cpJ C wm_X2_69 wb_acopy wt_acopy wz_J10 e33 (Nat.le_of_ble_eq_true rfl) (Nat.le_of_ble_eq_true rfl) dX2_take_33 ?_
  refine ev_aload_n C (x := .ref a1) rfl trivial dX2_take_36 ?_
  obtain ⟨x37, e37, hs⟩ := aB hs
  refine ev_get C (ci := 2) (k := 2) rfl wu_2 (by decide) wf_X2_19 (gO_F e37) dX2_take_37 ?_
  refine ev_iconst C (v := 0) dX2_take_40 (by decide) ?_
  refine ev_aload_n C (x := .ref o) rfl trivial dX2_take_41 ?_
  obtain ⟨x42, e42, hs⟩ := aB hs
  refine ev_get C (ci := 2) (k := 2) rfl wu_2 (by decide) wf_X2_19 (gO_F e42) dX2_take_42 ?_
  refine ev_iconst C (v := 0) dX2_take_45 (by decide) ?_
  refine ev_bipush C (v := 9) dX2_take_46 (by decide) ?_
  obtain ⟨h48, e48, hs⟩ := aB hs
  refine ev_cpI C wm_X2_69 wb_acopy wt_acopy wz_J10 e48 (Nat.le_of_ble_eq_true rfl) (Nat.le_of_ble_eq_true rfl) dX2_take_48 ?_
  refine ev_aload_n C (x := .ref a1) rfl trivial dX2_take_51 ?_
  obtain ⟨x52, e52, hs⟩ := aB hs
  refine ev_get C (ci := 2) (k := 3) rfl wu_2 (by decide) wf_X2_22 (gO_F e52) dX2_take_52 ?_
  refine ev_iconst C (v := 0) dX2_take_55 (by decide) ?_
  refine ev_aload_n C (x := .ref o) rfl trivial dX2_take_56 ?_
  obtain ⟨x57, e57, hs⟩ := aB hs
  refine ev_get C (ci := 2) (k := 3) rfl wu_2 (by decide) wf_X2_22 (gO_F e57) dX2_take_57 ?_
  refine ev_iconst C (v := 0) dX2_take_60 (by decide) ?_
  refine ev_bipush C (v := 9) dX2_take_61 (by decide) ?_
  obtain ⟨h63, e63, hs⟩ := aB hs
  refine ev_cpI C wm_X2_69 wb_acopy wt_acopy wz_J10 e63 (Nat.le_of_ble_eq_true rfl) (Nat.le_of_ble_eq_true rfl) dX2_take_63 ?_
  refine ev_aload_n C (x := .ref o) rfl trivial dX2_take_66 ?_
  refine ev_aload_n C (x := .ref a1) rfl trivial dX2_take_67 ?_
  obtain ⟨x68, e68, hs⟩ := aB hs
  refine ev_get C (ci := 2) (k := 4) rfl wu_2 (by decide) wf_X2_63 (gI_F e68) dX2_take_68 ?_
  obtain ⟨h71, e71, hs⟩ := aB hs
  refine ev_put C (ci := 2) (k := 4) rfl wu_2 (by decide) tyX2 tyX2_ok nmX2 wf_X2_63 rfl trivial e71 dX2_take_71 ?_
  refine ev_aload_n C (x := .ref a1) rfl trivial dX2_take_74 ?_
  obtain ⟨x75, e75, hs⟩ := aB hs
  refine ev_get C (ci := 2) (k := 5) rfl wu_2 (by decide) wf_X2_25 (gO_F e75) dX2_take_75 ?_
  refine ev_iconst C (v := 0) dX2_take_78 (by decide) ?_
  refine ev_aload_n C (x := .ref o) rfl trivial dX2_take_79 ?_
  obtain ⟨x80, e80, hs⟩ := aB hs
  refine ev_get C (ci := 2) (k := 5) rfl wu_2 (by decide) wf_X2_25 (gO_F e80) dX2_take_80 ?_
  refine ev_iconst C (v := 0) dX2_take_83 (by decide) ?_
  refine ev_bipush C (v := 8) dX2_take_84 (by decide) ?_
  obtain ⟨h86, e86, hs⟩ := aB hs
  refine ev_cpI C wm_X2_69 wb_acopy wt_acopy wz_J10 e86 (Nat.le_of_ble_eq_true rfl) (Nat.le_of_ble_eq_true rfl) dX2_take_86 ?_
  refine ev_aload_n C (x := .ref a1) rfl trivial dX2_take_89 ?_
  obtain ⟨x90, e90, hs⟩ := aB hs
  refine ev_get C (ci := 2) (k := 6) rfl wu_2 (by decide) wf_X2_28 (gO_F e90) dX2_take_90 ?_
  refine ev_iconst C (v := 0) dX2_take_93 (by decide) ?_
  refine ev_aload_n C (x := .ref o) rfl trivial dX2_take_94 ?_
  obtain ⟨x95, e95, hs⟩ := aB hs
  refine ev_get C (ci := 2) (k := 6) rfl wu_2 (by decide) wf_X2_28 (gO_F e95) dX2_take_95 ?_
  refine ev_iconst C (v := 0) dX2_take_98 (by decide) ?_
  refine ev_bipush C (v := 8) dX2_take_99 (by decide) ?_
  obtain ⟨h101, e101, hs⟩ := aB hs
  refine ev_cpI C wm_X2_69 wb_acopy wt_acopy wz_J10 e101 (Nat.le_of_ble_eq_true rfl) (Nat.le_of_ble_eq_true rfl) dX2_take_101 ?_
  refine ev_aload_n C (x := .ref a1) rfl trivial dX2_take_104 ?_
  obtain ⟨x105, e105, hs⟩ := aB hs
  refine ev_get C (ci := 2) (k := 7) rfl wu_2 (by decide) wf_X2_31 (gO_F e105) dX2_take_105 ?_
  refine ev_iconst C (v := 0) dX2_take_108 (by decide) ?_
  refine ev_aload_n C (x := .ref o) rfl trivial dX2_take_109 ?_
  obtain ⟨x110, e110, hs⟩ := aB hs
  refine ev_get C (ci := 2) (k := 7) rfl wu_2 (by decide) wf_X2_31 (gO_F e110) dX2_take_110 ?_
  refine ev_iconst C (v := 0) dX2_take_113 (by decide) ?_
  refine ev_bipush C (v := 8) dX2_take_114 (by decide) ?_
  obtain ⟨h116, e116, hs⟩ := aB hs
  refine ev_cpI C wm_X2_69 wb_acopy wt_acopy wz_J10 e116 (Nat.le_of_ble_eq_true rfl) (Nat.le_of_ble_eq_true rfl) dX2_take_116 ?_
  refine ev_aload_n C (x := .ref a1) rfl trivial dX2_take_119 ?_
  obtain ⟨x120, e120, hs⟩ := aB hs
  refine ev_get C (ci := 2) (k := 8) rfl wu_2 (by decide) wf_X2_34 (gO_F e120) dX2_take_120 ?_
  refine ev_iconst C (v := 0) dX2_take_123 (by decide) ?_
  refine ev_aload_n C (x := .ref o) rfl trivial dX2_take_124 ?_
  obtain ⟨x125, e125, hs⟩ := aB hs
  refine ev_get C (ci := 2) (k := 8) rfl wu_2 (by decide) wf_X2_34 (gO_F e125) dX2_take_125 ?_
  refine ev_iconst C (v := 0) dX2_take_128 (by decide) ?_
  refine ev_bipush C (v := 8) dX2_take_129 (by decide) ?_
  obtain ⟨h131, e131, hs⟩ := aB hs
  refine ev_cpI C wm_X2_69 wb_acopy wt_acopy wz_J10 e131 (Nat.le_of_ble_eq_true rfl) (Nat.le_of_ble_eq_true rfl) dX2_take_131 ?_
  refine ev_aload_n C (x := .ref a1) rfl trivial dX2_take_134 ?_
  obtain ⟨x135, e135, hs⟩ := aB hs
  refine ev_get C (ci := 2) (k := 9) rfl wu_2 (by decide) wf_X2_37 (gO_F e135) dX2_take_135 ?_
  refine ev_iconst C (v := 0) dX2_take_138 (by decide) ?_
  refine ev_aload_n C (x := .ref o) rfl trivial dX2_take_139 ?_
  obtain ⟨x140, e140, hs⟩ := aB hs
  refine ev_get C (ci := 2) (k := 9) rfl wu_2 (by decide) wf_X2_37 (gO_F e140) dX2_take_140 ?_
  refine ev_iconst C (v := 0) dX2_take_143 (by decide) ?_
  refine ev_bipush C (v := 8) dX2_take_144 (by decide) ?_
  obtain ⟨h146, e146, hs⟩ := aB hs
  refine ev_cpI C wm_X2_69 wb_acopy wt_acopy wz_J10 e146 (Nat.le_of_ble_eq_true rfl) (Nat.le_of_ble_eq_true rfl) dX2_take_146 ?_
  refine ev_aload_n C (x := .ref a1) rfl trivial dX2_take_149 ?_
  obtain ⟨x150, e150, hs⟩ := aB hs
  refine ev_get C (ci := 2) (k := 10) rfl wu_2 (by decide) wf_X2_40 (gO_F e150) dX2_take_150 ?_
  refine ev_iconst C (v := 0) dX2_take_153 (by decide) ?_
  refine ev_aload_n C (x := .ref o) rfl trivial dX2_take_154 ?_
  obtain ⟨x155, e155, hs⟩ := aB hs
  refine ev_get C (ci := 2) (k := 10) rfl wu_2 (by decide) wf_X2_40 (gO_F e155) dX2_take_155 ?_
  refine ev_iconst C (v := 0) dX2_take_158 (by decide) ?_
  refine ev_aload_n C (x := .ref o) rfl trivial dX2_take_159 ?_
  obtain ⟨x160, e160, hs⟩ := aB hs
  refine ev_get C (ci := 2) (k := 10) rfl wu_2 (by decide) wf_X2_40 (gO_F e160) dX2_take_160 ?_
  obtain ⟨x163, e163, hs⟩ := aB hs
  refine ev_alen C e163 dX2_take_163 ?_
  obtain ⟨h164, e164, hs⟩ := aB hs
  refine ev_cpI C wm_X2_69 wb_acopy wt_acopy wz_J10 e164 (Nat.le_of_ble_eq_true rfl) (Nat.le_of_ble_eq_true rfl) dX2_take_164 ?_
  refine ev_aload_n C (x := .ref a1) rfl trivial dX2_take_167 ?_
  obtain ⟨x168, e168, hs⟩ := aB hs
  refine ev_get C (ci := 2) (k := 11) rfl wu_2 (by decide) wf_X2_43 (gO_F e168) dX2_take_168 ?_
  refine ev_iconst C (v := 0) dX2_take_171 (by decide) ?_
  refine ev_aload_n C (x := .ref o) rfl trivial dX2_take_172 ?_
  obtain ⟨x173, e173, hs⟩ := aB hs
  refine ev_get C (ci := 2) (k := 11) rfl wu_2 (by decide) wf_X2_43 (gO_F e173) dX2_take_173 ?_
  refine ev_iconst C (v := 0) dX2_take_176 (by decide) ?_
  refine ev_aload_n C (x := .ref o) rfl trivial dX2_take_177 ?_
  obtain ⟨x178, e178, hs⟩ := aB hs
  refine ev_get C (ci := 2) (k := 11) rfl wu_2 (by decide) wf_X2_43 (gO_F e178) dX2_take_178 ?_
  obtain ⟨x181, e181, hs⟩ := aB hs
  refine ev_alen C e181 dX2_take_181 ?_
  obtain ⟨h182, e182, hs⟩ := aB hs
  refine ev_cpI C wm_X2_69 wb_acopy wt_acopy wz_J10 e182 (Nat.le_of_ble_eq_true rfl) (Nat.le_of_ble_eq_true rfl) dX2_take_182 ?_
  refine ev_aload_n C (x := .ref o) rfl trivial dX2_take_185 ?_
  obtain ⟨x186, e186, hs⟩ := aB hs
  refine ev_get C (ci := 2) (k := 16) rfl wu_2 (by decide) wf_X2_53 (gO_F e186) dX2_take_186 ?_
  refine ev_aload_n C (x := .ref a1) rfl trivial dX2_take_189 ?_
  obtain ⟨x190, e190, hs⟩ := aB hs
  refine ev_get C (ci := 2) (k := 16) rfl wu_2 (by decide) wf_X2_53 (gO_F e190) dX2_take_190 ?_
  obtain ⟨eo193, hs⟩ := kO_at hs
  obtain ⟨h193, e193, hs⟩ := cN_at hs
  refine ev_callVN C (T_X0_take _ _ _ _ _ e193) (ci := 0) rfl eo193 wc_X0_take wn_X2_75 wi_X0_take ws_X0_take wz_X0 hy_X0_take ⟨(Nat.le_of_ble_eq_true rfl), (Nat.le_of_ble_eq_true rfl)⟩ ⟨(Nat.le_refl _), (Nat.le_refl _)⟩ (Nat.le_of_ble_eq_true rfl) rfl dX2_take_193 ?_
  refine ev_aload_n C (x := .ref o) rfl trivial dX2_take_196 ?_
  obtain ⟨eo197, hs⟩ := kO_at hs
  obtain ⟨h197, e197, hs⟩ := cN_at hs
  refine ev_callV C (T_X2_measure _ _ _ _ e197) (ci := 2) rfl eo197 wc_X2_measure wm_X2_79 wi_X2_measure ws_X2_measure wz_X2 hy_X2_measure ⟨(Nat.le_of_ble_eq_true rfl), (Nat.le_of_ble_eq_true rfl)⟩ ⟨(Nat.le_refl _), (Nat.le_refl _)⟩ (Nat.le_of_ble_eq_true rfl) rfl dX2_take_197 ?_
  cases hs
  exact ev_vret C rfl rfl (Nat.le_refl _) (Nat.le_refl _) rfl dX2_take_200
end
