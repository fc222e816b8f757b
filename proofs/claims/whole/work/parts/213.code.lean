-- X14_form
theorem dX14_form_0 : decode cX14_form 0 = .ok (.aload_n 0, 1) := by decide +kernel
theorem dX14_form_1 : decode cX14_form 1 = .ok (.iconst 0, 1) := by decide +kernel
theorem dX14_form_2 : decode cX14_form 2 = .ok (.putfield 154, 3) := by decide +kernel
theorem dX14_form_5 : decode cX14_form 5 = .ok (.aload_n 0, 1) := by decide +kernel
theorem dX14_form_6 : decode cX14_form 6 = .ok (.getfield 376, 3) := by decide +kernel
theorem dX14_form_9 : decode cX14_form 9 = .ok (.ifnonnull 9, 3) := by decide +kernel
theorem dX14_form_12 : decode cX14_form 12 = .ok (.aload_n 0, 1) := by decide +kernel
theorem dX14_form_13 : decode cX14_form 13 = .ok (.iconst 1, 1) := by decide +kernel
theorem dX14_form_14 : decode cX14_form 14 = .ok (.invokevirtual 577, 3) := by decide +kernel
theorem dX14_form_17 : decode cX14_form 17 = .ok (.ireturn, 1) := by decide +kernel
theorem dX14_form_18 : decode cX14_form 18 = .ok (.iload_n 1, 1) := by decide +kernel
theorem dX14_form_19 : decode cX14_form 19 = .ok (.iconst 0, 1) := by decide +kernel
theorem dX14_form_20 : decode cX14_form 20 = .ok (.aload_n 0, 1) := by decide +kernel
theorem dX14_form_21 : decode cX14_form 21 = .ok (.getfield 376, 3) := by decide +kernel
theorem dX14_form_24 : decode cX14_form 24 = .ok (.getfield 252, 3) := by decide +kernel
theorem dX14_form_27 : decode cX14_form 27 = .ok (.iconst 0, 1) := by decide +kernel
theorem dX14_form_28 : decode cX14_form 28 = .ok (.iaload, 1) := by decide +kernel
theorem dX14_form_29 : decode cX14_form 29 = .ok (.invokestatic 313, 3) := by decide +kernel
theorem dX14_form_32 : decode cX14_form 32 = .ok (.ifCond .ne 9, 3) := by decide +kernel
theorem dX14_form_35 : decode cX14_form 35 = .ok (.aload_n 0, 1) := by decide +kernel
theorem dX14_form_36 : decode cX14_form 36 = .ok (.iconst 2, 1) := by decide +kernel
theorem dX14_form_37 : decode cX14_form 37 = .ok (.invokevirtual 577, 3) := by decide +kernel
theorem dX14_form_40 : decode cX14_form 40 = .ok (.ireturn, 1) := by decide +kernel
theorem dX14_form_41 : decode cX14_form 41 = .ok (.aload_n 0, 1) := by decide +kernel
theorem dX14_form_42 : decode cX14_form 42 = .ok (.invokevirtual 468, 3) := by decide +kernel
theorem dX14_form_45 : decode cX14_form 45 = .ok (.ifCond .ne 9, 3) := by decide +kernel
theorem dX14_form_48 : decode cX14_form 48 = .ok (.aload_n 0, 1) := by decide +kernel
theorem dX14_form_49 : decode cX14_form 49 = .ok (.iconst 5, 1) := by decide +kernel
theorem dX14_form_50 : decode cX14_form 50 = .ok (.invokevirtual 577, 3) := by decide +kernel
theorem dX14_form_53 : decode cX14_form 53 = .ok (.ireturn, 1) := by decide +kernel
theorem dX14_form_54 : decode cX14_form 54 = .ok (.aload_n 0, 1) := by decide +kernel
theorem dX14_form_55 : decode cX14_form 55 = .ok (.aload_n 0, 1) := by decide +kernel
theorem dX14_form_56 : decode cX14_form 56 = .ok (.iload_n 1, 1) := by decide +kernel
theorem dX14_form_57 : decode cX14_form 57 = .ok (.invokevirtual 580, 3) := by decide +kernel
theorem dX14_form_60 : decode cX14_form 60 = .ok (.invokevirtual 413, 3) := by decide +kernel
theorem dX14_form_63 : decode cX14_form 63 = .ok (.ireturn, 1) := by decide +kernel
def s_X14_form (o : Nat) (a1 : Int32) (h : aH) : aO :=
  (pF h (.ref o) 14 0 (.int 0)).bind fun h2 => (gW h2 (.ref o) 14 4).bind fun x6 => match x6 with | .null => (kO h2 o 14 (cI (s_X14_lost o 1 h2) fun x14 h14 => some (.inl (some (.int x14)), h14))) | .ref n9 => ((gO h2 (.ref o) 14 4).bind fun x21 => (gO h2 (.ref x21) 13 0).bind fun x24 => (ldI .int h2 (.ref x24) 0).bind fun x28 => cI (s_X14_in a1 0 x28 h2) fun x29 h29 => if x29 = 0 then (kO h29 o 14 (cI (s_X14_lost o 2 h29) fun x37 h37 => some (.inl (some (.int x37)), h37))) else (kO h29 o 14 (cI (s_X14_isLinear o h29) fun x42 h42 => if x42 = 0 then (kO h42 o 14 (cI (s_X14_lost o 5 h42) fun x50 h50 => some (.inl (some (.int x50)), h50))) else (kO h42 o 14 (cI (s_X14_formOf o a1 h42) fun x57 h57 => kO h57 o 14 (cI (s_X14_done o x57 h57) fun x60 h60 => some (.inl (some (.int x60)), h60))))))) | _ => none
section
variable {p : Program} {l : Launch} {e : Env} {s : State} {m : MethodId} {args : Array Value} {below : List Frame} {meth : Method} {c : Code} {D : va_G} {B0 : Nat} {X : Nat → Nat} {ws0 : va_W} {r : aR} {h' : aH} {mc ms : Nat}
theorem hy_X14_form : yX14_form.cls ≠ "java/lang/invoke/MethodHandle" ∧ yX14_form.cls ≠ "java/lang/invoke/VarHandle" ∧ (parseMethodDescriptor yX14_form.desc).map (fun d => d.parameters.length) = some 1 := by decide +kernel
theorem T_X14_form (o : Nat) (a1 : Int32) (h : aH) (r : aR) (h' : aH) (hs : s_X14_form o a1 h = some (r, h')) : Mt yX14_form (Cond.code yX14_form cX14_form 2 (some .int) :: aTB) 3 78 0 0 [.ref o, .int a1] h r h' := by
  unfold s_X14_form at hs
  refine Mt_of (k := 0) (by decide) rfl (fun p l e s m args below meth c D B0 X ws0 C => ?_)
  show Ev p l e { frames := 3, cells := 0, slots := 0, locals := 78 } s m args below meth c D B0 X ws0 r h' 0 0 2 0 0 0 [some (.ref o), some (.int a1)] [] h
  refine ev_aload_n C (x := .ref o) rfl trivial dX14_form_0 ?_
  refine ev_iconst C (v := 0) dX14_form_1 (by decide) ?_
  obtain ⟨h2, e2, hs⟩ := aB hs
  refine ev_put C (ci := 14) (k := 0) rfl wu_14 (by decide) tyX14 tyX14_ok nmX14 wf_X14_154 rfl trivial e2 dX14_form_2 ?_
  refine ev_aload_n C (x := .ref o) rfl trivial dX14_form_5 ?_
  obtain ⟨x6, e6, hs⟩ := aB hs
  refine ev_get C (ci := 14) (k := 4) rfl wu_14 (by decide) wf_X14_376 (gW_F e6).1 dX14_form_6 ?_
  cases x6 with
  | null =>
    refine ev_ifnonnull_n C dX14_form_9 ?_
    refine ev_aload_n C (x := .ref o) rfl trivial dX14_form_12 ?_
    refine ev_iconst C (v := 1) dX14_form_13 (by decide) ?_
    obtain ⟨eo14, hs⟩ := kO_at hs
    obtain ⟨x14, h14, e14, hs⟩ := cI_at hs
    refine ev_callV C (T_X14_lost _ _ _ _ _ e14) (ci := 14) rfl eo14 wc_X14_lost wm_X14_577 wi_X14_lost ws_X14_lost wz_X14 hy_X14_lost ⟨(Nat.le_of_ble_eq_true rfl), (Nat.le_of_ble_eq_true rfl)⟩ ⟨(Nat.le_refl _), (Nat.le_refl _)⟩ (Nat.le_of_ble_eq_true rfl) rfl dX14_form_14 ?_
    cases hs
    exact ev_iret C rfl rfl (Nat.le_refl _) (Nat.le_refl _) rfl dX14_form_17
  | ref n9 =>
    refine ev_ifnonnull_r C (tgt := 18) (by decide) dX14_form_9 ?_
    refine ev_iload_n C rfl dX14_form_18 ?_
    refine ev_iconst C (v := 0) dX14_form_19 (by decide) ?_
    refine ev_aload_n C (x := .ref o) rfl trivial dX14_form_20 ?_
    obtain ⟨x21, e21, hs⟩ := aB hs
    refine ev_get C (ci := 14) (k := 4) rfl wu_14 (by decide) wf_X14_376 (gO_F e21) dX14_form_21 ?_
    obtain ⟨x24, e24, hs⟩ := aB hs
    refine ev_getN C (ci := 13) (k := 0) rfl wu_13 (by decide) wg_X14_252 (gO_F e24) dX14_form_24 ?_
    refine ev_iconst C (v := 0) dX14_form_27 (by decide) ?_
    obtain ⟨x28, e28, hs⟩ := aB hs
    refine ev_iald C e28 dX14_form_28 ?_
    obtain ⟨x29, h29, e29, hs⟩ := cI_at hs
    refine ev_callS C (T_X14_in _ _ _ _ _ _ e29) wc_X14_in wm_X14_313 wt_X14_in wz_X14 hy_X14_in ⟨(Nat.le_of_ble_eq_true rfl), (Nat.le_of_ble_eq_true rfl)⟩ ⟨(Nat.le_refl _), (Nat.le_refl _)⟩ (Nat.le_of_ble_eq_true rfl) rfl dX14_form_29 ?_
    refine ev_if_ne C (tgt := 41) (by decide) dX14_form_32 (fun q32 => ?_) (fun q32 => ?_)
    · replace hs := (if_neg q32).symm.trans hs
      refine ev_aload_n C (x := .ref o) rfl trivial dX14_form_41 ?_
      obtain ⟨eo42, hs⟩ := kO_at hs
      obtain ⟨x42, h42, e42, hs⟩ := cI_at hs
      refine ev_callV C (T_X14_isLinear _ _ _ _ e42) (ci := 14) rfl eo42 wc_X14_isLinear wm_X14_468 wi_X14_isLinear ws_X14_isLinear wz_X14 hy_X14_isLinear ⟨(Nat.le_of_ble_eq_true rfl), (Nat.le_of_ble_eq_true rfl)⟩ ⟨(Nat.le_refl _), (Nat.le_refl _)⟩ (Nat.le_of_ble_eq_true rfl) rfl dX14_form_42 ?_
      refine ev_if_ne C (tgt := 54) (by decide) dX14_form_45 (fun q45 => ?_) (fun q45 => ?_)
      · replace hs := (if_neg q45).symm.trans hs
        refine ev_aload_n C (x := .ref o) rfl trivial dX14_form_54 ?_
        refine ev_aload_n C (x := .ref o) rfl trivial dX14_form_55 ?_
        refine ev_iload_n C rfl dX14_form_56 ?_
        obtain ⟨eo57, hs⟩ := kO_at hs
        obtain ⟨x57, h57, e57, hs⟩ := cI_at hs
        refine ev_callV C (T_X14_formOf _ _ _ _ _ e57) (ci := 14) rfl eo57 wc_X14_formOf wm_X14_580 wi_X14_formOf ws_X14_formOf wz_X14 hy_X14_formOf ⟨(Nat.le_of_ble_eq_true rfl), (Nat.le_of_ble_eq_true rfl)⟩ ⟨(Nat.le_refl _), (Nat.le_refl _)⟩ (Nat.le_of_ble_eq_true rfl) rfl dX14_form_57 ?_
        obtain ⟨eo60, hs⟩ := kO_at hs
        obtain ⟨x60, h60, e60, hs⟩ := cI_at hs
        refine ev_callV C (T_X14_done _ _ _ _ _ e60) (ci := 14) rfl eo60 wc_X14_done wm_X14_413 wi_X14_done ws_X14_done wz_X14 hy_X14_done ⟨(Nat.le_of_ble_eq_true rfl), (Nat.le_of_ble_eq_true rfl)⟩ ⟨(Nat.le_refl _), (Nat.le_refl _)⟩ (Nat.le_of_ble_eq_true rfl) rfl dX14_form_60 ?_
        cases hs
        exact ev_iret C rfl rfl (Nat.le_refl _) (Nat.le_refl _) rfl dX14_form_63
      · replace hs := (if_pos q45).symm.trans hs
        refine ev_aload_n C (x := .ref o) rfl trivial dX14_form_48 ?_
        refine ev_iconst C (v := 5) dX14_form_49 (by decide) ?_
        obtain ⟨eo50, hs⟩ := kO_at hs
        obtain ⟨x50, h50, e50, hs⟩ := cI_at hs
        refine ev_callV C (T_X14_lost _ _ _ _ _ e50) (ci := 14) rfl eo50 wc_X14_lost wm_X14_577 wi_X14_lost ws_X14_lost wz_X14 hy_X14_lost ⟨(Nat.le_of_ble_eq_true rfl), (Nat.le_of_ble_eq_true rfl)⟩ ⟨(Nat.le_refl _), (Nat.le_refl _)⟩ (Nat.le_of_ble_eq_true rfl) rfl dX14_form_50 ?_
        cases hs
        exact ev_iret C rfl rfl (Nat.le_refl _) (Nat.le_refl _) rfl dX14_form_53
    · replace hs := (if_pos q32).symm.trans hs
      refine ev_aload_n C (x := .ref o) rfl trivial dX14_form_35 ?_
      refine ev_iconst C (v := 2) dX14_form_36 (by decide) ?_
      obtain ⟨eo37, hs⟩ := kO_at hs
      obtain ⟨x37, h37, e37, hs⟩ := cI_at hs
      refine ev_callV C (T_X14_lost _ _ _ _ _ e37) (ci := 14) rfl eo37 wc_X14_lost wm_X14_577 wi_X14_lost ws_X14_lost wz_X14 hy_X14_lost ⟨(Nat.le_of_ble_eq_true rfl), (Nat.le_of_ble_eq_true rfl)⟩ ⟨(Nat.le_refl _), (Nat.le_refl _)⟩ (Nat.le_of_ble_eq_true rfl) rfl dX14_form_37 ?_
      cases hs
      exact ev_iret C rfl rfl (Nat.le_refl _) (Nat.le_refl _) rfl dX14_form_40
  | _ => cases hs
end
-- X14_raises
theorem dX14_raises_0 : decode cX14_raises 0 = .ok (.iconst 0, 1) := by decide +kernel
theorem dX14_raises_1 : decode cX14_raises 1 = .ok (.istore_n 1, 1) := by decide +kernel
theorem dX14_raises_2 : decode cX14_raises 2 = .ok (.iload_n 1, 1) := by decide +kernel
theorem dX14_raises_3 : decode cX14_raises 3 = .ok (.bipush 9, 2) := by decide +kernel
theorem dX14_raises_5 : decode cX14_raises 5 = .ok (.if_icmp .ge 64, 3) := by decide +kernel
theorem dX14_raises_8 : decode cX14_raises 8 = .ok (.aload_n 0, 1) := by decide +kernel
theorem dX14_raises_9 : decode cX14_raises 9 = .ok (.getfield 124, 3) := by decide +kernel
theorem dX14_raises_12 : decode cX14_raises 12 = .ok (.iload_n 1, 1) := by decide +kernel
theorem dX14_raises_13 : decode cX14_raises 13 = .ok (.lconst 0, 1) := by decide +kernel
theorem dX14_raises_14 : decode cX14_raises 14 = .ok (.lastore, 1) := by decide +kernel
theorem dX14_raises_15 : decode cX14_raises 15 = .ok (.iconst 0, 1) := by decide +kernel
theorem dX14_raises_16 : decode cX14_raises 16 = .ok (.istore_n 2, 1) := by decide +kernel
theorem dX14_raises_17 : decode cX14_raises 17 = .ok (.iload_n 2, 1) := by decide +kernel
theorem dX14_raises_18 : decode cX14_raises 18 = .ok (.iconst 3, 1) := by decide +kernel
theorem dX14_raises_19 : decode cX14_raises 19 = .ok (.if_icmp .ge 44, 3) := by decide +kernel
theorem dX14_raises_22 : decode cX14_raises 22 = .ok (.aload_n 0, 1) := by decide +kernel
theorem dX14_raises_23 : decode cX14_raises 23 = .ok (.getfield 124, 3) := by decide +kernel
theorem dX14_raises_26 : decode cX14_raises 26 = .ok (.iload_n 1, 1) := by decide +kernel
theorem dX14_raises_27 : decode cX14_raises 27 = .ok (.dup2, 1) := by decide +kernel
theorem dX14_raises_28 : decode cX14_raises 28 = .ok (.laload, 1) := by decide +kernel
theorem dX14_raises_29 : decode cX14_raises 29 = .ok (.aload_n 0, 1) := by decide +kernel
theorem dX14_raises_30 : decode cX14_raises 30 = .ok (.getfield 118, 3) := by decide +kernel
theorem dX14_raises_33 : decode cX14_raises 33 = .ok (.iconst 3, 1) := by decide +kernel
theorem dX14_raises_34 : decode cX14_raises 34 = .ok (.iload_n 1, 1) := by decide +kernel
theorem dX14_raises_35 : decode cX14_raises 35 = .ok (.iconst 3, 1) := by decide +kernel
theorem dX14_raises_36 : decode cX14_raises 36 = .ok (.idiv, 1) := by decide +kernel
theorem dX14_raises_37 : decode cX14_raises 37 = .ok (.imul, 1) := by decide +kernel
theorem dX14_raises_38 : decode cX14_raises 38 = .ok (.iload_n 2, 1) := by decide +kernel
theorem dX14_raises_39 : decode cX14_raises 39 = .ok (.iadd, 1) := by decide +kernel
theorem dX14_raises_40 : decode cX14_raises 40 = .ok (.laload, 1) := by decide +kernel
theorem dX14_raises_41 : decode cX14_raises 41 = .ok (.aload_n 0, 1) := by decide +kernel
theorem dX14_raises_42 : decode cX14_raises 42 = .ok (.getfield 94, 3) := by decide +kernel
theorem dX14_raises_45 : decode cX14_raises 45 = .ok (.iconst 3, 1) := by decide +kernel
theorem dX14_raises_46 : decode cX14_raises 46 = .ok (.iload_n 2, 1) := by decide +kernel
theorem dX14_raises_47 : decode cX14_raises 47 = .ok (.imul, 1) := by decide +kernel
theorem dX14_raises_48 : decode cX14_raises 48 = .ok (.iload_n 1, 1) := by decide +kernel
theorem dX14_raises_49 : decode cX14_raises 49 = .ok (.iconst 3, 1) := by decide +kernel
theorem dX14_raises_50 : decode cX14_raises 50 = .ok (.irem, 1) := by decide +kernel
theorem dX14_raises_51 : decode cX14_raises 51 = .ok (.iadd, 1) := by decide +kernel
theorem dX14_raises_52 : decode cX14_raises 52 = .ok (.iaload, 1) := by decide +kernel
theorem dX14_raises_53 : decode cX14_raises 53 = .ok (.i2l, 1) := by decide +kernel
theorem dX14_raises_54 : decode cX14_raises 54 = .ok (.lmul, 1) := by decide +kernel
theorem dX14_raises_55 : decode cX14_raises 55 = .ok (.ladd, 1) := by decide +kernel
theorem dX14_raises_56 : decode cX14_raises 56 = .ok (.lastore, 1) := by decide +kernel
theorem dX14_raises_57 : decode cX14_raises 57 = .ok (.iinc 2 1, 3) := by decide +kernel
theorem dX14_raises_60 : decode cX14_raises 60 = .ok (.goto (-43), 3) := by decide +kernel
theorem dX14_raises_63 : decode cX14_raises 63 = .ok (.iinc 1 1, 3) := by decide +kernel
theorem dX14_raises_66 : decode cX14_raises 66 = .ok (.goto (-64), 3) := by decide +kernel
theorem dX14_raises_69 : decode cX14_raises 69 = .ok (.iconst 0, 1) := by decide +kernel
theorem dX14_raises_70 : decode cX14_raises 70 = .ok (.istore_n 1, 1) := by decide +kernel
theorem dX14_raises_71 : decode cX14_raises 71 = .ok (.iload_n 1, 1) := by decide +kernel
theorem dX14_raises_72 : decode cX14_raises 72 = .ok (.bipush 9, 2) := by decide +kernel
theorem dX14_raises_74 : decode cX14_raises 74 = .ok (.if_icmp .ge 21, 3) := by decide +kernel
theorem dX14_raises_77 : decode cX14_raises 77 = .ok (.aload_n 0, 1) := by decide +kernel
theorem dX14_raises_78 : decode cX14_raises 78 = .ok (.getfield 118, 3) := by decide +kernel
theorem dX14_raises_81 : decode cX14_raises 81 = .ok (.iload_n 1, 1) := by decide +kernel
theorem dX14_raises_82 : decode cX14_raises 82 = .ok (.aload_n 0, 1) := by decide +kernel
theorem dX14_raises_83 : decode cX14_raises 83 = .ok (.getfield 124, 3) := by decide +kernel
theorem dX14_raises_86 : decode cX14_raises 86 = .ok (.iload_n 1, 1) := by decide +kernel
theorem dX14_raises_87 : decode cX14_raises 87 = .ok (.laload, 1) := by decide +kernel
theorem dX14_raises_88 : decode cX14_raises 88 = .ok (.lastore, 1) := by decide +kernel
theorem dX14_raises_89 : decode cX14_raises 89 = .ok (.iinc 1 1, 3) := by decide +kernel
theorem dX14_raises_92 : decode cX14_raises 92 = .ok (.goto (-21), 3) := by decide +kernel
theorem dX14_raises_95 : decode cX14_raises 95 = .ok (.return_, 1) := by decide +kernel
def s_X14_raises_71_b  (k71 : Nat → Int32 → aH → aO) (l0 : Nat) (l1 : Int32) (h : aH) : aO :=
  if 9 ≤ l1 then (some (.inl none, h)) else ((gO h (.ref l0) 14 54).bind fun x78 => (gO h (.ref l0) 14 57).bind fun x83 => (ldJ h (.ref x83) l1).bind fun x87 => (stJ h (.ref x78) l1 x87).bind fun h88 => k71 l0 (l1 + 1) h88)
def s_X14_raises_71  (n : Nat) : Nat → Int32 → aH → aO := lpF (fun _ _ _ => none) (s_X14_raises_71_b ) n
def s_X14_raises_17_b (k2 : Nat → Int32 → aH → aO) (k17 : Nat → Int32 → Int32 → aH → aO) (l0 : Nat) (l1 : Int32) (l2 : Int32) (h : aH) : aO :=
  if 3 ≤ l2 then (k2 l0 (l1 + 1) h) else ((gO h (.ref l0) 14 57).bind fun x23 => (ldJ h (.ref x23) l1).bind fun x28 => (gO h (.ref l0) 14 54).bind fun x30 => nz 3 ((ldJ h (.ref x30) ((3 * (l1 / 3)) + l2)).bind fun x40 => (gO h (.ref l0) 14 45).bind fun x42 => nz 3 ((ldI .int h (.ref x42) ((3 * l2) + (l1 - l1 / 3 * 3))).bind fun x52 => (stJ h (.ref x23) l1 (x28 + (x40 * x52.toInt64))).bind fun h56 => k17 l0 l1 (l2 + 1) h56)))
def s_X14_raises_17 (k2 : Nat → Int32 → aH → aO) (n : Nat) : Nat → Int32 → Int32 → aH → aO := lpF (fun _ _ _ _ => none) (s_X14_raises_17_b k2) n
def s_X14_raises_2_b  (k2 : Nat → Int32 → aH → aO) (l0 : Nat) (l1 : Int32) (h : aH) : aO :=
  if 9 ≤ l1 then (s_X14_raises_71 FU l0 0 h) else ((gO h (.ref l0) 14 57).bind fun x9 => (stJ h (.ref x9) l1 0).bind fun h14 => s_X14_raises_17 k2 FU l0 l1 0 h14)
def s_X14_raises_2  (n : Nat) : Nat → Int32 → aH → aO := lpF (fun _ _ _ => none) (s_X14_raises_2_b ) n
def s_X14_raises (o : Nat) (h : aH) : aO :=
  s_X14_raises_2 FU o 0 h
section
variable {p : Program} {l : Launch} {e : Env} {s : State} {m : MethodId} {args : Array Value} {below : List Frame} {meth : Method} {c : Code} {D : va_G} {B0 : Nat} {X : Nat → Nat} {ws0 : va_W} {r : aR} {h' : aH} {mc ms : Nat}
theorem t_X14_raises_71_b (C : Cx p l s m args meth c B0 X RX14 "raises" cX14_raises 3 none [])   {k71 : Nat → Int32 → aH → aO} (K71 : ∀ (l0 : Nat) (l1 : Int32) (h : aH), k71 l0 l1 h = some (r, h') → Ev p l e { frames := 0, cells := mc, slots := ms, locals := 0 } s m args below meth c D B0 X ws0 r h' mc ms 3 mc ms 71 [some (.ref l0), some (.int l1), none] [] h) {l0 : Nat} {l1 : Int32} {h : aH} (hs : s_X14_raises_71_b  k71 l0 l1 h = some (r, h')) : Ev p l e { frames := 0, cells := mc, slots := ms, locals := 0 } s m args below meth c D B0 X ws0 r h' mc ms 3 mc ms 71 [some (.ref l0), some (.int l1), none] [] h := by
  unfold s_X14_raises_71_b at hs
  refine ev_iload_n C rfl dX14_raises_71 ?_
  refine ev_bipush C (v := 9) dX14_raises_72 (by decide) ?_
  refine ev_icmp_ge C (tgt := 95) (by decide) dX14_raises_74 (fun q74 => ?_) (fun q74 => ?_)
  · replace hs := (if_pos q74).symm.trans hs
    cases hs
    exact ev_vret C rfl rfl (Nat.le_refl _) (Nat.le_refl _) rfl dX14_raises_95
  · replace hs := (if_neg q74).symm.trans hs
    refine ev_aload_n C (x := .ref l0) rfl trivial dX14_raises_77 ?_
    obtain ⟨x78, e78, hs⟩ := aB hs
    refine ev_get C (ci := 14) (k := 54) rfl wu_14 (by decide) wf_X14_118 (gO_F e78) dX14_raises_78 ?_
    refine ev_iload_n C rfl dX14_raises_81 ?_
    refine ev_aload_n C (x := .ref l0) rfl trivial dX14_raises_82 ?_
    obtain ⟨x83, e83, hs⟩ := aB hs
    refine ev_get C (ci := 14) (k := 57) rfl wu_14 (by decide) wf_X14_124 (gO_F e83) dX14_raises_83 ?_
    refine ev_iload_n C rfl dX14_raises_86 ?_
    obtain ⟨x87, e87, hs⟩ := aB hs
    refine ev_lald C e87 dX14_raises_87 ?_
    obtain ⟨h88, e88, hs⟩ := aB hs
    refine ev_last C e88 dX14_raises_88 ?_
    refine ev_iinc C (i := 1) (n := 1) (x := l1) (v := l1 + 1) rfl (congrArg (fun z => l1 + z) (show Int32.ofInt 1 = 1 by decide)) (by decide) dX14_raises_89 ?_
    refine ev_goto C (tgt := 71) (by decide) dX14_raises_92 ?_
    exact (K71 _ _ _ hs)
theorem t_X14_raises_71 (C : Cx p l s m args meth c B0 X RX14 "raises" cX14_raises 3 none [])   : ∀ (n : Nat) {l0 : Nat} {l1 : Int32} {h : aH} (hs : s_X14_raises_71  n l0 l1 h = some (r, h')), Ev p l e { frames := 0, cells := mc, slots := ms, locals := 0 } s m args below meth c D B0 X ws0 r h' mc ms 3 mc ms 71 [some (.ref l0), some (.int l1), none] [] h
  | 0, _, _, _, hs => nomatch hs
  | n + 1, _, _, _, hs => t_X14_raises_71_b C  (k71 := s_X14_raises_71  n) (fun _ _ _ hs => t_X14_raises_71 C  n hs) hs
theorem t_X14_raises_17_b (C : Cx p l s m args meth c B0 X RX14 "raises" cX14_raises 3 none []) {k2 : Nat → Int32 → aH → aO} (K2 : ∀ (l0 : Nat) (l1 : Int32) (h : aH), k2 l0 l1 h = some (r, h') → Ev p l e { frames := 0, cells := mc, slots := ms, locals := 0 } s m args below meth c D B0 X ws0 r h' mc ms 3 mc ms 2 [some (.ref l0), some (.int l1), none] [] h) {k17 : Nat → Int32 → Int32 → aH → aO} (K17 : ∀ (l0 : Nat) (l1 : Int32) (l2 : Int32) (h : aH), k17 l0 l1 l2 h = some (r, h') → Ev p l e { frames := 0, cells := mc, slots := ms, locals := 0 } s m args below meth c D B0 X ws0 r h' mc ms 3 mc ms 17 [some (.ref l0), some (.int l1), some (.int l2)] [] h) {l0 : Nat} {l1 : Int32} {l2 : Int32} {h : aH} (hs : s_X14_raises_17_b k2 k17 l0 l1 l2 h = some (r, h')) : Ev p l e { frames := 0, cells := mc, slots := ms, locals := 0 } s m args below meth c D B0 X ws0 r h' mc ms 3 mc ms 17 [some (.ref l0), some (.int l1), some (.int l2)] [] h := by
  unfold s_X14_raises_17_b at hs
  refine ev_iload_n C rfl dX14_raises_17 ?_
  refine ev_iconst C (v := 3) dX14_raises_18 (by decide) ?_
  refine ev_icmp_ge C (tgt := 63) (by decide) dX14_raises_19 (fun q19 => ?_) (fun q19 => ?_)
  · replace hs := (if_pos q19).symm.trans hs
    refine ev_iinc C (i := 1) (n := 1) (x := l1) (v := l1 + 1) rfl (congrArg (fun z => l1 + z) (show Int32.ofInt 1 = 1 by decide)) (by decide) dX14_raises_63 ?_
    refine ev_goto C (tgt := 2) (by decide) dX14_raises_66 ?_
    exact Ev.keep [true, true, false] (K2 _ _ _ hs)
  · replace hs := (if_neg q19).symm.trans hs
    refine ev_aload_n C (x := .ref l0) rfl trivial dX14_raises_22 ?_
    obtain ⟨x23, e23, hs⟩ := aB hs
    refine ev_get C (ci := 14) (k := 57) rfl wu_14 (by decide) wf_X14_124 (gO_F e23) dX14_raises_23 ?_
    refine ev_iload_n C rfl dX14_raises_26 ?_
    refine ev_dup2 C rfl rfl dX14_raises_27 ?_
    obtain ⟨x28, e28, hs⟩ := aB hs
    refine ev_lald C e28 dX14_raises_28 ?_
    refine ev_aload_n C (x := .ref l0) rfl trivial dX14_raises_29 ?_
    obtain ⟨x30, e30, hs⟩ := aB hs
    refine ev_get C (ci := 14) (k := 54) rfl wu_14 (by decide) wf_X14_118 (gO_F e30) dX14_raises_30 ?_
    refine ev_iconst C (v := 3) dX14_raises_33 (by decide) ?_
    refine ev_iload_n C rfl dX14_raises_34 ?_
    refine ev_iconst C (v := 3) dX14_raises_35 (by decide) ?_
    obtain ⟨n36, hs⟩ := nz_at hs
    refine ev_idiv C n36 dX14_raises_36 ?_
    refine ev_imul C dX14_raises_37 ?_
    refine ev_iload_n C rfl dX14_raises_38 ?_
    refine ev_iadd C dX14_raises_39 ?_
    obtain ⟨x40, e40, hs⟩ := aB hs
    refine ev_lald C e40 dX14_raises_40 ?_
    refine ev_aload_n C (x := .ref l0) rfl trivial dX14_raises_41 ?_
    obtain ⟨x42, e42, hs⟩ := aB hs
    refine ev_get C (ci := 14) (k := 45) rfl wu_14 (by decide) wf_X14_94 (gO_F e42) dX14_raises_42 ?_
    refine ev_iconst C (v := 3) dX14_raises_45 (by decide) ?_
    refine ev_iload_n C rfl dX14_raises_46 ?_
    refine ev_imul C dX14_raises_47 ?_
    refine ev_iload_n C rfl dX14_raises_48 ?_
    refine ev_iconst C (v := 3) dX14_raises_49 (by decide) ?_
    obtain ⟨n50, hs⟩ := nz_at hs
    refine ev_irem C n50 dX14_raises_50 ?_
    refine ev_iadd C dX14_raises_51 ?_
    obtain ⟨x52, e52, hs⟩ := aB hs
    refine ev_iald C e52 dX14_raises_52 ?_
    refine ev_i2l C dX14_raises_53 ?_
    refine ev_lmul C dX14_raises_54 ?_
    refine ev_ladd C dX14_raises_55 ?_
    obtain ⟨h56, e56, hs⟩ := aB hs
    refine ev_last C e56 dX14_raises_56 ?_
    refine ev_iinc C (i := 2) (n := 1) (x := l2) (v := l2 + 1) rfl (congrArg (fun z => l2 + z) (show Int32.ofInt 1 = 1 by decide)) (by decide) dX14_raises_57 ?_
    refine ev_goto C (tgt := 17) (by decide) dX14_raises_60 ?_
    exact (K17 _ _ _ _ hs)
theorem t_X14_raises_17 (C : Cx p l s m args meth c B0 X RX14 "raises" cX14_raises 3 none []) {k2 : Nat → Int32 → aH → aO} (K2 : ∀ (l0 : Nat) (l1 : Int32) (h : aH), k2 l0 l1 h = some (r, h') → Ev p l e { frames := 0, cells := mc, slots := ms, locals := 0 } s m args below meth c D B0 X ws0 r h' mc ms 3 mc ms 2 [some (.ref l0), some (.int l1), none] [] h) : ∀ (n : Nat) {l0 : Nat} {l1 : Int32} {l2 : Int32} {h : aH} (hs : s_X14_raises_17 k2 n l0 l1 l2 h = some (r, h')), Ev p l e { frames := 0, cells := mc, slots := ms, locals := 0 } s m args below meth c D B0 X ws0 r h' mc ms 3 mc ms 17 [some (.ref l0), some (.int l1), some (.int l2)] [] h
  | 0, _, _, _, _, hs => nomatch hs
  | n + 1, _, _, _, _, hs => t_X14_raises_17_b C K2 (k17 := s_X14_raises_17 k2 n) (fun _ _ _ _ hs => t_X14_raises_17 C K2 n hs) hs
theorem t_X14_raises_2_b (C : Cx p l s m args meth c B0 X RX14 "raises" cX14_raises 3 none [])   {k2 : Nat → Int32 → aH → aO} (K2 : ∀ (l0 : Nat) (l1 : Int32) (h : aH), k2 l0 l1 h = some (r, h') → Ev p l e { frames := 0, cells := mc, slots := ms, locals := 0 } s m args below meth c D B0 X ws0 r h' mc ms 3 mc ms 2 [some (.ref l0), some (.int l1), none] [] h) {l0 : Nat} {l1 : Int32} {h : aH} (hs : s_X14_raises_2_b  k2 l0 l1 h = some (r, h')) : Ev p l e { frames := 0, cells := mc, slots := ms, locals := 0 } s m args below meth c D B0 X ws0 r h' mc ms 3 mc ms 2 [some (.ref l0), some (.int l1), none] [] h := by
  unfold s_X14_raises_2_b at hs
  refine ev_iload_n C rfl dX14_raises_2 ?_
  refine ev_bipush C (v := 9) dX14_raises_3 (by decide) ?_
  refine ev_icmp_ge C (tgt := 69) (by decide) dX14_raises_5 (fun q5 => ?_) (fun q5 => ?_)
  · replace hs := (if_pos q5).symm.trans hs
    refine ev_iconst C (v := 0) dX14_raises_69 (by decide) ?_
    refine ev_istore_n C (by decide) dX14_raises_70 ?_
    exact (t_X14_raises_71 C  FU hs)
  · replace hs := (if_neg q5).symm.trans hs
    refine ev_aload_n C (x := .ref l0) rfl trivial dX14_raises_8 ?_
    obtain ⟨x9, e9, hs⟩ := aB hs
    refine ev_get C (ci := 14) (k := 57) rfl wu_14 (by decide) wf_X14_124 (gO_F e9) dX14_raises_9 ?_
    refine ev_iload_n C rfl dX14_raises_12 ?_
    refine ev_lconst C (v := 0) dX14_raises_13 (by decide) ?_
    obtain ⟨h14, e14, hs⟩ := aB hs
    refine ev_last C e14 dX14_raises_14 ?_
    refine ev_iconst C (v := 0) dX14_raises_15 (by decide) ?_
    refine ev_istore_n C (by decide) dX14_raises_16 ?_
    exact (t_X14_raises_17 C K2 FU hs)
theorem t_X14_raises_2 (C : Cx p l s m args meth c B0 X RX14 "raises" cX14_raises 3 none [])   : ∀ (n : Nat) {l0 : Nat} {l1 : Int32} {h : aH} (hs : s_X14_raises_2  n l0 l1 h = some (r, h')), Ev p l e { frames := 0, cells := mc, slots := ms, locals := 0 } s m args below meth c D B0 X ws0 r h' mc ms 3 mc ms 2 [some (.ref l0), some (.int l1), none] [] h
  | 0, _, _, _, hs => nomatch hs
  | n + 1, _, _, _, hs => t_X14_raises_2_b C  (k2 := s_X14_raises_2  n) (fun _ _ _ hs => t_X14_raises_2 C  n hs) hs
theorem hy_X14_raises : yX14_raises.cls ≠ "java/lang/invoke/MethodHandle" ∧ yX14_raises.cls ≠ "java/lang/invoke/VarHandle" ∧ (parseMethodDescriptor yX14_raises.desc).map (fun d => d.parameters.length) = some 0 := by decide +kernel
theorem T_X14_raises (o : Nat) (h : aH) (r : aR) (h' : aH) (hs : s_X14_raises o h = some (r, h')) : Mt yX14_raises (Cond.code yX14_raises cX14_raises 3 none :: aTB) 0 0 0 0 [.ref o] h r h' := by
  unfold s_X14_raises at hs
  refine Mt_of (k := 2) (by decide) rfl (fun p l e s m args below meth c D B0 X ws0 C => ?_)
  show Ev p l e { frames := 0, cells := 0, slots := 0, locals := 0 } s m args below meth c D B0 X ws0 r h' 0 0 3 0 0 0 [some (.ref o), none, none] [] h
  refine ev_iconst C (v := 0) dX14_raises_0 (by decide) ?_
  refine ev_istore_n C (by decide) dX14_raises_1 ?_
  exact (t_X14_raises_2 C  FU hs)
end
-- X14_last
theorem dX14_last_0 : decode cX14_last 0 = .ok (.iload_n 2, 1) := by decide +kernel
theorem dX14_last_1 : decode cX14_last 1 = .ok (.iconst 1, 1) := by decide +kernel
theorem dX14_last_2 : decode cX14_last 2 = .ok (.if_icmp .ne 5, 3) := by decide +kernel
theorem dX14_last_5 : decode cX14_last 5 = .ok (.lconst 1, 1) := by decide +kernel
theorem dX14_last_6 : decode cX14_last 6 = .ok (.lreturn, 1) := by decide +kernel
theorem dX14_last_7 : decode cX14_last 7 = .ok (.iload_n 2, 1) := by decide +kernel
theorem dX14_last_8 : decode cX14_last 8 = .ok (.iconst 2, 1) := by decide +kernel
theorem dX14_last_9 : decode cX14_last 9 = .ok (.if_icmp .ne 24, 3) := by decide +kernel
theorem dX14_last_12 : decode cX14_last 12 = .ok (.iload_n 1, 1) := by decide +kernel
theorem dX14_last_13 : decode cX14_last 13 = .ok (.ifCond .ne 13, 3) := by decide +kernel
theorem dX14_last_16 : decode cX14_last 16 = .ok (.aload_n 0, 1) := by decide +kernel
theorem dX14_last_17 : decode cX14_last 17 = .ok (.getfield 109, 3) := by decide +kernel
theorem dX14_last_20 : decode cX14_last 20 = .ok (.iconst 1, 1) := by decide +kernel
theorem dX14_last_21 : decode cX14_last 21 = .ok (.laload, 1) := by decide +kernel
theorem dX14_last_22 : decode cX14_last 22 = .ok (.lneg, 1) := by decide +kernel
theorem dX14_last_23 : decode cX14_last 23 = .ok (.goto 9, 3) := by decide +kernel
theorem dX14_last_26 : decode cX14_last 26 = .ok (.aload_n 0, 1) := by decide +kernel
theorem dX14_last_27 : decode cX14_last 27 = .ok (.getfield 109, 3) := by decide +kernel
theorem dX14_last_30 : decode cX14_last 30 = .ok (.iconst 0, 1) := by decide +kernel
theorem dX14_last_31 : decode cX14_last 31 = .ok (.laload, 1) := by decide +kernel
theorem dX14_last_32 : decode cX14_last 32 = .ok (.lreturn, 1) := by decide +kernel
theorem dX14_last_33 : decode cX14_last 33 = .ok (.iload_n 1, 1) := by decide +kernel
theorem dX14_last_34 : decode cX14_last 34 = .ok (.iconst 1, 1) := by decide +kernel
theorem dX14_last_35 : decode cX14_last 35 = .ok (.iadd, 1) := by decide +kernel
theorem dX14_last_36 : decode cX14_last 36 = .ok (.iconst 3, 1) := by decide +kernel
theorem dX14_last_37 : decode cX14_last 37 = .ok (.irem, 1) := by decide +kernel
theorem dX14_last_38 : decode cX14_last 38 = .ok (.istore_n 3, 1) := by decide +kernel
theorem dX14_last_39 : decode cX14_last 39 = .ok (.iload_n 1, 1) := by decide +kernel
theorem dX14_last_40 : decode cX14_last 40 = .ok (.iconst 2, 1) := by decide +kernel
theorem dX14_last_41 : decode cX14_last 41 = .ok (.iadd, 1) := by decide +kernel
theorem dX14_last_42 : decode cX14_last 42 = .ok (.iconst 3, 1) := by decide +kernel
theorem dX14_last_43 : decode cX14_last 43 = .ok (.irem, 1) := by decide +kernel
theorem dX14_last_44 : decode cX14_last 44 = .ok (.istore 4, 2) := by decide +kernel
theorem dX14_last_46 : decode cX14_last 46 = .ok (.aload_n 0, 1) := by decide +kernel
theorem dX14_last_47 : decode cX14_last 47 = .ok (.getfield 109, 3) := by decide +kernel
theorem dX14_last_50 : decode cX14_last 50 = .ok (.iload_n 3, 1) := by decide +kernel
theorem dX14_last_51 : decode cX14_last 51 = .ok (.laload, 1) := by decide +kernel
theorem dX14_last_52 : decode cX14_last 52 = .ok (.aload_n 0, 1) := by decide +kernel
theorem dX14_last_53 : decode cX14_last 53 = .ok (.getfield 109, 3) := by decide +kernel
theorem dX14_last_56 : decode cX14_last 56 = .ok (.iconst 3, 1) := by decide +kernel
theorem dX14_last_57 : decode cX14_last 57 = .ok (.iload 4, 2) := by decide +kernel
theorem dX14_last_59 : decode cX14_last 59 = .ok (.iadd, 1) := by decide +kernel
theorem dX14_last_60 : decode cX14_last 60 = .ok (.laload, 1) := by decide +kernel
theorem dX14_last_61 : decode cX14_last 61 = .ok (.lmul, 1) := by decide +kernel
theorem dX14_last_62 : decode cX14_last 62 = .ok (.aload_n 0, 1) := by decide +kernel
theorem dX14_last_63 : decode cX14_last 63 = .ok (.getfield 109, 3) := by decide +kernel
theorem dX14_last_66 : decode cX14_last 66 = .ok (.iload 4, 2) := by decide +kernel
theorem dX14_last_68 : decode cX14_last 68 = .ok (.laload, 1) := by decide +kernel
theorem dX14_last_69 : decode cX14_last 69 = .ok (.aload_n 0, 1) := by decide +kernel
theorem dX14_last_70 : decode cX14_last 70 = .ok (.getfield 109, 3) := by decide +kernel
theorem dX14_last_73 : decode cX14_last 73 = .ok (.iconst 3, 1) := by decide +kernel
theorem dX14_last_74 : decode cX14_last 74 = .ok (.iload_n 3, 1) := by decide +kernel
theorem dX14_last_75 : decode cX14_last 75 = .ok (.iadd, 1) := by decide +kernel
theorem dX14_last_76 : decode cX14_last 76 = .ok (.laload, 1) := by decide +kernel
theorem dX14_last_77 : decode cX14_last 77 = .ok (.lmul, 1) := by decide +kernel
theorem dX14_last_78 : decode cX14_last 78 = .ok (.lsub, 1) := by decide +kernel
theorem dX14_last_79 : decode cX14_last 79 = .ok (.lreturn, 1) := by decide +kernel
def s_X14_last (o : Nat) (a1 : Int32) (a2 : Int32) (h : aH) : aO :=
  if a2 = 1 then (some (.inl (some (.long 1)), h)) else (if a2 = 2 then (if a1 = 0 then ((gO h (.ref o) 14 51).bind fun x17 => (ldJ h (.ref x17) 1).bind fun x21 => some (.inl (some (.long (-x21))), h)) else ((gO h (.ref o) 14 51).bind fun x27 => (ldJ h (.ref x27) 0).bind fun x31 => some (.inl (some (.long x31)), h))) else (nz 3 (nz 3 ((gO h (.ref o) 14 51).bind fun x47 => (ldJ h (.ref x47) ((a1 + 1) - (a1 + 1) / 3 * 3)).bind fun x51 => (gO h (.ref o) 14 51).bind fun x53 => (ldJ h (.ref x53) (3 + ((a1 + 2) - (a1 + 2) / 3 * 3))).bind fun x60 => (gO h (.ref o) 14 51).bind fun x63 => (ldJ h (.ref x63) ((a1 + 2) - (a1 + 2) / 3 * 3)).bind fun x68 => (gO h (.ref o) 14 51).bind fun x70 => (ldJ h (.ref x70) (3 + ((a1 + 1) - (a1 + 1) / 3 * 3))).bind fun x76 => some (.inl (some (.long ((x51 * x60) - (x68 * x76)))), h)))))
section
variable {p : Program} {l : Launch} {e : Env} {s : State} {m : MethodId} {args : Array Value} {below : List Frame} {meth : Method} {c : Code} {D : va_G} {B0 : Nat} {X : Nat → Nat} {ws0 : va_W} {r : aR} {h' : aH} {mc ms : Nat}
theorem hy_X14_last : yX14_last.cls ≠ "java/lang/invoke/MethodHandle" ∧ yX14_last.cls ≠ "java/lang/invoke/VarHandle" ∧ (parseMethodDescriptor yX14_last.desc).map (fun d => d.parameters.length) = some 2 := by decide +kernel
theorem T_X14_last (o : Nat) (a1 : Int32) (a2 : Int32) (h : aH) (r : aR) (h' : aH) (hs : s_X14_last o a1 a2 h = some (r, h')) : Mt yX14_last (Cond.code yX14_last cX14_last 5 (some .long) :: aTB) 0 0 0 0 [.ref o, .int a1, .int a2] h r h' := by
  unfold s_X14_last at hs
  refine Mt_of (k := 2) (by decide) rfl (fun p l e s m args below meth c D B0 X ws0 C => ?_)
  show Ev p l e { frames := 0, cells := 0, slots := 0, locals := 0 } s m args below meth c D B0 X ws0 r h' 0 0 5 0 0 0 [some (.ref o), some (.int a1), some (.int a2), none, none] [] h
  refine ev_iload_n C rfl dX14_last_0 ?_
  refine ev_iconst C (v := 1) dX14_last_1 (by decide) ?_
  refine ev_icmp_ne C (tgt := 7) (by decide) dX14_last_2 (fun q2 => ?_) (fun q2 => ?_)
  · replace hs := (if_neg q2).symm.trans hs
    refine ev_iload_n C rfl dX14_last_7 ?_
    refine ev_iconst C (v := 2) dX14_last_8 (by decide) ?_
    refine ev_icmp_ne C (tgt := 33) (by decide) dX14_last_9 (fun q9 => ?_) (fun q9 => ?_)
    · replace hs := (if_neg q9).symm.trans hs
      refine ev_iload_n C rfl dX14_last_33 ?_
      refine ev_iconst C (v := 1) dX14_last_34 (by decide) ?_
      refine ev_iadd C dX14_last_35 ?_
      refine ev_iconst C (v := 3) dX14_last_36 (by decide) ?_
      obtain ⟨n37, hs⟩ := nz_at hs
      refine ev_irem C n37 dX14_last_37 ?_
      refine ev_istore_n C (by decide) dX14_last_38 ?_
      refine ev_iload_n C rfl dX14_last_39 ?_
      refine ev_iconst C (v := 2) dX14_last_40 (by decide) ?_
      refine ev_iadd C dX14_last_41 ?_
      refine ev_iconst C (v := 3) dX14_last_42 (by decide) ?_
      obtain ⟨n43, hs⟩ := nz_at hs
      refine ev_irem C n43 dX14_last_43 ?_
      refine ev_istore C (by decide) dX14_last_44 ?_
      refine ev_aload_n C (x := .ref o) rfl trivial dX14_last_46 ?_
      obtain ⟨x47, e47, hs⟩ := aB hs
      refine ev_get C (ci := 14) (k := 51) rfl wu_14 (by decide) wf_X14_109 (gO_F e47) dX14_last_47 ?_
      refine ev_iload_n C rfl dX14_last_50 ?_
      obtain ⟨x51, e51, hs⟩ := aB hs
      refine ev_lald C e51 dX14_last_51 ?_
      refine ev_aload_n C (x := .ref o) rfl trivial dX14_last_52 ?_
      obtain ⟨x53, e53, hs⟩ := aB hs
      refine ev_get C (ci := 14) (k := 51) rfl wu_14 (by decide) wf_X14_109 (gO_F e53) dX14_last_53 ?_
      refine ev_iconst C (v := 3) dX14_last_56 (by decide) ?_
      refine ev_iload C rfl dX14_last_57 ?_
      refine ev_iadd C dX14_last_59 ?_
      obtain ⟨x60, e60, hs⟩ := aB hs
      refine ev_lald C e60 dX14_last_60 ?_
      refine ev_lmul C dX14_last_61 ?_
      refine ev_aload_n C (x := .ref o) rfl trivial dX14_last_62 ?_
      obtain ⟨x63, e63, hs⟩ := aB hs
      refine ev_get C (ci := 14) (k := 51) rfl wu_14 (by decide) wf_X14_109 (gO_F e63) dX14_last_63 ?_
      refine ev_iload C rfl dX14_last_66 ?_
      obtain ⟨x68, e68, hs⟩ := aB hs
      refine ev_lald C e68 dX14_last_68 ?_
      refine ev_aload_n C (x := .ref o) rfl trivial dX14_last_69 ?_
      obtain ⟨x70, e70, hs⟩ := aB hs
      refine ev_get C (ci := 14) (k := 51) rfl wu_14 (by decide) wf_X14_109 (gO_F e70) dX14_last_70 ?_
      refine ev_iconst C (v := 3) dX14_last_73 (by decide) ?_
      refine ev_iload_n C rfl dX14_last_74 ?_
      refine ev_iadd C dX14_last_75 ?_
      obtain ⟨x76, e76, hs⟩ := aB hs
      refine ev_lald C e76 dX14_last_76 ?_
      refine ev_lmul C dX14_last_77 ?_
      refine ev_lsub C dX14_last_78 ?_
      cases hs
      exact ev_lret C rfl rfl (Nat.le_refl _) (Nat.le_refl _) rfl dX14_last_79
    · replace hs := (if_pos q9).symm.trans hs
      refine ev_iload_n C rfl dX14_last_12 ?_
      refine ev_if_ne C (tgt := 26) (by decide) dX14_last_13 (fun q13 => ?_) (fun q13 => ?_)
      · replace hs := (if_neg q13).symm.trans hs
        refine ev_aload_n C (x := .ref o) rfl trivial dX14_last_26 ?_
        obtain ⟨x27, e27, hs⟩ := aB hs
        refine ev_get C (ci := 14) (k := 51) rfl wu_14 (by decide) wf_X14_109 (gO_F e27) dX14_last_27 ?_
        refine ev_iconst C (v := 0) dX14_last_30 (by decide) ?_
        obtain ⟨x31, e31, hs⟩ := aB hs
        refine ev_lald C e31 dX14_last_31 ?_
        cases hs
        exact ev_lret C rfl rfl (Nat.le_refl _) (Nat.le_refl _) rfl dX14_last_32
      · replace hs := (if_pos q13).symm.trans hs
        refine ev_aload_n C (x := .ref o) rfl trivial dX14_last_16 ?_
        obtain ⟨x17, e17, hs⟩ := aB hs
        refine ev_get C (ci := 14) (k := 51) rfl wu_14 (by decide) wf_X14_109 (gO_F e17) dX14_last_17 ?_
        refine ev_iconst C (v := 1) dX14_last_20 (by decide) ?_
        obtain ⟨x21, e21, hs⟩ := aB hs
        refine ev_lald C e21 dX14_last_21 ?_
        refine ev_lneg C dX14_last_22 ?_
        refine ev_goto C (tgt := 32) (by decide) dX14_last_23 ?_
        cases hs
        exact ev_lret C rfl rfl (Nat.le_refl _) (Nat.le_refl _) rfl dX14_last_32
  · replace hs := (if_pos q2).symm.trans hs
    refine ev_lconst C (v := 1) dX14_last_5 (by decide) ?_
    cases hs
    exact ev_lret C rfl rfl (Nat.le_refl _) (Nat.le_refl _) rfl dX14_last_6
end
-- X14_reduces
theorem dX14_reduces_0 : decode cX14_reduces 0 = .ok (.aload_n 0, 1) := by decide +kernel
theorem dX14_reduces_1 : decode cX14_reduces 1 = .ok (.getfield 112, 3) := by decide +kernel
theorem dX14_reduces_4 : decode cX14_reduces 4 = .ok (.iload_n 1, 1) := by decide +kernel
theorem dX14_reduces_5 : decode cX14_reduces 5 = .ok (.laload, 1) := by decide +kernel
theorem dX14_reduces_6 : decode cX14_reduces 6 = .ok (.invokestatic 596, 3) := by decide +kernel
theorem dX14_reduces_9 : decode cX14_reduces 9 = .ok (.lstore_n 2, 1) := by decide +kernel
theorem dX14_reduces_10 : decode cX14_reduces 10 = .ok (.aload_n 0, 1) := by decide +kernel
theorem dX14_reduces_11 : decode cX14_reduces 11 = .ok (.getfield 115, 3) := by decide +kernel
theorem dX14_reduces_14 : decode cX14_reduces 14 = .ok (.iload_n 1, 1) := by decide +kernel
theorem dX14_reduces_15 : decode cX14_reduces 15 = .ok (.laload, 1) := by decide +kernel
theorem dX14_reduces_16 : decode cX14_reduces 16 = .ok (.invokestatic 596, 3) := by decide +kernel
theorem dX14_reduces_19 : decode cX14_reduces 19 = .ok (.lstore 4, 2) := by decide +kernel
theorem dX14_reduces_21 : decode cX14_reduces 21 = .ok (.lload_n 2, 1) := by decide +kernel
theorem dX14_reduces_22 : decode cX14_reduces 22 = .ok (.lconst 0, 1) := by decide +kernel
theorem dX14_reduces_23 : decode cX14_reduces 23 = .ok (.lcmp, 1) := by decide +kernel
theorem dX14_reduces_24 : decode cX14_reduces 24 = .ok (.ifCond .le 18, 3) := by decide +kernel
theorem dX14_reduces_27 : decode cX14_reduces 27 = .ok (.lload 4, 2) := by decide +kernel
theorem dX14_reduces_29 : decode cX14_reduces 29 = .ok (.lload_n 2, 1) := by decide +kernel
theorem dX14_reduces_30 : decode cX14_reduces 30 = .ok (.lrem, 1) := by decide +kernel
theorem dX14_reduces_31 : decode cX14_reduces 31 = .ok (.lstore 6, 2) := by decide +kernel
theorem dX14_reduces_33 : decode cX14_reduces 33 = .ok (.lload_n 2, 1) := by decide +kernel
theorem dX14_reduces_34 : decode cX14_reduces 34 = .ok (.lstore 4, 2) := by decide +kernel
theorem dX14_reduces_36 : decode cX14_reduces 36 = .ok (.lload 6, 2) := by decide +kernel
theorem dX14_reduces_38 : decode cX14_reduces 38 = .ok (.lstore_n 2, 1) := by decide +kernel
theorem dX14_reduces_39 : decode cX14_reduces 39 = .ok (.goto (-18), 3) := by decide +kernel
theorem dX14_reduces_42 : decode cX14_reduces 42 = .ok (.aload_n 0, 1) := by decide +kernel
theorem dX14_reduces_43 : decode cX14_reduces 43 = .ok (.getfield 115, 3) := by decide +kernel
theorem dX14_reduces_46 : decode cX14_reduces 46 = .ok (.iload_n 1, 1) := by decide +kernel
theorem dX14_reduces_47 : decode cX14_reduces 47 = .ok (.laload, 1) := by decide +kernel
theorem dX14_reduces_48 : decode cX14_reduces 48 = .ok (.lconst 0, 1) := by decide +kernel
theorem dX14_reduces_49 : decode cX14_reduces 49 = .ok (.lcmp, 1) := by decide +kernel
theorem dX14_reduces_50 : decode cX14_reduces 50 = .ok (.ifCond .ge 8, 3) := by decide +kernel
theorem dX14_reduces_53 : decode cX14_reduces 53 = .ok (.lload 4, 2) := by decide +kernel
theorem dX14_reduces_55 : decode cX14_reduces 55 = .ok (.lneg, 1) := by decide +kernel
theorem dX14_reduces_56 : decode cX14_reduces 56 = .ok (.lstore 4, 2) := by decide +kernel
theorem dX14_reduces_58 : decode cX14_reduces 58 = .ok (.aload_n 0, 1) := by decide +kernel
theorem dX14_reduces_59 : decode cX14_reduces 59 = .ok (.getfield 112, 3) := by decide +kernel
theorem dX14_reduces_62 : decode cX14_reduces 62 = .ok (.iload_n 1, 1) := by decide +kernel
theorem dX14_reduces_63 : decode cX14_reduces 63 = .ok (.dup2, 1) := by decide +kernel
theorem dX14_reduces_64 : decode cX14_reduces 64 = .ok (.laload, 1) := by decide +kernel
theorem dX14_reduces_65 : decode cX14_reduces 65 = .ok (.lload 4, 2) := by decide +kernel
theorem dX14_reduces_67 : decode cX14_reduces 67 = .ok (.ldiv, 1) := by decide +kernel
theorem dX14_reduces_68 : decode cX14_reduces 68 = .ok (.lastore, 1) := by decide +kernel
theorem dX14_reduces_69 : decode cX14_reduces 69 = .ok (.aload_n 0, 1) := by decide +kernel
theorem dX14_reduces_70 : decode cX14_reduces 70 = .ok (.getfield 115, 3) := by decide +kernel
theorem dX14_reduces_73 : decode cX14_reduces 73 = .ok (.iload_n 1, 1) := by decide +kernel
theorem dX14_reduces_74 : decode cX14_reduces 74 = .ok (.dup2, 1) := by decide +kernel
theorem dX14_reduces_75 : decode cX14_reduces 75 = .ok (.laload, 1) := by decide +kernel
theorem dX14_reduces_76 : decode cX14_reduces 76 = .ok (.lload 4, 2) := by decide +kernel
theorem dX14_reduces_78 : decode cX14_reduces 78 = .ok (.ldiv, 1) := by decide +kernel
theorem dX14_reduces_79 : decode cX14_reduces 79 = .ok (.lastore, 1) := by decide +kernel
theorem dX14_reduces_80 : decode cX14_reduces 80 = .ok (.return_, 1) := by decide +kernel
def s_X14_reduces_58  (l0 : Nat) (l1 : Int32) (l4 : Int64) (h : aH) : aO :=
  (gO h (.ref l0) 14 52).bind fun x59 => (ldJ h (.ref x59) l1).bind fun x64 => nzL l4 ((stJ h (.ref x59) l1 (x64 / l4)).bind fun h68 => (gO h68 (.ref l0) 14 53).bind fun x70 => (ldJ h68 (.ref x70) l1).bind fun x75 => nzL l4 ((stJ h68 (.ref x70) l1 (x75 / l4)).bind fun h79 => some (.inl none, h79)))
def s_X14_reduces_21_b  (k21 : Nat → Int32 → Int64 → Int64 → aH → aO) (l0 : Nat) (l1 : Int32) (l2 : Int64) (l4 : Int64) (h : aH) : aO :=
  if (lg_cmp l2 0) ≤ 0 then ((gO h (.ref l0) 14 53).bind fun x43 => (ldJ h (.ref x43) l1).bind fun x47 => if 0 ≤ (lg_cmp x47 0) then (s_X14_reduces_58 l0 l1 l4 h) else (s_X14_reduces_58 l0 l1 (-l4) h)) else (nzL l2 (k21 l0 l1 (l4 - l4 / l2 * l2) l2 h))
def s_X14_reduces_21  (n : Nat) : Nat → Int32 → Int64 → Int64 → aH → aO := lpF (fun _ _ _ _ _ => none) (s_X14_reduces_21_b ) n
def s_X14_reduces (o : Nat) (a1 : Int32) (h : aH) : aO :=
  (gO h (.ref o) 14 52).bind fun x1 => (ldJ h (.ref x1) a1).bind fun x5 => (gO h (.ref o) 14 53).bind fun x11 => (ldJ h (.ref x11) a1).bind fun x15 => s_X14_reduces_21 FU o a1 (jabsL x5) (jabsL x15) h
section
variable {p : Program} {l : Launch} {e : Env} {s : State} {m : MethodId} {args : Array Value} {below : List Frame} {meth : Method} {c : Code} {D : va_G} {B0 : Nat} {X : Nat → Nat} {ws0 : va_W} {r : aR} {h' : aH} {mc ms : Nat}
theorem t_X14_reduces_58 (C : Cx p l s m args meth c B0 X RX14 "reduces" cX14_reduces 8 none [])   {l0 : Nat} {l1 : Int32} {l4 : Int64} {h : aH} (hs : s_X14_reduces_58  l0 l1 l4 h = some (r, h')) : Ev p l e { frames := 1, cells := mc, slots := ms, locals := 23 } s m args below meth c D B0 X ws0 r h' mc ms 8 mc ms 58 [some (.ref l0), some (.int l1), none, none, some (.long l4), none, none, none] [] h := by
  unfold s_X14_reduces_58 at hs
  refine ev_aload_n C (x := .ref l0) rfl trivial dX14_reduces_58 ?_
  obtain ⟨x59, e59, hs⟩ := aB hs
  refine ev_get C (ci := 14) (k := 52) rfl wu_14 (by decide) wf_X14_112 (gO_F e59) dX14_reduces_59 ?_
  refine ev_iload_n C rfl dX14_reduces_62 ?_
  refine ev_dup2 C rfl rfl dX14_reduces_63 ?_
  obtain ⟨x64, e64, hs⟩ := aB hs
  refine ev_lald C e64 dX14_reduces_64 ?_
  refine ev_lload C rfl dX14_reduces_65 ?_
  obtain ⟨n67, hs⟩ := nzL_at hs
  refine ev_ldiv C n67 dX14_reduces_67 ?_
  obtain ⟨h68, e68, hs⟩ := aB hs
  refine ev_last C e68 dX14_reduces_68 ?_
  refine ev_aload_n C (x := .ref l0) rfl trivial dX14_reduces_69 ?_
  obtain ⟨x70, e70, hs⟩ := aB hs
  refine ev_get C (ci := 14) (k := 53) rfl wu_14 (by decide) wf_X14_115 (gO_F e70) dX14_reduces_70 ?_
  refine ev_iload_n C rfl dX14_reduces_73 ?_
  refine ev_dup2 C rfl rfl dX14_reduces_74 ?_
  obtain ⟨x75, e75, hs⟩ := aB hs
  refine ev_lald C e75 dX14_reduces_75 ?_
  refine ev_lload C rfl dX14_reduces_76 ?_
  obtain ⟨n78, hs⟩ := nzL_at hs
  refine ev_ldiv C n78 dX14_reduces_78 ?_
  obtain ⟨h79, e79, hs⟩ := aB hs
  refine ev_last C e79 dX14_reduces_79 ?_
  cases hs
  exact ev_vret C rfl rfl (Nat.le_refl _) (Nat.le_refl _) rfl dX14_reduces_80
theorem t_X14_reduces_21_b (C : Cx p l s m args meth c B0 X RX14 "reduces" cX14_reduces 8 none [])   {k21 : Nat → Int32 → Int64 → Int64 → aH → aO} (K21 : ∀ (l0 : Nat) (l1 : Int32) (l2 : Int64) (l4 : Int64) (h : aH), k21 l0 l1 l2 l4 h = some (r, h') → Ev p l e { frames := 1, cells := mc, slots := ms, locals := 23 } s m args below meth c D B0 X ws0 r h' mc ms 8 mc ms 21 [some (.ref l0), some (.int l1), some (.long l2), none, some (.long l4), none, none, none] [] h) {l0 : Nat} {l1 : Int32} {l2 : Int64} {l4 : Int64} {h : aH} (hs : s_X14_reduces_21_b  k21 l0 l1 l2 l4 h = some (r, h')) : Ev p l e { frames := 1, cells := mc, slots := ms, locals := 23 } s m args below meth c D B0 X ws0 r h' mc ms 8 mc ms 21 [some (.ref l0), some (.int l1), some (.long l2), none, some (.long l4), none, none, none] [] h := by
  unfold s_X14_reduces_21_b at hs
  refine ev_lload_n C rfl dX14_reduces_21 ?_
  refine ev_lconst C (v := 0) dX14_reduces_22 (by decide) ?_
  refine ev_lcmp C dX14_reduces_23 ?_
  refine ev_if_le C (tgt := 42) (by decide) dX14_reduces_24 (fun q24 => ?_) (fun q24 => ?_)
  · replace hs := (if_pos q24).symm.trans hs
    refine ev_aload_n C (x := .ref l0) rfl trivial dX14_reduces_42 ?_
    obtain ⟨x43, e43, hs⟩ := aB hs
    refine ev_get C (ci := 14) (k := 53) rfl wu_14 (by decide) wf_X14_115 (gO_F e43) dX14_reduces_43 ?_
    refine ev_iload_n C rfl dX14_reduces_46 ?_
    obtain ⟨x47, e47, hs⟩ := aB hs
    refine ev_lald C e47 dX14_reduces_47 ?_
    refine ev_lconst C (v := 0) dX14_reduces_48 (by decide) ?_
    refine ev_lcmp C dX14_reduces_49 ?_
    refine ev_if_ge C (tgt := 58) (by decide) dX14_reduces_50 (fun q50 => ?_) (fun q50 => ?_)
    · replace hs := (if_pos q50).symm.trans hs
      exact Ev.keep [true, true, false, true, true, true, true, true] (t_X14_reduces_58 C  hs)
    · replace hs := (if_neg q50).symm.trans hs
      refine ev_lload C rfl dX14_reduces_53 ?_
      refine ev_lneg C dX14_reduces_55 ?_
      refine ev_lstore C (by decide) dX14_reduces_56 ?_
      exact Ev.keep [true, true, false, true, true, true, true, true] (t_X14_reduces_58 C  hs)
  · replace hs := (if_neg q24).symm.trans hs
    refine ev_lload C rfl dX14_reduces_27 ?_
    refine ev_lload_n C rfl dX14_reduces_29 ?_
    obtain ⟨n30, hs⟩ := nzL_at hs
    refine ev_lrem C n30 dX14_reduces_30 ?_
    refine ev_lstore C (by decide) dX14_reduces_31 ?_
    refine ev_lload_n C rfl dX14_reduces_33 ?_
    refine ev_lstore C (by decide) dX14_reduces_34 ?_
    refine ev_lload C rfl dX14_reduces_36 ?_
    refine ev_lstore_n C (by decide) dX14_reduces_38 ?_
    refine ev_goto C (tgt := 21) (by decide) dX14_reduces_39 ?_
    exact Ev.keep [true, true, true, true, true, true, false, true] (K21 _ _ _ _ _ hs)
theorem t_X14_reduces_21 (C : Cx p l s m args meth c B0 X RX14 "reduces" cX14_reduces 8 none [])   : ∀ (n : Nat) {l0 : Nat} {l1 : Int32} {l2 : Int64} {l4 : Int64} {h : aH} (hs : s_X14_reduces_21  n l0 l1 l2 l4 h = some (r, h')), Ev p l e { frames := 1, cells := mc, slots := ms, locals := 23 } s m args below meth c D B0 X ws0 r h' mc ms 8 mc ms 21 [some (.ref l0), some (.int l1), some (.long l2), none, some (.long l4), none, none, none] [] h
  | 0, _, _, _, _, _, hs => nomatch hs
  | n + 1, _, _, _, _, _, hs => t_X14_reduces_21_b C  (k21 := s_X14_reduces_21  n) (fun _ _ _ _ _ hs => t_X14_reduces_21 C  n hs) hs
theorem hy_X14_reduces : yX14_reduces.cls ≠ "java/lang/invoke/MethodHandle" ∧ yX14_reduces.cls ≠ "java/lang/invoke/VarHandle" ∧ (parseMethodDescriptor yX14_reduces.desc).map (fun d => d.parameters.length) = some 1 := by decide +kernel
theorem T_X14_reduces (o : Nat) (a1 : Int32) (h : aH) (r : aR) (h' : aH) (hs : s_X14_reduces o a1 h = some (r, h')) : Mt yX14_reduces (Cond.code yX14_reduces cX14_reduces 8 none :: aTB) 1 23 0 0 [.ref o, .int a1] h r h' := by
  unfold s_X14_reduces at hs
  refine Mt_of (k := 6) (by decide) rfl (fun p l e s m args below meth c D B0 X ws0 C => ?_)
  show Ev p l e { frames := 1, cells := 0, slots := 0, locals := 23 } s m args below meth c D B0 X ws0 r h' 0 0 8 0 0 0 [some (.ref o), some (.int a1), none, none, none, none, none, none] [] h
  refine ev_aload_n C (x := .ref o) rfl trivial dX14_reduces_0 ?_
  obtain ⟨x1, e1, hs⟩ := aB hs
  refine ev_get C (ci := 14) (k := 52) rfl wu_14 (by decide) wf_X14_112 (gO_F e1) dX14_reduces_1 ?_
  refine ev_iload_n C rfl dX14_reduces_4 ?_
  obtain ⟨x5, e5, hs⟩ := aB hs
  refine ev_lald C e5 dX14_reduces_5 ?_
  refine ev_mabsL C wm_X14_596 wt_mabsL wz_J9 wc_mabsL (Nat.le_of_ble_eq_true rfl) (Nat.le_of_ble_eq_true rfl) (Nat.le_refl _) (Nat.le_refl _) dX14_reduces_6 ?_
  refine ev_lstore_n C (by decide) dX14_reduces_9 ?_
  refine ev_aload_n C (x := .ref o) rfl trivial dX14_reduces_10 ?_
  obtain ⟨x11, e11, hs⟩ := aB hs
  refine ev_get C (ci := 14) (k := 53) rfl wu_14 (by decide) wf_X14_115 (gO_F e11) dX14_reduces_11 ?_
  refine ev_iload_n C rfl dX14_reduces_14 ?_
  obtain ⟨x15, e15, hs⟩ := aB hs
  refine ev_lald C e15 dX14_reduces_15 ?_
  refine ev_mabsL C wm_X14_596 wt_mabsL wz_J9 wc_mabsL (Nat.le_of_ble_eq_true rfl) (Nat.le_of_ble_eq_true rfl) (Nat.le_refl _) (Nat.le_refl _) dX14_reduces_16 ?_
  refine ev_lstore C (by decide) dX14_reduces_19 ?_
  exact (t_X14_reduces_21 C  FU hs)
end
-- X14_place
theorem dX14_place_0 : decode cX14_place 0 = .ok (.aload_n 0, 1) := by decide +kernel
theorem dX14_place_1 : decode cX14_place 1 = .ok (.iconst 0, 1) := by decide +kernel
theorem dX14_place_2 : decode cX14_place 2 = .ok (.putfield 154, 3) := by decide +kernel
theorem dX14_place_5 : decode cX14_place 5 = .ok (.aload_n 0, 1) := by decide +kernel
theorem dX14_place_6 : decode cX14_place 6 = .ok (.getfield 376, 3) := by decide +kernel
theorem dX14_place_9 : decode cX14_place 9 = .ok (.ifnonnull 9, 3) := by decide +kernel
theorem dX14_place_12 : decode cX14_place 12 = .ok (.aload_n 0, 1) := by decide +kernel
theorem dX14_place_13 : decode cX14_place 13 = .ok (.iconst 1, 1) := by decide +kernel
theorem dX14_place_14 : decode cX14_place 14 = .ok (.invokevirtual 360, 3) := by decide +kernel
theorem dX14_place_17 : decode cX14_place 17 = .ok (.ireturn, 1) := by decide +kernel
theorem dX14_place_18 : decode cX14_place 18 = .ok (.aload_n 0, 1) := by decide +kernel
theorem dX14_place_19 : decode cX14_place 19 = .ok (.getfield 376, 3) := by decide +kernel
theorem dX14_place_22 : decode cX14_place 22 = .ok (.getfield 252, 3) := by decide +kernel
theorem dX14_place_25 : decode cX14_place 25 = .ok (.iconst 0, 1) := by decide +kernel
theorem dX14_place_26 : decode cX14_place 26 = .ok (.iaload, 1) := by decide +kernel
theorem dX14_place_27 : decode cX14_place 27 = .ok (.istore 4, 2) := by decide +kernel
theorem dX14_place_29 : decode cX14_place 29 = .ok (.iload_n 1, 1) := by decide +kernel
theorem dX14_place_30 : decode cX14_place 30 = .ok (.sipush (-999), 3) := by decide +kernel
theorem dX14_place_33 : decode cX14_place 33 = .ok (.sipush 999, 3) := by decide +kernel
theorem dX14_place_36 : decode cX14_place 36 = .ok (.invokestatic 313, 3) := by decide +kernel
theorem dX14_place_39 : decode cX14_place 39 = .ok (.ifCond .eq 41, 3) := by decide +kernel
theorem dX14_place_42 : decode cX14_place 42 = .ok (.iload 4, 2) := by decide +kernel
theorem dX14_place_44 : decode cX14_place 44 = .ok (.iconst 1, 1) := by decide +kernel
theorem dX14_place_45 : decode cX14_place 45 = .ok (.if_icmp .le 16, 3) := by decide +kernel
theorem dX14_place_48 : decode cX14_place 48 = .ok (.iload_n 2, 1) := by decide +kernel
theorem dX14_place_49 : decode cX14_place 49 = .ok (.sipush (-999), 3) := by decide +kernel
theorem dX14_place_52 : decode cX14_place 52 = .ok (.sipush 999, 3) := by decide +kernel
theorem dX14_place_55 : decode cX14_place 55 = .ok (.invokestatic 313, 3) := by decide +kernel
theorem dX14_place_58 : decode cX14_place 58 = .ok (.ifCond .eq 22, 3) := by decide +kernel
theorem dX14_place_61 : decode cX14_place 61 = .ok (.iload 4, 2) := by decide +kernel
theorem dX14_place_63 : decode cX14_place 63 = .ok (.iconst 2, 1) := by decide +kernel
theorem dX14_place_64 : decode cX14_place 64 = .ok (.if_icmp .le 22, 3) := by decide +kernel
theorem dX14_place_67 : decode cX14_place 67 = .ok (.iload_n 3, 1) := by decide +kernel
theorem dX14_place_68 : decode cX14_place 68 = .ok (.sipush (-999), 3) := by decide +kernel
theorem dX14_place_71 : decode cX14_place 71 = .ok (.sipush 999, 3) := by decide +kernel
theorem dX14_place_74 : decode cX14_place 74 = .ok (.invokestatic 313, 3) := by decide +kernel
theorem dX14_place_77 : decode cX14_place 77 = .ok (.ifCond .ne 9, 3) := by decide +kernel
theorem dX14_place_80 : decode cX14_place 80 = .ok (.aload_n 0, 1) := by decide +kernel
theorem dX14_place_81 : decode cX14_place 81 = .ok (.iconst 2, 1) := by decide +kernel
theorem dX14_place_82 : decode cX14_place 82 = .ok (.invokevirtual 360, 3) := by decide +kernel
theorem dX14_place_85 : decode cX14_place 85 = .ok (.ireturn, 1) := by decide +kernel
theorem dX14_place_86 : decode cX14_place 86 = .ok (.aload_n 0, 1) := by decide +kernel
theorem dX14_place_87 : decode cX14_place 87 = .ok (.invokevirtual 468, 3) := by decide +kernel
theorem dX14_place_90 : decode cX14_place 90 = .ok (.ifCond .eq 30, 3) := by decide +kernel
theorem dX14_place_93 : decode cX14_place 93 = .ok (.aload_n 0, 1) := by decide +kernel
theorem dX14_place_94 : decode cX14_place 94 = .ok (.getfield 376, 3) := by decide +kernel
theorem dX14_place_97 : decode cX14_place 97 = .ok (.getfield 252, 3) := by decide +kernel
theorem dX14_place_100 : decode cX14_place 100 = .ok (.iconst 1, 1) := by decide +kernel
theorem dX14_place_101 : decode cX14_place 101 = .ok (.iaload, 1) := by decide +kernel
theorem dX14_place_102 : decode cX14_place 102 = .ok (.iconst 1, 1) := by decide +kernel
theorem dX14_place_103 : decode cX14_place 103 = .ok (.if_icmp .ne 17, 3) := by decide +kernel
theorem dX14_place_106 : decode cX14_place 106 = .ok (.aload_n 0, 1) := by decide +kernel
theorem dX14_place_107 : decode cX14_place 107 = .ok (.aload_n 0, 1) := by decide +kernel
theorem dX14_place_108 : decode cX14_place 108 = .ok (.iconst 0, 1) := by decide +kernel
theorem dX14_place_109 : decode cX14_place 109 = .ok (.invokevirtual 570, 3) := by decide +kernel
theorem dX14_place_112 : decode cX14_place 112 = .ok (.invokevirtual 574, 3) := by decide +kernel
theorem dX14_place_115 : decode cX14_place 115 = .ok (.iload 4, 2) := by decide +kernel
theorem dX14_place_117 : decode cX14_place 117 = .ok (.if_icmp .eq 9, 3) := by decide +kernel
theorem dX14_place_120 : decode cX14_place 120 = .ok (.aload_n 0, 1) := by decide +kernel
theorem dX14_place_121 : decode cX14_place 121 = .ok (.iconst 5, 1) := by decide +kernel
theorem dX14_place_122 : decode cX14_place 122 = .ok (.invokevirtual 360, 3) := by decide +kernel
theorem dX14_place_125 : decode cX14_place 125 = .ok (.ireturn, 1) := by decide +kernel
theorem dX14_place_126 : decode cX14_place 126 = .ok (.iconst 0, 1) := by decide +kernel
theorem dX14_place_127 : decode cX14_place 127 = .ok (.istore 5, 2) := by decide +kernel
theorem dX14_place_129 : decode cX14_place 129 = .ok (.iload 5, 2) := by decide +kernel
theorem dX14_place_131 : decode cX14_place 131 = .ok (.bipush 9, 2) := by decide +kernel
theorem dX14_place_133 : decode cX14_place 133 = .ok (.if_icmp .ge 40, 3) := by decide +kernel
theorem dX14_place_136 : decode cX14_place 136 = .ok (.aload_n 0, 1) := by decide +kernel
theorem dX14_place_137 : decode cX14_place 137 = .ok (.getfield 118, 3) := by decide +kernel
theorem dX14_place_140 : decode cX14_place 140 = .ok (.iload 5, 2) := by decide +kernel
theorem dX14_place_142 : decode cX14_place 142 = .ok (.iload 5, 2) := by decide +kernel
theorem dX14_place_144 : decode cX14_place 144 = .ok (.iconst 3, 1) := by decide +kernel
theorem dX14_place_145 : decode cX14_place 145 = .ok (.idiv, 1) := by decide +kernel
theorem dX14_place_146 : decode cX14_place 146 = .ok (.iload 5, 2) := by decide +kernel
theorem dX14_place_148 : decode cX14_place 148 = .ok (.iconst 3, 1) := by decide +kernel
theorem dX14_place_149 : decode cX14_place 149 = .ok (.irem, 1) := by decide +kernel
theorem dX14_place_150 : decode cX14_place 150 = .ok (.if_icmp .ne 7, 3) := by decide +kernel
theorem dX14_place_153 : decode cX14_place 153 = .ok (.lconst 1, 1) := by decide +kernel
theorem dX14_place_154 : decode cX14_place 154 = .ok (.goto 4, 3) := by decide +kernel
theorem dX14_place_157 : decode cX14_place 157 = .ok (.lconst 0, 1) := by decide +kernel
theorem dX14_place_158 : decode cX14_place 158 = .ok (.lastore, 1) := by decide +kernel
theorem dX14_place_159 : decode cX14_place 159 = .ok (.aload_n 0, 1) := by decide +kernel
theorem dX14_place_160 : decode cX14_place 160 = .ok (.getfield 121, 3) := by decide +kernel
theorem dX14_place_163 : decode cX14_place 163 = .ok (.iload 5, 2) := by decide +kernel
theorem dX14_place_165 : decode cX14_place 165 = .ok (.lconst 0, 1) := by decide +kernel
theorem dX14_place_166 : decode cX14_place 166 = .ok (.lastore, 1) := by decide +kernel
theorem dX14_place_167 : decode cX14_place 167 = .ok (.iinc 5 1, 3) := by decide +kernel
theorem dX14_place_170 : decode cX14_place 170 = .ok (.goto (-41), 3) := by decide +kernel
theorem dX14_place_173 : decode cX14_place 173 = .ok (.iconst 0, 1) := by decide +kernel
theorem dX14_place_174 : decode cX14_place 174 = .ok (.istore 5, 2) := by decide +kernel
theorem dX14_place_176 : decode cX14_place 176 = .ok (.iload 5, 2) := by decide +kernel
theorem dX14_place_178 : decode cX14_place 178 = .ok (.iload 4, 2) := by decide +kernel
theorem dX14_place_180 : decode cX14_place 180 = .ok (.if_icmp .gt 85, 3) := by decide +kernel
theorem dX14_place_183 : decode cX14_place 183 = .ok (.iload 5, 2) := by decide +kernel
theorem dX14_place_185 : decode cX14_place 185 = .ok (.iload 4, 2) := by decide +kernel
theorem dX14_place_187 : decode cX14_place 187 = .ok (.if_icmp .ne 7, 3) := by decide +kernel
theorem dX14_place_190 : decode cX14_place 190 = .ok (.lconst 1, 1) := by decide +kernel
theorem dX14_place_191 : decode cX14_place 191 = .ok (.goto 26, 3) := by decide +kernel
theorem dX14_place_194 : decode cX14_place 194 = .ok (.iload 5, 2) := by decide +kernel
theorem dX14_place_196 : decode cX14_place 196 = .ok (.ifCond .ne 8, 3) := by decide +kernel
theorem dX14_place_199 : decode cX14_place 199 = .ok (.iload_n 1, 1) := by decide +kernel
theorem dX14_place_200 : decode cX14_place 200 = .ok (.i2l, 1) := by decide +kernel
theorem dX14_place_201 : decode cX14_place 201 = .ok (.goto 16, 3) := by decide +kernel
theorem dX14_place_204 : decode cX14_place 204 = .ok (.iload 5, 2) := by decide +kernel
theorem dX14_place_206 : decode cX14_place 206 = .ok (.iconst 1, 1) := by decide +kernel
theorem dX14_place_207 : decode cX14_place 207 = .ok (.if_icmp .ne 8, 3) := by decide +kernel
theorem dX14_place_210 : decode cX14_place 210 = .ok (.iload_n 2, 1) := by decide +kernel
theorem dX14_place_211 : decode cX14_place 211 = .ok (.i2l, 1) := by decide +kernel
theorem dX14_place_212 : decode cX14_place 212 = .ok (.goto 5, 3) := by decide +kernel
theorem dX14_place_215 : decode cX14_place 215 = .ok (.iload_n 3, 1) := by decide +kernel
theorem dX14_place_216 : decode cX14_place 216 = .ok (.i2l, 1) := by decide +kernel
theorem dX14_place_217 : decode cX14_place 217 = .ok (.lstore 6, 2) := by decide +kernel
theorem dX14_place_219 : decode cX14_place 219 = .ok (.iconst 0, 1) := by decide +kernel
theorem dX14_place_220 : decode cX14_place 220 = .ok (.istore 8, 2) := by decide +kernel
theorem dX14_place_222 : decode cX14_place 222 = .ok (.iload 8, 2) := by decide +kernel
theorem dX14_place_224 : decode cX14_place 224 = .ok (.bipush 9, 2) := by decide +kernel
theorem dX14_place_226 : decode cX14_place 226 = .ok (.if_icmp .ge 29, 3) := by decide +kernel
theorem dX14_place_229 : decode cX14_place 229 = .ok (.aload_n 0, 1) := by decide +kernel
theorem dX14_place_230 : decode cX14_place 230 = .ok (.getfield 121, 3) := by decide +kernel
theorem dX14_place_233 : decode cX14_place 233 = .ok (.iload 8, 2) := by decide +kernel
theorem dX14_place_235 : decode cX14_place 235 = .ok (.dup2, 1) := by decide +kernel
theorem dX14_place_236 : decode cX14_place 236 = .ok (.laload, 1) := by decide +kernel
theorem dX14_place_237 : decode cX14_place 237 = .ok (.lload 6, 2) := by decide +kernel
theorem dX14_place_239 : decode cX14_place 239 = .ok (.aload_n 0, 1) := by decide +kernel
theorem dX14_place_240 : decode cX14_place 240 = .ok (.getfield 118, 3) := by decide +kernel
theorem dX14_place_243 : decode cX14_place 243 = .ok (.iload 8, 2) := by decide +kernel
theorem dX14_place_245 : decode cX14_place 245 = .ok (.laload, 1) := by decide +kernel
theorem dX14_place_246 : decode cX14_place 246 = .ok (.lmul, 1) := by decide +kernel
theorem dX14_place_247 : decode cX14_place 247 = .ok (.ladd, 1) := by decide +kernel
theorem dX14_place_248 : decode cX14_place 248 = .ok (.lastore, 1) := by decide +kernel
theorem dX14_place_249 : decode cX14_place 249 = .ok (.iinc 8 1, 3) := by decide +kernel
theorem dX14_place_252 : decode cX14_place 252 = .ok (.goto (-30), 3) := by decide +kernel
theorem dX14_place_255 : decode cX14_place 255 = .ok (.aload_n 0, 1) := by decide +kernel
theorem dX14_place_256 : decode cX14_place 256 = .ok (.invokevirtual 583, 3) := by decide +kernel
theorem dX14_place_259 : decode cX14_place 259 = .ok (.iinc 5 1, 3) := by decide +kernel
theorem dX14_place_262 : decode cX14_place 262 = .ok (.goto (-86), 3) := by decide +kernel
theorem dX14_place_265 : decode cX14_place 265 = .ok (.iload 4, 2) := by decide +kernel
theorem dX14_place_267 : decode cX14_place 267 = .ok (.iconst 1, 1) := by decide +kernel
theorem dX14_place_268 : decode cX14_place 268 = .ok (.if_icmp .ne 12, 3) := by decide +kernel
theorem dX14_place_271 : decode cX14_place 271 = .ok (.aload_n 0, 1) := by decide +kernel
theorem dX14_place_272 : decode cX14_place 272 = .ok (.getfield 109, 3) := by decide +kernel
theorem dX14_place_275 : decode cX14_place 275 = .ok (.iconst 0, 1) := by decide +kernel
theorem dX14_place_276 : decode cX14_place 276 = .ok (.laload, 1) := by decide +kernel
theorem dX14_place_277 : decode cX14_place 277 = .ok (.goto 46, 3) := by decide +kernel
theorem dX14_place_280 : decode cX14_place 280 = .ok (.iload 4, 2) := by decide +kernel
theorem dX14_place_282 : decode cX14_place 282 = .ok (.iconst 2, 1) := by decide +kernel
theorem dX14_place_283 : decode cX14_place 283 = .ok (.if_icmp .ne 33, 3) := by decide +kernel
theorem dX14_place_286 : decode cX14_place 286 = .ok (.aload_n 0, 1) := by decide +kernel
theorem dX14_place_287 : decode cX14_place 287 = .ok (.getfield 109, 3) := by decide +kernel
theorem dX14_place_290 : decode cX14_place 290 = .ok (.iconst 0, 1) := by decide +kernel
theorem dX14_place_291 : decode cX14_place 291 = .ok (.laload, 1) := by decide +kernel
theorem dX14_place_292 : decode cX14_place 292 = .ok (.aload_n 0, 1) := by decide +kernel
theorem dX14_place_293 : decode cX14_place 293 = .ok (.getfield 109, 3) := by decide +kernel
theorem dX14_place_296 : decode cX14_place 296 = .ok (.iconst 4, 1) := by decide +kernel
theorem dX14_place_297 : decode cX14_place 297 = .ok (.laload, 1) := by decide +kernel
theorem dX14_place_298 : decode cX14_place 298 = .ok (.lmul, 1) := by decide +kernel
theorem dX14_place_299 : decode cX14_place 299 = .ok (.aload_n 0, 1) := by decide +kernel
theorem dX14_place_300 : decode cX14_place 300 = .ok (.getfield 109, 3) := by decide +kernel
theorem dX14_place_303 : decode cX14_place 303 = .ok (.iconst 1, 1) := by decide +kernel
theorem dX14_place_304 : decode cX14_place 304 = .ok (.laload, 1) := by decide +kernel
theorem dX14_place_305 : decode cX14_place 305 = .ok (.aload_n 0, 1) := by decide +kernel
theorem dX14_place_306 : decode cX14_place 306 = .ok (.getfield 109, 3) := by decide +kernel
theorem dX14_place_309 : decode cX14_place 309 = .ok (.iconst 3, 1) := by decide +kernel
theorem dX14_place_310 : decode cX14_place 310 = .ok (.laload, 1) := by decide +kernel
theorem dX14_place_311 : decode cX14_place 311 = .ok (.lmul, 1) := by decide +kernel
theorem dX14_place_312 : decode cX14_place 312 = .ok (.lsub, 1) := by decide +kernel
theorem dX14_place_313 : decode cX14_place 313 = .ok (.goto 10, 3) := by decide +kernel
theorem dX14_place_316 : decode cX14_place 316 = .ok (.aload_n 0, 1) := by decide +kernel
theorem dX14_place_317 : decode cX14_place 317 = .ok (.iconst 0, 1) := by decide +kernel
theorem dX14_place_318 : decode cX14_place 318 = .ok (.iconst 1, 1) := by decide +kernel
theorem dX14_place_319 : decode cX14_place 319 = .ok (.iconst 2, 1) := by decide +kernel
theorem dX14_place_320 : decode cX14_place 320 = .ok (.invokevirtual 562, 3) := by decide +kernel
theorem dX14_place_323 : decode cX14_place 323 = .ok (.lstore 5, 2) := by decide +kernel
theorem dX14_place_325 : decode cX14_place 325 = .ok (.iconst 0, 1) := by decide +kernel
theorem dX14_place_326 : decode cX14_place 326 = .ok (.istore 7, 2) := by decide +kernel
theorem dX14_place_328 : decode cX14_place 328 = .ok (.iload 7, 2) := by decide +kernel
theorem dX14_place_330 : decode cX14_place 330 = .ok (.iload 4, 2) := by decide +kernel
theorem dX14_place_332 : decode cX14_place 332 = .ok (.if_icmp .ge 79, 3) := by decide +kernel
theorem dX14_place_335 : decode cX14_place 335 = .ok (.lconst 0, 1) := by decide +kernel
theorem dX14_place_336 : decode cX14_place 336 = .ok (.lstore 8, 2) := by decide +kernel
theorem dX14_place_338 : decode cX14_place 338 = .ok (.iconst 0, 1) := by decide +kernel
theorem dX14_place_339 : decode cX14_place 339 = .ok (.istore 10, 2) := by decide +kernel
theorem dX14_place_341 : decode cX14_place 341 = .ok (.iload 10, 2) := by decide +kernel
theorem dX14_place_343 : decode cX14_place 343 = .ok (.iload 4, 2) := by decide +kernel
theorem dX14_place_345 : decode cX14_place 345 = .ok (.if_icmp .ge 35, 3) := by decide +kernel
theorem dX14_place_348 : decode cX14_place 348 = .ok (.lload 8, 2) := by decide +kernel
theorem dX14_place_350 : decode cX14_place 350 = .ok (.aload_n 0, 1) := by decide +kernel
theorem dX14_place_351 : decode cX14_place 351 = .ok (.iload 10, 2) := by decide +kernel
theorem dX14_place_353 : decode cX14_place 353 = .ok (.iload 4, 2) := by decide +kernel
theorem dX14_place_355 : decode cX14_place 355 = .ok (.invokevirtual 586, 3) := by decide +kernel
theorem dX14_place_358 : decode cX14_place 358 = .ok (.aload_n 0, 1) := by decide +kernel
theorem dX14_place_359 : decode cX14_place 359 = .ok (.getfield 121, 3) := by decide +kernel
theorem dX14_place_362 : decode cX14_place 362 = .ok (.iconst 3, 1) := by decide +kernel
theorem dX14_place_363 : decode cX14_place 363 = .ok (.iload 10, 2) := by decide +kernel
theorem dX14_place_365 : decode cX14_place 365 = .ok (.imul, 1) := by decide +kernel
theorem dX14_place_366 : decode cX14_place 366 = .ok (.iload 7, 2) := by decide +kernel
theorem dX14_place_368 : decode cX14_place 368 = .ok (.iadd, 1) := by decide +kernel
theorem dX14_place_369 : decode cX14_place 369 = .ok (.laload, 1) := by decide +kernel
theorem dX14_place_370 : decode cX14_place 370 = .ok (.lmul, 1) := by decide +kernel
theorem dX14_place_371 : decode cX14_place 371 = .ok (.ladd, 1) := by decide +kernel
theorem dX14_place_372 : decode cX14_place 372 = .ok (.lstore 8, 2) := by decide +kernel
theorem dX14_place_374 : decode cX14_place 374 = .ok (.iinc 10 1, 3) := by decide +kernel
theorem dX14_place_377 : decode cX14_place 377 = .ok (.goto (-36), 3) := by decide +kernel
theorem dX14_place_380 : decode cX14_place 380 = .ok (.aload_n 0, 1) := by decide +kernel
theorem dX14_place_381 : decode cX14_place 381 = .ok (.getfield 112, 3) := by decide +kernel
theorem dX14_place_384 : decode cX14_place 384 = .ok (.iload 7, 2) := by decide +kernel
theorem dX14_place_386 : decode cX14_place 386 = .ok (.lload 8, 2) := by decide +kernel
theorem dX14_place_388 : decode cX14_place 388 = .ok (.lneg, 1) := by decide +kernel
theorem dX14_place_389 : decode cX14_place 389 = .ok (.lastore, 1) := by decide +kernel
theorem dX14_place_390 : decode cX14_place 390 = .ok (.aload_n 0, 1) := by decide +kernel
theorem dX14_place_391 : decode cX14_place 391 = .ok (.getfield 115, 3) := by decide +kernel
theorem dX14_place_394 : decode cX14_place 394 = .ok (.iload 7, 2) := by decide +kernel
theorem dX14_place_396 : decode cX14_place 396 = .ok (.lload 5, 2) := by decide +kernel
theorem dX14_place_398 : decode cX14_place 398 = .ok (.lastore, 1) := by decide +kernel
theorem dX14_place_399 : decode cX14_place 399 = .ok (.aload_n 0, 1) := by decide +kernel
theorem dX14_place_400 : decode cX14_place 400 = .ok (.iload 7, 2) := by decide +kernel
theorem dX14_place_402 : decode cX14_place 402 = .ok (.invokevirtual 590, 3) := by decide +kernel
theorem dX14_place_405 : decode cX14_place 405 = .ok (.iinc 7 1, 3) := by decide +kernel
theorem dX14_place_408 : decode cX14_place 408 = .ok (.goto (-80), 3) := by decide +kernel
theorem dX14_place_411 : decode cX14_place 411 = .ok (.aload_n 0, 1) := by decide +kernel
theorem dX14_place_412 : decode cX14_place 412 = .ok (.iload 4, 2) := by decide +kernel
theorem dX14_place_414 : decode cX14_place 414 = .ok (.putfield 593, 3) := by decide +kernel
theorem dX14_place_417 : decode cX14_place 417 = .ok (.aload_n 0, 1) := by decide +kernel
theorem dX14_place_418 : decode cX14_place 418 = .ok (.iload 4, 2) := by decide +kernel
theorem dX14_place_420 : decode cX14_place 420 = .ok (.invokevirtual 413, 3) := by decide +kernel
theorem dX14_place_423 : decode cX14_place 423 = .ok (.ireturn, 1) := by decide +kernel
def s_X14_place_80  (l0 : Nat) (h : aH) : aO :=
  kO h l0 14 (cI (s_X14_refused l0 2 h) fun x82 h82 => some (.inl (some (.int x82)), h82))
def s_X14_place_120  (l0 : Nat) (h : aH) : aO :=
  kO h l0 14 (cI (s_X14_refused l0 5 h) fun x122 h122 => some (.inl (some (.int x122)), h122))
def s_X14_place_341_b (k328 : Nat → Int32 → Int64 → Int32 → aH → aO) (k341 : Nat → Int32 → Int64 → Int32 → Int64 → Int32 → aH → aO) (l0 : Nat) (l4 : Int32) (l5 : Int64) (l7 : Int32) (l8 : Int64) (l10 : Int32) (h : aH) : aO :=
  if l4 ≤ l10 then ((gO h (.ref l0) 14 52).bind fun x381 => (stJ h (.ref x381) l7 (-l8)).bind fun h389 => (gO h389 (.ref l0) 14 53).bind fun x391 => (stJ h389 (.ref x391) l7 l5).bind fun h398 => kO h398 l0 14 (cN (s_X14_reduces l0 l7 h398) fun h402 => k328 l0 l4 l5 (l7 + 1) h402)) else (kO h l0 14 (cJ (s_X14_last l0 l10 l4 h) fun x355 h355 => (gO h355 (.ref l0) 14 55).bind fun x359 => (ldJ h355 (.ref x359) ((3 * l10) + l7)).bind fun x369 => k341 l0 l4 l5 l7 (l8 + (x355 * x369)) (l10 + 1) h355))
def s_X14_place_341 (k328 : Nat → Int32 → Int64 → Int32 → aH → aO) (n : Nat) : Nat → Int32 → Int64 → Int32 → Int64 → Int32 → aH → aO := lpF (fun _ _ _ _ _ _ _ => none) (s_X14_place_341_b k328) n
def s_X14_place_328_b  (k328 : Nat → Int32 → Int64 → Int32 → aH → aO) (l0 : Nat) (l4 : Int32) (l5 : Int64) (l7 : Int32) (h : aH) : aO :=
  if l4 ≤ l7 then ((pF h (.ref l0) 14 56 (.int l4)).bind fun h414 => kO h414 l0 14 (cI (s_X14_done l0 l4 h414) fun x420 h420 => some (.inl (some (.int x420)), h420))) else (s_X14_place_341 k328 FU l0 l4 l5 l7 0 0 h)
def s_X14_place_328  (n : Nat) : Nat → Int32 → Int64 → Int32 → aH → aO := lpF (fun _ _ _ _ _ => none) (s_X14_place_328_b ) n
def s_X14_place_323  (l0 : Nat) (l4 : Int32) (s0 : Int64) (h : aH) : aO :=
  s_X14_place_328 FU l0 l4 s0 0 h
def s_X14_place_222_b (k176 : Nat → Int32 → Int32 → Int32 → Int32 → Int32 → aH → aO) (k222 : Nat → Int32 → Int32 → Int32 → Int32 → Int32 → Int64 → Int32 → aH → aO) (l0 : Nat) (l1 : Int32) (l2 : Int32) (l3 : Int32) (l4 : Int32) (l5 : Int32) (l6 : Int64) (l8 : Int32) (h : aH) : aO :=
  if 9 ≤ l8 then (kO h l0 14 (cN (s_X14_raises l0 h) fun h256 => k176 l0 l1 l2 l3 l4 (l5 + 1) h256)) else ((gO h (.ref l0) 14 55).bind fun x230 => (ldJ h (.ref x230) l8).bind fun x236 => (gO h (.ref l0) 14 54).bind fun x240 => (ldJ h (.ref x240) l8).bind fun x245 => (stJ h (.ref x230) l8 (x236 + (l6 * x245))).bind fun h248 => k222 l0 l1 l2 l3 l4 l5 l6 (l8 + 1) h248)
def s_X14_place_222 (k176 : Nat → Int32 → Int32 → Int32 → Int32 → Int32 → aH → aO) (n : Nat) : Nat → Int32 → Int32 → Int32 → Int32 → Int32 → Int64 → Int32 → aH → aO := lpF (fun _ _ _ _ _ _ _ _ _ => none) (s_X14_place_222_b k176) n
def s_X14_place_217 (k176 : Nat → Int32 → Int32 → Int32 → Int32 → Int32 → aH → aO) (l0 : Nat) (l1 : Int32) (l2 : Int32) (l3 : Int32) (l4 : Int32) (l5 : Int32) (s0 : Int64) (h : aH) : aO :=
  s_X14_place_222 k176 FU l0 l1 l2 l3 l4 l5 s0 0 h
def s_X14_place_176_b  (k176 : Nat → Int32 → Int32 → Int32 → Int32 → Int32 → aH → aO) (l0 : Nat) (l1 : Int32) (l2 : Int32) (l3 : Int32) (l4 : Int32) (l5 : Int32) (h : aH) : aO :=
  if l4 < l5 then (if l4 = 1 then ((gO h (.ref l0) 14 51).bind fun x272 => (ldJ h (.ref x272) 0).bind fun x276 => s_X14_place_323 l0 l4 x276 h) else (if l4 = 2 then ((gO h (.ref l0) 14 51).bind fun x287 => (ldJ h (.ref x287) 0).bind fun x291 => (gO h (.ref l0) 14 51).bind fun x293 => (ldJ h (.ref x293) 4).bind fun x297 => (gO h (.ref l0) 14 51).bind fun x300 => (ldJ h (.ref x300) 1).bind fun x304 => (gO h (.ref l0) 14 51).bind fun x306 => (ldJ h (.ref x306) 3).bind fun x310 => s_X14_place_323 l0 l4 ((x291 * x297) - (x304 * x310)) h) else (kO h l0 14 (cJ (s_X14_three l0 0 1 2 h) fun x320 h320 => s_X14_place_323 l0 l4 x320 h320)))) else (if l5 = l4 then (s_X14_place_217 k176 l0 l1 l2 l3 l4 l5 1 h) else (if l5 = 0 then (s_X14_place_217 k176 l0 l1 l2 l3 l4 l5 l1.toInt64 h) else (if l5 = 1 then (s_X14_place_217 k176 l0 l1 l2 l3 l4 l5 l2.toInt64 h) else (s_X14_place_217 k176 l0 l1 l2 l3 l4 l5 l3.toInt64 h))))
def s_X14_place_176  (n : Nat) : Nat → Int32 → Int32 → Int32 → Int32 → Int32 → aH → aO := lpF (fun _ _ _ _ _ _ _ => none) (s_X14_place_176_b ) n
def s_X14_place_158 (k129 : Nat → Int32 → Int32 → Int32 → Int32 → Int32 → aH → aO) (l0 : Nat) (l1 : Int32) (l2 : Int32) (l3 : Int32) (l4 : Int32) (l5 : Int32) (s0 : Int64) (s1 : Int32) (s2 : Nat) (h : aH) : aO :=
  (stJ h (.ref s2) s1 s0).bind fun h158 => (gO h158 (.ref l0) 14 55).bind fun x160 => (stJ h158 (.ref x160) l5 0).bind fun h166 => k129 l0 l1 l2 l3 l4 (l5 + 1) h166
def s_X14_place_129_b  (k129 : Nat → Int32 → Int32 → Int32 → Int32 → Int32 → aH → aO) (l0 : Nat) (l1 : Int32) (l2 : Int32) (l3 : Int32) (l4 : Int32) (l5 : Int32) (h : aH) : aO :=
  if 9 ≤ l5 then (s_X14_place_176 FU l0 l1 l2 l3 l4 0 h) else ((gO h (.ref l0) 14 54).bind fun x137 => nz 3 (nz 3 (if (l5 / 3) = (l5 - l5 / 3 * 3) then (s_X14_place_158 k129 l0 l1 l2 l3 l4 l5 1 l5 x137 h) else (s_X14_place_158 k129 l0 l1 l2 l3 l4 l5 0 l5 x137 h))))
def s_X14_place_129  (n : Nat) : Nat → Int32 → Int32 → Int32 → Int32 → Int32 → aH → aO := lpF (fun _ _ _ _ _ _ _ => none) (s_X14_place_129_b ) n
def s_X14_place_86  (l0 : Nat) (l1 : Int32) (l2 : Int32) (l3 : Int32) (l4 : Int32) (h : aH) : aO :=
  kO h l0 14 (cI (s_X14_isLinear l0 h) fun x87 h87 => if x87 = 0 then (s_X14_place_120 l0 h87) else ((gO h87 (.ref l0) 14 4).bind fun x94 => (gO h87 (.ref x94) 13 0).bind fun x97 => (ldI .int h87 (.ref x97) 1).bind fun x101 => if x101 = 1 then (kO h87 l0 14 (cI (s_X14_columns l0 0 h87) fun x109 h109 => kO h109 l0 14 (cI (s_X14_rankOf l0 x109 h109) fun x112 h112 => if x112 = l4 then (s_X14_place_129 FU l0 l1 l2 l3 l4 0 h112) else (s_X14_place_120 l0 h112)))) else (s_X14_place_120 l0 h87)))
def s_X14_place_61  (l0 : Nat) (l1 : Int32) (l2 : Int32) (l3 : Int32) (l4 : Int32) (h : aH) : aO :=
  if l4 ≤ 2 then (s_X14_place_86 l0 l1 l2 l3 l4 h) else (cI (s_X14_in l3 (-999) 999 h) fun x74 h74 => if x74 = 0 then (s_X14_place_80 l0 h74) else (s_X14_place_86 l0 l1 l2 l3 l4 h74))
def s_X14_place (o : Nat) (a1 : Int32) (a2 : Int32) (a3 : Int32) (h : aH) : aO :=
  (pF h (.ref o) 14 0 (.int 0)).bind fun h2 => (gW h2 (.ref o) 14 4).bind fun x6 => match x6 with | .null => (kO h2 o 14 (cI (s_X14_refused o 1 h2) fun x14 h14 => some (.inl (some (.int x14)), h14))) | .ref n9 => ((gO h2 (.ref o) 14 4).bind fun x19 => (gO h2 (.ref x19) 13 0).bind fun x22 => (ldI .int h2 (.ref x22) 0).bind fun x26 => cI (s_X14_in a1 (-999) 999 h2) fun x36 h36 => if x36 = 0 then (s_X14_place_80 o h36) else (if x26 ≤ 1 then (s_X14_place_61 o a1 a2 a3 x26 h36) else (cI (s_X14_in a2 (-999) 999 h36) fun x55 h55 => if x55 = 0 then (s_X14_place_80 o h55) else (s_X14_place_61 o a1 a2 a3 x26 h55)))) | _ => none
section
variable {p : Program} {l : Launch} {e : Env} {s : State} {m : MethodId} {args : Array Value} {below : List Frame} {meth : Method} {c : Code} {D : va_G} {B0 : Nat} {X : Nat → Nat} {ws0 : va_W} {r : aR} {h' : aH} {mc ms : Nat}
theorem t_X14_place_80 (C : Cx p l s m args meth c B0 X RX14 "place" cX14_place 11 (some .int) [])   {l0 : Nat} {h : aH} (hs : s_X14_place_80  l0 h = some (r, h')) : Ev p l e { frames := 3, cells := mc, slots := ms, locals := 78 } s m args below meth c D B0 X ws0 r h' mc ms 11 mc ms 80 [some (.ref l0), none, none, none, none, none, none, none, none, none, none] [] h := by
  unfold s_X14_place_80 at hs
  refine ev_aload_n C (x := .ref l0) rfl trivial dX14_place_80 ?_
  refine ev_iconst C (v := 2) dX14_place_81 (by decide) ?_
  obtain ⟨eo82, hs⟩ := kO_at hs
  obtain ⟨x82, h82, e82, hs⟩ := cI_at hs
  refine ev_callV C (T_X14_refused _ _ _ _ _ e82) (ci := 14) rfl eo82 wc_X14_refused wm_X14_360 wi_X14_refused ws_X14_refused wz_X14 hy_X14_refused ⟨(Nat.le_of_ble_eq_true rfl), (Nat.le_of_ble_eq_true rfl)⟩ ⟨(Nat.le_refl _), (Nat.le_refl _)⟩ (Nat.le_of_ble_eq_true rfl) rfl dX14_place_82 ?_
  cases hs
  exact ev_iret C rfl rfl (Nat.le_refl _) (Nat.le_refl _) rfl dX14_place_85
theorem t_X14_place_120 (C : Cx p l s m args meth c B0 X RX14 "place" cX14_place 11 (some .int) [])   {l0 : Nat} {h : aH} (hs : s_X14_place_120  l0 h = some (r, h')) : Ev p l e { frames := 3, cells := mc, slots := ms, locals := 78 } s m args below meth c D B0 X ws0 r h' mc ms 11 mc ms 120 [some (.ref l0), none, none, none, none, none, none, none, none, none, none] [] h := by
  unfold s_X14_place_120 at hs
  refine ev_aload_n C (x := .ref l0) rfl trivial dX14_place_120 ?_
  refine ev_iconst C (v := 5) dX14_place_121 (by decide) ?_
  obtain ⟨eo122, hs⟩ := kO_at hs
  obtain ⟨x122, h122, e122, hs⟩ := cI_at hs
  refine ev_callV C (T_X14_refused _ _ _ _ _ e122) (ci := 14) rfl eo122 wc_X14_refused wm_X14_360 wi_X14_refused ws_X14_refused wz_X14 hy_X14_refused ⟨(Nat.le_of_ble_eq_true rfl), (Nat.le_of_ble_eq_true rfl)⟩ ⟨(Nat.le_refl _), (Nat.le_refl _)⟩ (Nat.le_of_ble_eq_true rfl) rfl dX14_place_122 ?_
  cases hs
  exact ev_iret C rfl rfl (Nat.le_refl _) (Nat.le_refl _) rfl dX14_place_125
theorem t_X14_place_341_b (C : Cx p l s m args meth c B0 X RX14 "place" cX14_place 11 (some .int) []) {k328 : Nat → Int32 → Int64 → Int32 → aH → aO} (K328 : ∀ (l0 : Nat) (l4 : Int32) (l5 : Int64) (l7 : Int32) (h : aH), k328 l0 l4 l5 l7 h = some (r, h') → Ev p l e { frames := 3, cells := mc, slots := ms, locals := 78 } s m args below meth c D B0 X ws0 r h' mc ms 11 mc ms 328 [some (.ref l0), none, none, none, some (.int l4), some (.long l5), none, some (.int l7), none, none, none] [] h) {k341 : Nat → Int32 → Int64 → Int32 → Int64 → Int32 → aH → aO} (K341 : ∀ (l0 : Nat) (l4 : Int32) (l5 : Int64) (l7 : Int32) (l8 : Int64) (l10 : Int32) (h : aH), k341 l0 l4 l5 l7 l8 l10 h = some (r, h') → Ev p l e { frames := 3, cells := mc, slots := ms, locals := 78 } s m args below meth c D B0 X ws0 r h' mc ms 11 mc ms 341 [some (.ref l0), none, none, none, some (.int l4), some (.long l5), none, some (.int l7), some (.long l8), none, some (.int l10)] [] h) {l0 : Nat} {l4 : Int32} {l5 : Int64} {l7 : Int32} {l8 : Int64} {l10 : Int32} {h : aH} (hs : s_X14_place_341_b k328 k341 l0 l4 l5 l7 l8 l10 h = some (r, h')) : Ev p l e { frames := 3, cells := mc, slots := ms, locals := 78 } s m args below meth c D B0 X ws0 r h' mc ms 11 mc ms 341 [some (.ref l0), none, none, none, some (.int l4), some (.long l5), none, some (.int l7), some (.long l8), none, some (.int l10)] [] h := by
  unfold s_X14_place_341_b at hs
  refine ev_iload C rfl dX14_place_341 ?_
  refine ev_iload C rfl dX14_place_343 ?_
  refine ev_icmp_ge C (tgt := 380) (by decide) dX14_place_345 (fun q345 => ?_) (fun q345 => ?_)
  · replace hs := (if_pos q345).symm.trans hs
    refine ev_aload_n C (x := .ref l0) rfl trivial dX14_place_380 ?_
    obtain ⟨x381, e381, hs⟩ := aB hs
    refine ev_get C (ci := 14) (k := 52) rfl wu_14 (by decide) wf_X14_112 (gO_F e381) dX14_place_381 ?_
    refine ev_iload C rfl dX14_place_384 ?_
    refine ev_lload C rfl dX14_place_386 ?_
    refine ev_lneg C dX14_place_388 ?_
    obtain ⟨h389, e389, hs⟩ := aB hs
    refine ev_last C e389 dX14_place_389 ?_
    refine ev_aload_n C (x := .ref l0) rfl trivial dX14_place_390 ?_
    obtain ⟨x391, e391, hs⟩ := aB hs
    refine ev_get C (ci := 14) (k := 53) rfl wu_14 (by decide) wf_X14_115 (gO_F e391) dX14_place_391 ?_
    refine ev_iload C rfl dX14_place_394 ?_
    refine ev_lload C rfl dX14_place_396 ?_
    obtain ⟨h398, e398, hs⟩ := aB hs
    refine ev_last C e398 dX14_place_398 ?_
    refine ev_aload_n C (x := .ref l0) rfl trivial dX14_place_399 ?_
    refine ev_iload C rfl dX14_place_400 ?_
    obtain ⟨eo402, hs⟩ := kO_at hs
    obtain ⟨h402, e402, hs⟩ := cN_at hs
    refine ev_callV C (T_X14_reduces _ _ _ _ _ e402) (ci := 14) rfl eo402 wc_X14_reduces wm_X14_590 wi_X14_reduces ws_X14_reduces wz_X14 hy_X14_reduces ⟨(Nat.le_of_ble_eq_true rfl), (Nat.le_of_ble_eq_true rfl)⟩ ⟨(Nat.le_refl _), (Nat.le_refl _)⟩ (Nat.le_of_ble_eq_true rfl) rfl dX14_place_402 ?_
    refine ev_iinc C (i := 7) (n := 1) (x := l7) (v := l7 + 1) rfl (congrArg (fun z => l7 + z) (show Int32.ofInt 1 = 1 by decide)) (by decide) dX14_place_405 ?_
    refine ev_goto C (tgt := 328) (by decide) dX14_place_408 ?_
    exact Ev.keep [true, true, true, true, true, true, true, true, false, true, false] (K328 _ _ _ _ _ hs)
  · replace hs := (if_neg q345).symm.trans hs
    refine ev_lload C rfl dX14_place_348 ?_
    refine ev_aload_n C (x := .ref l0) rfl trivial dX14_place_350 ?_
    refine ev_iload C rfl dX14_place_351 ?_
    refine ev_iload C rfl dX14_place_353 ?_
    obtain ⟨eo355, hs⟩ := kO_at hs
    obtain ⟨x355, h355, e355, hs⟩ := cJ_at hs
    refine ev_callV C (T_X14_last _ _ _ _ _ _ e355) (ci := 14) rfl eo355 wc_X14_last wm_X14_586 wi_X14_last ws_X14_last wz_X14 hy_X14_last ⟨(Nat.le_of_ble_eq_true rfl), (Nat.le_of_ble_eq_true rfl)⟩ ⟨(Nat.le_refl _), (Nat.le_refl _)⟩ (Nat.le_of_ble_eq_true rfl) rfl dX14_place_355 ?_
    refine ev_aload_n C (x := .ref l0) rfl trivial dX14_place_358 ?_
    obtain ⟨x359, e359, hs⟩ := aB hs
    refine ev_get C (ci := 14) (k := 55) rfl wu_14 (by decide) wf_X14_121 (gO_F e359) dX14_place_359 ?_
    refine ev_iconst C (v := 3) dX14_place_362 (by decide) ?_
    refine ev_iload C rfl dX14_place_363 ?_
    refine ev_imul C dX14_place_365 ?_
    refine ev_iload C rfl dX14_place_366 ?_
    refine ev_iadd C dX14_place_368 ?_
    obtain ⟨x369, e369, hs⟩ := aB hs
    refine ev_lald C e369 dX14_place_369 ?_
    refine ev_lmul C dX14_place_370 ?_
    refine ev_ladd C dX14_place_371 ?_
    refine ev_lstore C (by decide) dX14_place_372 ?_
    refine ev_iinc C (i := 10) (n := 1) (x := l10) (v := l10 + 1) rfl (congrArg (fun z => l10 + z) (show Int32.ofInt 1 = 1 by decide)) (by decide) dX14_place_374 ?_
    refine ev_goto C (tgt := 341) (by decide) dX14_place_377 ?_
    exact (K341 _ _ _ _ _ _ _ hs)
theorem t_X14_place_341 (C : Cx p l s m args meth c B0 X RX14 "place" cX14_place 11 (some .int) []) {k328 : Nat → Int32 → Int64 → Int32 → aH → aO} (K328 : ∀ (l0 : Nat) (l4 : Int32) (l5 : Int64) (l7 : Int32) (h : aH), k328 l0 l4 l5 l7 h = some (r, h') → Ev p l e { frames := 3, cells := mc, slots := ms, locals := 78 } s m args below meth c D B0 X ws0 r h' mc ms 11 mc ms 328 [some (.ref l0), none, none, none, some (.int l4), some (.long l5), none, some (.int l7), none, none, none] [] h) : ∀ (n : Nat) {l0 : Nat} {l4 : Int32} {l5 : Int64} {l7 : Int32} {l8 : Int64} {l10 : Int32} {h : aH} (hs : s_X14_place_341 k328 n l0 l4 l5 l7 l8 l10 h = some (r, h')), Ev p l e { frames := 3, cells := mc, slots := ms, locals := 78 } s m args below meth c D B0 X ws0 r h' mc ms 11 mc ms 341 [some (.ref l0), none, none, none, some (.int l4), some (.long l5), none, some (.int l7), some (.long l8), none, some (.int l10)] [] h
  | 0, _, _, _, _, _, _, _, hs => nomatch hs
  | n + 1, _, _, _, _, _, _, _, hs => t_X14_place_341_b C K328 (k341 := s_X14_place_341 k328 n) (fun _ _ _ _ _ _ _ hs => t_X14_place_341 C K328 n hs) hs
theorem t_X14_place_328_b (C : Cx p l s m args meth c B0 X RX14 "place" cX14_place 11 (some .int) [])   {k328 : Nat → Int32 → Int64 → Int32 → aH → aO} (K328 : ∀ (l0 : Nat) (l4 : Int32) (l5 : Int64) (l7 : Int32) (h : aH), k328 l0 l4 l5 l7 h = some (r, h') → Ev p l e { frames := 3, cells := mc, slots := ms, locals := 78 } s m args below meth c D B0 X ws0 r h' mc ms 11 mc ms 328 [some (.ref l0), none, none, none, some (.int l4), some (.long l5), none, some (.int l7), none, none, none] [] h) {l0 : Nat} {l4 : Int32} {l5 : Int64} {l7 : Int32} {h : aH} (hs : s_X14_place_328_b  k328 l0 l4 l5 l7 h = some (r, h')) : Ev p l e { frames := 3, cells := mc, slots := ms, locals := 78 } s m args below meth c D B0 X ws0 r h' mc ms 11 mc ms 328 [some (.ref l0), none, none, none, some (.int l4), some (.long l5), none, some (.int l7), none, none, none] [] h := by
  unfold s_X14_place_328_b at hs
  refine ev_iload C rfl dX14_place_328 ?_
  refine ev_iload C rfl dX14_place_330 ?_
  refine ev_icmp_ge C (tgt := 411) (by decide) dX14_place_332 (fun q332 => ?_) (fun q332 => ?_)
  · replace hs := (if_pos q332).symm.trans hs
    refine ev_aload_n C (x := .ref l0) rfl trivial dX14_place_411 ?_
    refine ev_iload C rfl dX14_place_412 ?_
    obtain ⟨h414, e414, hs⟩ := aB hs
    refine ev_put C (ci := 14) (k := 56) rfl wu_14 (by decide) tyX14 tyX14_ok nmX14 wf_X14_593 rfl trivial e414 dX14_place_414 ?_
    refine ev_aload_n C (x := .ref l0) rfl trivial dX14_place_417 ?_
    refine ev_iload C rfl dX14_place_418 ?_
    obtain ⟨eo420, hs⟩ := kO_at hs
    obtain ⟨x420, h420, e420, hs⟩ := cI_at hs
    refine ev_callV C (T_X14_done _ _ _ _ _ e420) (ci := 14) rfl eo420 wc_X14_done wm_X14_413 wi_X14_done ws_X14_done wz_X14 hy_X14_done ⟨(Nat.le_of_ble_eq_true rfl), (Nat.le_of_ble_eq_true rfl)⟩ ⟨(Nat.le_refl _), (Nat.le_refl _)⟩ (Nat.le_of_ble_eq_true rfl) rfl dX14_place_420 ?_
    cases hs
    exact ev_iret C rfl rfl (Nat.le_refl _) (Nat.le_refl _) rfl dX14_place_423
  · replace hs := (if_neg q332).symm.trans hs
    refine ev_lconst C (v := 0) dX14_place_335 (by decide) ?_
    refine ev_lstore C (by decide) dX14_place_336 ?_
    refine ev_iconst C (v := 0) dX14_place_338 (by decide) ?_
    refine ev_istore C (by decide) dX14_place_339 ?_
    exact (t_X14_place_341 C K328 FU hs)
theorem t_X14_place_328 (C : Cx p l s m args meth c B0 X RX14 "place" cX14_place 11 (some .int) [])   : ∀ (n : Nat) {l0 : Nat} {l4 : Int32} {l5 : Int64} {l7 : Int32} {h : aH} (hs : s_X14_place_328  n l0 l4 l5 l7 h = some (r, h')), Ev p l e { frames := 3, cells := mc, slots := ms, locals := 78 } s m args below meth c D B0 X ws0 r h' mc ms 11 mc ms 328 [some (.ref l0), none, none, none, some (.int l4), some (.long l5), none, some (.int l7), none, none, none] [] h
  | 0, _, _, _, _, _, hs => nomatch hs
  | n + 1, _, _, _, _, _, hs => t_X14_place_328_b C  (k328 := s_X14_place_328  n) (fun _ _ _ _ _ hs => t_X14_place_328 C  n hs) hs
theorem t_X14_place_323 (C : Cx p l s m args meth c B0 X RX14 "place" cX14_place 11 (some .int) [])   {l0 : Nat} {l4 : Int32} {s0 : Int64} {h : aH} (hs : s_X14_place_323  l0 l4 s0 h = some (r, h')) : Ev p l e { frames := 3, cells := mc, slots := ms, locals := 78 } s m args below meth c D B0 X ws0 r h' mc ms 11 mc ms 323 [some (.ref l0), none, none, none, some (.int l4), none, none, none, none, none, none] [.long s0] h := by
  unfold s_X14_place_323 at hs
  refine ev_lstore C (by decide) dX14_place_323 ?_
  refine ev_iconst C (v := 0) dX14_place_325 (by decide) ?_
  refine ev_istore C (by decide) dX14_place_326 ?_
  exact (t_X14_place_328 C  FU hs)
theorem t_X14_place_222_b (C : Cx p l s m args meth c B0 X RX14 "place" cX14_place 11 (some .int) []) {k176 : Nat → Int32 → Int32 → Int32 → Int32 → Int32 → aH → aO} (K176 : ∀ (l0 : Nat) (l1 : Int32) (l2 : Int32) (l3 : Int32) (l4 : Int32) (l5 : Int32) (h : aH), k176 l0 l1 l2 l3 l4 l5 h = some (r, h') → Ev p l e { frames := 3, cells := mc, slots := ms, locals := 78 } s m args below meth c D B0 X ws0 r h' mc ms 11 mc ms 176 [some (.ref l0), some (.int l1), some (.int l2), some (.int l3), some (.int l4), some (.int l5), none, none, none, none, none] [] h) {k222 : Nat → Int32 → Int32 → Int32 → Int32 → Int32 → Int64 → Int32 → aH → aO} (K222 : ∀ (l0 : Nat) (l1 : Int32) (l2 : Int32) (l3 : Int32) (l4 : Int32) (l5 : Int32) (l6 : Int64) (l8 : Int32) (h : aH), k222 l0 l1 l2 l3 l4 l5 l6 l8 h = some (r, h') → Ev p l e { frames := 3, cells := mc, slots := ms, locals := 78 } s m args below meth c D B0 X ws0 r h' mc ms 11 mc ms 222 [some (.ref l0), some (.int l1), some (.int l2), some (.int l3), some (.int l4), some (.int l5), some (.long l6), none, some (.int l8), none, none] [] h) {l0 : Nat} {l1 : Int32} {l2 : Int32} {l3 : Int32} {l4 : Int32} {l5 : Int32} {l6 : Int64} {l8 : Int32} {h : aH} (hs : s_X14_place_222_b k176 k222 l0 l1 l2 l3 l4 l5 l6 l8 h = some (r, h')) : Ev p l e { frames := 3, cells := mc, slots := ms, locals := 78 } s m args below meth c D B0 X ws0 r h' mc ms 11 mc ms 222 [some (.ref l0), some (.int l1), some (.int l2), some (.int l3), some (.int l4), some (.int l5), some (.long l6), none, some (.int l8), none, none] [] h := by
  unfold s_X14_place_222_b at hs
  refine ev_iload C rfl dX14_place_222 ?_
  refine ev_bipush C (v := 9) dX14_place_224 (by decide) ?_
  refine ev_icmp_ge C (tgt := 255) (by decide) dX14_place_226 (fun q226 => ?_) (fun q226 => ?_)
  · replace hs := (if_pos q226).symm.trans hs
    refine ev_aload_n C (x := .ref l0) rfl trivial dX14_place_255 ?_
    obtain ⟨eo256, hs⟩ := kO_at hs
    obtain ⟨h256, e256, hs⟩ := cN_at hs
    refine ev_callV C (T_X14_raises _ _ _ _ e256) (ci := 14) rfl eo256 wc_X14_raises wm_X14_583 wi_X14_raises ws_X14_raises wz_X14 hy_X14_raises ⟨(Nat.le_of_ble_eq_true rfl), (Nat.le_of_ble_eq_true rfl)⟩ ⟨(Nat.le_refl _), (Nat.le_refl _)⟩ (Nat.le_of_ble_eq_true rfl) rfl dX14_place_256 ?_
    refine ev_iinc C (i := 5) (n := 1) (x := l5) (v := l5 + 1) rfl (congrArg (fun z => l5 + z) (show Int32.ofInt 1 = 1 by decide)) (by decide) dX14_place_259 ?_
    refine ev_goto C (tgt := 176) (by decide) dX14_place_262 ?_
    exact Ev.keep [true, true, true, true, true, true, false, true, false, true, true] (K176 _ _ _ _ _ _ _ hs)
  · replace hs := (if_neg q226).symm.trans hs
    refine ev_aload_n C (x := .ref l0) rfl trivial dX14_place_229 ?_
    obtain ⟨x230, e230, hs⟩ := aB hs
    refine ev_get C (ci := 14) (k := 55) rfl wu_14 (by decide) wf_X14_121 (gO_F e230) dX14_place_230 ?_
    refine ev_iload C rfl dX14_place_233 ?_
    refine ev_dup2 C rfl rfl dX14_place_235 ?_
    obtain ⟨x236, e236, hs⟩ := aB hs
    refine ev_lald C e236 dX14_place_236 ?_
    refine ev_lload C rfl dX14_place_237 ?_
    refine ev_aload_n C (x := .ref l0) rfl trivial dX14_place_239 ?_
    obtain ⟨x240, e240, hs⟩ := aB hs
    refine ev_get C (ci := 14) (k := 54) rfl wu_14 (by decide) wf_X14_118 (gO_F e240) dX14_place_240 ?_
    refine ev_iload C rfl dX14_place_243 ?_
    obtain ⟨x245, e245, hs⟩ := aB hs
    refine ev_lald C e245 dX14_place_245 ?_
    refine ev_lmul C dX14_place_246 ?_
    refine ev_ladd C dX14_place_247 ?_
    obtain ⟨h248, e248, hs⟩ := aB hs
    refine ev_last C e248 dX14_place_248 ?_
    refine ev_iinc C (i := 8) (n := 1) (x := l8) (v := l8 + 1) rfl (congrArg (fun z => l8 + z) (show Int32.ofInt 1 = 1 by decide)) (by decide) dX14_place_249 ?_
    refine ev_goto C (tgt := 222) (by decide) dX14_place_252 ?_
    exact (K222 _ _ _ _ _ _ _ _ _ hs)
theorem t_X14_place_222 (C : Cx p l s m args meth c B0 X RX14 "place" cX14_place 11 (some .int) []) {k176 : Nat → Int32 → Int32 → Int32 → Int32 → Int32 → aH → aO} (K176 : ∀ (l0 : Nat) (l1 : Int32) (l2 : Int32) (l3 : Int32) (l4 : Int32) (l5 : Int32) (h : aH), k176 l0 l1 l2 l3 l4 l5 h = some (r, h') → Ev p l e { frames := 3, cells := mc, slots := ms, locals := 78 } s m args below meth c D B0 X ws0 r h' mc ms 11 mc ms 176 [some (.ref l0), some (.int l1), some (.int l2), some (.int l3), some (.int l4), some (.int l5), none, none, none, none, none] [] h) : ∀ (n : Nat) {l0 : Nat} {l1 : Int32} {l2 : Int32} {l3 : Int32} {l4 : Int32} {l5 : Int32} {l6 : Int64} {l8 : Int32} {h : aH} (hs : s_X14_place_222 k176 n l0 l1 l2 l3 l4 l5 l6 l8 h = some (r, h')), Ev p l e { frames := 3, cells := mc, slots := ms, locals := 78 } s m args below meth c D B0 X ws0 r h' mc ms 11 mc ms 222 [some (.ref l0), some (.int l1), some (.int l2), some (.int l3), some (.int l4), some (.int l5), some (.long l6), none, some (.int l8), none, none] [] h
  | 0, _, _, _, _, _, _, _, _, _, hs => nomatch hs
  | n + 1, _, _, _, _, _, _, _, _, _, hs => t_X14_place_222_b C K176 (k222 := s_X14_place_222 k176 n) (fun _ _ _ _ _ _ _ _ _ hs => t_X14_place_222 C K176 n hs) hs
theorem t_X14_place_217 (C : Cx p l s m args meth c B0 X RX14 "place" cX14_place 11 (some .int) []) {k176 : Nat → Int32 → Int32 → Int32 → Int32 → Int32 → aH → aO} (K176 : ∀ (l0 : Nat) (l1 : Int32) (l2 : Int32) (l3 : Int32) (l4 : Int32) (l5 : Int32) (h : aH), k176 l0 l1 l2 l3 l4 l5 h = some (r, h') → Ev p l e { frames := 3, cells := mc, slots := ms, locals := 78 } s m args below meth c D B0 X ws0 r h' mc ms 11 mc ms 176 [some (.ref l0), some (.int l1), some (.int l2), some (.int l3), some (.int l4), some (.int l5), none, none, none, none, none] [] h) {l0 : Nat} {l1 : Int32} {l2 : Int32} {l3 : Int32} {l4 : Int32} {l5 : Int32} {s0 : Int64} {h : aH} (hs : s_X14_place_217 k176 l0 l1 l2 l3 l4 l5 s0 h = some (r, h')) : Ev p l e { frames := 3, cells := mc, slots := ms, locals := 78 } s m args below meth c D B0 X ws0 r h' mc ms 11 mc ms 217 [some (.ref l0), some (.int l1), some (.int l2), some (.int l3), some (.int l4), some (.int l5), none, none, none, none, none] [.long s0] h := by
  unfold s_X14_place_217 at hs
  refine ev_lstore C (by decide) dX14_place_217 ?_
  refine ev_iconst C (v := 0) dX14_place_219 (by decide) ?_
  refine ev_istore C (by decide) dX14_place_220 ?_
  exact (t_X14_place_222 C K176 FU hs)
theorem t_X14_place_176_b (C : Cx p l s m args meth c B0 X RX14 "place" cX14_place 11 (some .int) [])   {k176 : Nat → Int32 → Int32 → Int32 → Int32 → Int32 → aH → aO} (K176 : ∀ (l0 : Nat) (l1 : Int32) (l2 : Int32) (l3 : Int32) (l4 : Int32) (l5 : Int32) (h : aH), k176 l0 l1 l2 l3 l4 l5 h = some (r, h') → Ev p l e { frames := 3, cells := mc, slots := ms, locals := 78 } s m args below meth c D B0 X ws0 r h' mc ms 11 mc ms 176 [some (.ref l0), some (.int l1), some (.int l2), some (.int l3), some (.int l4), some (.int l5), none, none, none, none, none] [] h) {l0 : Nat} {l1 : Int32} {l2 : Int32} {l3 : Int32} {l4 : Int32} {l5 : Int32} {h : aH} (hs : s_X14_place_176_b  k176 l0 l1 l2 l3 l4 l5 h = some (r, h')) : Ev p l e { frames := 3, cells := mc, slots := ms, locals := 78 } s m args below meth c D B0 X ws0 r h' mc ms 11 mc ms 176 [some (.ref l0), some (.int l1), some (.int l2), some (.int l3), some (.int l4), some (.int l5), none, none, none, none, none] [] h := by
  unfold s_X14_place_176_b at hs
  refine ev_iload C rfl dX14_place_176 ?_
  refine ev_iload C rfl dX14_place_178 ?_
  refine ev_icmp_gt C (tgt := 265) (by decide) dX14_place_180 (fun q180 => ?_) (fun q180 => ?_)
  · replace hs := (if_pos q180).symm.trans hs
    refine ev_iload C rfl dX14_place_265 ?_
    refine ev_iconst C (v := 1) dX14_place_267 (by decide) ?_
    refine ev_icmp_ne C (tgt := 280) (by decide) dX14_place_268 (fun q268 => ?_) (fun q268 => ?_)
    · replace hs := (if_neg q268).symm.trans hs
      refine ev_iload C rfl dX14_place_280 ?_
      refine ev_iconst C (v := 2) dX14_place_282 (by decide) ?_
      refine ev_icmp_ne C (tgt := 316) (by decide) dX14_place_283 (fun q283 => ?_) (fun q283 => ?_)
      · replace hs := (if_neg q283).symm.trans hs
        refine ev_aload_n C (x := .ref l0) rfl trivial dX14_place_316 ?_
        refine ev_iconst C (v := 0) dX14_place_317 (by decide) ?_
        refine ev_iconst C (v := 1) dX14_place_318 (by decide) ?_
        refine ev_iconst C (v := 2) dX14_place_319 (by decide) ?_
        obtain ⟨eo320, hs⟩ := kO_at hs
        obtain ⟨x320, h320, e320, hs⟩ := cJ_at hs
        refine ev_callV C (T_X14_three _ _ _ _ _ _ _ e320) (ci := 14) rfl eo320 wc_X14_three wm_X14_562 wi_X14_three ws_X14_three wz_X14 hy_X14_three ⟨(Nat.le_of_ble_eq_true rfl), (Nat.le_of_ble_eq_true rfl)⟩ ⟨(Nat.le_refl _), (Nat.le_refl _)⟩ (Nat.le_of_ble_eq_true rfl) rfl dX14_place_320 ?_
        exact Ev.keep [true, false, false, false, true, false, true, true, true, true, true] (t_X14_place_323 C  hs)
      · replace hs := (if_pos q283).symm.trans hs
        refine ev_aload_n C (x := .ref l0) rfl trivial dX14_place_286 ?_
        obtain ⟨x287, e287, hs⟩ := aB hs
        refine ev_get C (ci := 14) (k := 51) rfl wu_14 (by decide) wf_X14_109 (gO_F e287) dX14_place_287 ?_
        refine ev_iconst C (v := 0) dX14_place_290 (by decide) ?_
        obtain ⟨x291, e291, hs⟩ := aB hs
        refine ev_lald C e291 dX14_place_291 ?_
        refine ev_aload_n C (x := .ref l0) rfl trivial dX14_place_292 ?_
        obtain ⟨x293, e293, hs⟩ := aB hs
        refine ev_get C (ci := 14) (k := 51) rfl wu_14 (by decide) wf_X14_109 (gO_F e293) dX14_place_293 ?_
        refine ev_iconst C (v := 4) dX14_place_296 (by decide) ?_
        obtain ⟨x297, e297, hs⟩ := aB hs
        refine ev_lald C e297 dX14_place_297 ?_
        refine ev_lmul C dX14_place_298 ?_
        refine ev_aload_n C (x := .ref l0) rfl trivial dX14_place_299 ?_
        obtain ⟨x300, e300, hs⟩ := aB hs
        refine ev_get C (ci := 14) (k := 51) rfl wu_14 (by decide) wf_X14_109 (gO_F e300) dX14_place_300 ?_
        refine ev_iconst C (v := 1) dX14_place_303 (by decide) ?_
        obtain ⟨x304, e304, hs⟩ := aB hs
        refine ev_lald C e304 dX14_place_304 ?_
        refine ev_aload_n C (x := .ref l0) rfl trivial dX14_place_305 ?_
        obtain ⟨x306, e306, hs⟩ := aB hs
        refine ev_get C (ci := 14) (k := 51) rfl wu_14 (by decide) wf_X14_109 (gO_F e306) dX14_place_306 ?_
        refine ev_iconst C (v := 3) dX14_place_309 (by decide) ?_
        obtain ⟨x310, e310, hs⟩ := aB hs
        refine ev_lald C e310 dX14_place_310 ?_
        refine ev_lmul C dX14_place_311 ?_
        refine ev_lsub C dX14_place_312 ?_
        refine ev_goto C (tgt := 323) (by decide) dX14_place_313 ?_
        exact Ev.keep [true, false, false, false, true, false, true, true, true, true, true] (t_X14_place_323 C  hs)
    · replace hs := (if_pos q268).symm.trans hs
      refine ev_aload_n C (x := .ref l0) rfl trivial dX14_place_271 ?_
      obtain ⟨x272, e272, hs⟩ := aB hs
      refine ev_get C (ci := 14) (k := 51) rfl wu_14 (by decide) wf_X14_109 (gO_F e272) dX14_place_272 ?_
      refine ev_iconst C (v := 0) dX14_place_275 (by decide) ?_
      obtain ⟨x276, e276, hs⟩ := aB hs
      refine ev_lald C e276 dX14_place_276 ?_
      refine ev_goto C (tgt := 323) (by decide) dX14_place_277 ?_
      exact Ev.keep [true, false, false, false, true, false, true, true, true, true, true] (t_X14_place_323 C  hs)
  · replace hs := (if_neg q180).symm.trans hs
    refine ev_iload C rfl dX14_place_183 ?_
    refine ev_iload C rfl dX14_place_185 ?_
    refine ev_icmp_ne C (tgt := 194) (by decide) dX14_place_187 (fun q187 => ?_) (fun q187 => ?_)
    · replace hs := (if_neg q187).symm.trans hs
      refine ev_iload C rfl dX14_place_194 ?_
      refine ev_if_ne C (tgt := 204) (by decide) dX14_place_196 (fun q196 => ?_) (fun q196 => ?_)
      · replace hs := (if_neg q196).symm.trans hs
        refine ev_iload C rfl dX14_place_204 ?_
        refine ev_iconst C (v := 1) dX14_place_206 (by decide) ?_
        refine ev_icmp_ne C (tgt := 215) (by decide) dX14_place_207 (fun q207 => ?_) (fun q207 => ?_)
        · replace hs := (if_neg q207).symm.trans hs
          refine ev_iload_n C rfl dX14_place_215 ?_
          refine ev_i2l C dX14_place_216 ?_
          exact (t_X14_place_217 C K176 hs)
        · replace hs := (if_pos q207).symm.trans hs
          refine ev_iload_n C rfl dX14_place_210 ?_
          refine ev_i2l C dX14_place_211 ?_
          refine ev_goto C (tgt := 217) (by decide) dX14_place_212 ?_
          exact (t_X14_place_217 C K176 hs)
      · replace hs := (if_pos q196).symm.trans hs
        refine ev_iload_n C rfl dX14_place_199 ?_
        refine ev_i2l C dX14_place_200 ?_
        refine ev_goto C (tgt := 217) (by decide) dX14_place_201 ?_
        exact (t_X14_place_217 C K176 hs)
    · replace hs := (if_pos q187).symm.trans hs
      refine ev_lconst C (v := 1) dX14_place_190 (by decide) ?_
      refine ev_goto C (tgt := 217) (by decide) dX14_place_191 ?_
      exact (t_X14_place_217 C K176 hs)
theorem t_X14_place_176 (C : Cx p l s m args meth c B0 X RX14 "place" cX14_place 11 (some .int) [])   : ∀ (n : Nat) {l0 : Nat} {l1 : Int32} {l2 : Int32} {l3 : Int32} {l4 : Int32} {l5 : Int32} {h : aH} (hs : s_X14_place_176  n l0 l1 l2 l3 l4 l5 h = some (r, h')), Ev p l e { frames := 3, cells := mc, slots := ms, locals := 78 } s m args below meth c D B0 X ws0 r h' mc ms 11 mc ms 176 [some (.ref l0), some (.int l1), some (.int l2), some (.int l3), some (.int l4), some (.int l5), none, none, none, none, none] [] h
  | 0, _, _, _, _, _, _, _, hs => nomatch hs
  | n + 1, _, _, _, _, _, _, _, hs => t_X14_place_176_b C  (k176 := s_X14_place_176  n) (fun _ _ _ _ _ _ _ hs => t_X14_place_176 C  n hs) hs
theorem t_X14_place_158 (C : Cx p l s m args meth c B0 X RX14 "place" cX14_place 11 (some .int) []) {k129 : Nat → Int32 → Int32 → Int32 → Int32 → Int32 → aH → aO} (K129 : ∀ (l0 : Nat) (l1 : Int32) (l2 : Int32) (l3 : Int32) (l4 : Int32) (l5 : Int32) (h : aH), k129 l0 l1 l2 l3 l4 l5 h = some (r, h') → Ev p l e { frames := 3, cells := mc, slots := ms, locals := 78 } s m args below meth c D B0 X ws0 r h' mc ms 11 mc ms 129 [some (.ref l0), some (.int l1), some (.int l2), some (.int l3), some (.int l4), some (.int l5), none, none, none, none, none] [] h) {l0 : Nat} {l1 : Int32} {l2 : Int32} {l3 : Int32} {l4 : Int32} {l5 : Int32} {s0 : Int64} {s1 : Int32} {s2 : Nat} {h : aH} (hs : s_X14_place_158 k129 l0 l1 l2 l3 l4 l5 s0 s1 s2 h = some (r, h')) : Ev p l e { frames := 3, cells := mc, slots := ms, locals := 78 } s m args below meth c D B0 X ws0 r h' mc ms 11 mc ms 158 [some (.ref l0), some (.int l1), some (.int l2), some (.int l3), some (.int l4), some (.int l5), none, none, none, none, none] [.long s0, .int s1, .ref s2] h := by
  unfold s_X14_place_158 at hs
  obtain ⟨h158, e158, hs⟩ := aB hs
  refine ev_last C e158 dX14_place_158 ?_
  refine ev_aload_n C (x := .ref l0) rfl trivial dX14_place_159 ?_
  obtain ⟨x160, e160, hs⟩ := aB hs
  refine ev_get C (ci := 14) (k := 55) rfl wu_14 (by decide) wf_X14_121 (gO_F e160) dX14_place_160 ?_
  refine ev_iload C rfl dX14_place_163 ?_
  refine ev_lconst C (v := 0) dX14_place_165 (by decide) ?_
  obtain ⟨h166, e166, hs⟩ := aB hs
  refine ev_last C e166 dX14_place_166 ?_
  refine ev_iinc C (i := 5) (n := 1) (x := l5) (v := l5 + 1) rfl (congrArg (fun z => l5 + z) (show Int32.ofInt 1 = 1 by decide)) (by decide) dX14_place_167 ?_
  refine ev_goto C (tgt := 129) (by decide) dX14_place_170 ?_
  exact (K129 _ _ _ _ _ _ _ hs)
theorem t_X14_place_129_b (C : Cx p l s m args meth c B0 X RX14 "place" cX14_place 11 (some .int) [])   {k129 : Nat → Int32 → Int32 → Int32 → Int32 → Int32 → aH → aO} (K129 : ∀ (l0 : Nat) (l1 : Int32) (l2 : Int32) (l3 : Int32) (l4 : Int32) (l5 : Int32) (h : aH), k129 l0 l1 l2 l3 l4 l5 h = some (r, h') → Ev p l e { frames := 3, cells := mc, slots := ms, locals := 78 } s m args below meth c D B0 X ws0 r h' mc ms 11 mc ms 129 [some (.ref l0), some (.int l1), some (.int l2), some (.int l3), some (.int l4), some (.int l5), none, none, none, none, none] [] h) {l0 : Nat} {l1 : Int32} {l2 : Int32} {l3 : Int32} {l4 : Int32} {l5 : Int32} {h : aH} (hs : s_X14_place_129_b  k129 l0 l1 l2 l3 l4 l5 h = some (r, h')) : Ev p l e { frames := 3, cells := mc, slots := ms, locals := 78 } s m args below meth c D B0 X ws0 r h' mc ms 11 mc ms 129 [some (.ref l0), some (.int l1), some (.int l2), some (.int l3), some (.int l4), some (.int l5), none, none, none, none, none] [] h := by
  unfold s_X14_place_129_b at hs
  refine ev_iload C rfl dX14_place_129 ?_
  refine ev_bipush C (v := 9) dX14_place_131 (by decide) ?_
  refine ev_icmp_ge C (tgt := 173) (by decide) dX14_place_133 (fun q133 => ?_) (fun q133 => ?_)
  · replace hs := (if_pos q133).symm.trans hs
    refine ev_iconst C (v := 0) dX14_place_173 (by decide) ?_
    refine ev_istore C (by decide) dX14_place_174 ?_
    exact (t_X14_place_176 C  FU hs)
  · replace hs := (if_neg q133).symm.trans hs
    refine ev_aload_n C (x := .ref l0) rfl trivial dX14_place_136 ?_
    obtain ⟨x137, e137, hs⟩ := aB hs
    refine ev_get C (ci := 14) (k := 54) rfl wu_14 (by decide) wf_X14_118 (gO_F e137) dX14_place_137 ?_
    refine ev_iload C rfl dX14_place_140 ?_
    refine ev_iload C rfl dX14_place_142 ?_
    refine ev_iconst C (v := 3) dX14_place_144 (by decide) ?_
    obtain ⟨n145, hs⟩ := nz_at hs
    refine ev_idiv C n145 dX14_place_145 ?_
    refine ev_iload C rfl dX14_place_146 ?_
    refine ev_iconst C (v := 3) dX14_place_148 (by decide) ?_
    obtain ⟨n149, hs⟩ := nz_at hs
    refine ev_irem C n149 dX14_place_149 ?_
    refine ev_icmp_ne C (tgt := 157) (by decide) dX14_place_150 (fun q150 => ?_) (fun q150 => ?_)
    · replace hs := (if_neg q150).symm.trans hs
      refine ev_lconst C (v := 0) dX14_place_157 (by decide) ?_
      exact (t_X14_place_158 C K129 hs)
    · replace hs := (if_pos q150).symm.trans hs
      refine ev_lconst C (v := 1) dX14_place_153 (by decide) ?_
      refine ev_goto C (tgt := 158) (by decide) dX14_place_154 ?_
      exact (t_X14_place_158 C K129 hs)
theorem t_X14_place_129 (C : Cx p l s m args meth c B0 X RX14 "place" cX14_place 11 (some .int) [])   : ∀ (n : Nat) {l0 : Nat} {l1 : Int32} {l2 : Int32} {l3 : Int32} {l4 : Int32} {l5 : Int32} {h : aH} (hs : s_X14_place_129  n l0 l1 l2 l3 l4 l5 h = some (r, h')), Ev p l e { frames := 3, cells := mc, slots := ms, locals := 78 } s m args below meth c D B0 X ws0 r h' mc ms 11 mc ms 129 [some (.ref l0), some (.int l1), some (.int l2), some (.int l3), some (.int l4), some (.int l5), none, none, none, none, none] [] h
  | 0, _, _, _, _, _, _, _, hs => nomatch hs
  | n + 1, _, _, _, _, _, _, _, hs => t_X14_place_129_b C  (k129 := s_X14_place_129  n) (fun _ _ _ _ _ _ _ hs => t_X14_place_129 C  n hs) hs
theorem t_X14_place_86 (C : Cx p l s m args meth c B0 X RX14 "place" cX14_place 11 (some .int) [])   {l0 : Nat} {l1 : Int32} {l2 : Int32} {l3 : Int32} {l4 : Int32} {h : aH} (hs : s_X14_place_86  l0 l1 l2 l3 l4 h = some (r, h')) : Ev p l e { frames := 3, cells := mc, slots := ms, locals := 78 } s m args below meth c D B0 X ws0 r h' mc ms 11 mc ms 86 [some (.ref l0), some (.int l1), some (.int l2), some (.int l3), some (.int l4), none, none, none, none, none, none] [] h := by
  unfold s_X14_place_86 at hs
  refine ev_aload_n C (x := .ref l0) rfl trivial dX14_place_86 ?_
  obtain ⟨eo87, hs⟩ := kO_at hs
  obtain ⟨x87, h87, e87, hs⟩ := cI_at hs
  refine ev_callV C (T_X14_isLinear _ _ _ _ e87) (ci := 14) rfl eo87 wc_X14_isLinear wm_X14_468 wi_X14_isLinear ws_X14_isLinear wz_X14 hy_X14_isLinear ⟨(Nat.le_of_ble_eq_true rfl), (Nat.le_of_ble_eq_true rfl)⟩ ⟨(Nat.le_refl _), (Nat.le_refl _)⟩ (Nat.le_of_ble_eq_true rfl) rfl dX14_place_87 ?_
  refine ev_if_eq C (tgt := 120) (by decide) dX14_place_90 (fun q90 => ?_) (fun q90 => ?_)
  · replace hs := (if_pos q90).symm.trans hs
    exact Ev.keep [true, false, false, false, false, true, true, true, true, true, true] (t_X14_place_120 C  hs)
  · replace hs := (if_neg q90).symm.trans hs
    refine ev_aload_n C (x := .ref l0) rfl trivial dX14_place_93 ?_
    obtain ⟨x94, e94, hs⟩ := aB hs
    refine ev_get C (ci := 14) (k := 4) rfl wu_14 (by decide) wf_X14_376 (gO_F e94) dX14_place_94 ?_
    obtain ⟨x97, e97, hs⟩ := aB hs
    refine ev_getN C (ci := 13) (k := 0) rfl wu_13 (by decide) wg_X14_252 (gO_F e97) dX14_place_97 ?_
    refine ev_iconst C (v := 1) dX14_place_100 (by decide) ?_
    obtain ⟨x101, e101, hs⟩ := aB hs
    refine ev_iald C e101 dX14_place_101 ?_
    refine ev_iconst C (v := 1) dX14_place_102 (by decide) ?_
    refine ev_icmp_ne C (tgt := 120) (by decide) dX14_place_103 (fun q103 => ?_) (fun q103 => ?_)
    · replace hs := (if_neg q103).symm.trans hs
      exact Ev.keep [true, false, false, false, false, true, true, true, true, true, true] (t_X14_place_120 C  hs)
    · replace hs := (if_pos q103).symm.trans hs
      refine ev_aload_n C (x := .ref l0) rfl trivial dX14_place_106 ?_
      refine ev_aload_n C (x := .ref l0) rfl trivial dX14_place_107 ?_
      refine ev_iconst C (v := 0) dX14_place_108 (by decide) ?_
      obtain ⟨eo109, hs⟩ := kO_at hs
      obtain ⟨x109, h109, e109, hs⟩ := cI_at hs
      refine ev_callV C (T_X14_columns _ _ _ _ _ e109) (ci := 14) rfl eo109 wc_X14_columns wm_X14_570 wi_X14_columns ws_X14_columns wz_X14 hy_X14_columns ⟨(Nat.le_of_ble_eq_true rfl), (Nat.le_of_ble_eq_true rfl)⟩ ⟨(Nat.le_refl _), (Nat.le_refl _)⟩ (Nat.le_of_ble_eq_true rfl) rfl dX14_place_109 ?_
      obtain ⟨eo112, hs⟩ := kO_at hs
      obtain ⟨x112, h112, e112, hs⟩ := cI_at hs
      refine ev_callV C (T_X14_rankOf _ _ _ _ _ e112) (ci := 14) rfl eo112 wc_X14_rankOf wm_X14_574 wi_X14_rankOf ws_X14_rankOf wz_X14 hy_X14_rankOf ⟨(Nat.le_of_ble_eq_true rfl), (Nat.le_of_ble_eq_true rfl)⟩ ⟨(Nat.le_refl _), (Nat.le_refl _)⟩ (Nat.le_of_ble_eq_true rfl) rfl dX14_place_112 ?_
      refine ev_iload C rfl dX14_place_115 ?_
      refine ev_icmp_eq C (tgt := 126) (by decide) dX14_place_117 (fun q117 => ?_) (fun q117 => ?_)
      · replace hs := (if_pos q117).symm.trans hs
        refine ev_iconst C (v := 0) dX14_place_126 (by decide) ?_
        refine ev_istore C (by decide) dX14_place_127 ?_
        exact (t_X14_place_129 C  FU hs)
      · replace hs := (if_neg q117).symm.trans hs
        exact Ev.keep [true, false, false, false, false, true, true, true, true, true, true] (t_X14_place_120 C  hs)
theorem t_X14_place_61 (C : Cx p l s m args meth c B0 X RX14 "place" cX14_place 11 (some .int) [])   {l0 : Nat} {l1 : Int32} {l2 : Int32} {l3 : Int32} {l4 : Int32} {h : aH} (hs : s_X14_place_61  l0 l1 l2 l3 l4 h = some (r, h')) : Ev p l e { frames := 3, cells := mc, slots := ms, locals := 78 } s m args below meth c D B0 X ws0 r h' mc ms 11 mc ms 61 [some (.ref l0), some (.int l1), some (.int l2), some (.int l3), some (.int l4), none, none, none, none, none, none] [] h := by
  unfold s_X14_place_61 at hs
  refine ev_iload C rfl dX14_place_61 ?_
  refine ev_iconst C (v := 2) dX14_place_63 (by decide) ?_
  refine ev_icmp_le C (tgt := 86) (by decide) dX14_place_64 (fun q64 => ?_) (fun q64 => ?_)
  · replace hs := (if_pos q64).symm.trans hs
    exact (t_X14_place_86 C  hs)
  · replace hs := (if_neg q64).symm.trans hs
    refine ev_iload_n C rfl dX14_place_67 ?_
    refine ev_sipush C (v := (-999)) dX14_place_68 (by decide) ?_
    refine ev_sipush C (v := 999) dX14_place_71 (by decide) ?_
    obtain ⟨x74, h74, e74, hs⟩ := cI_at hs
    refine ev_callS C (T_X14_in _ _ _ _ _ _ e74) wc_X14_in wm_X14_313 wt_X14_in wz_X14 hy_X14_in ⟨(Nat.le_of_ble_eq_true rfl), (Nat.le_of_ble_eq_true rfl)⟩ ⟨(Nat.le_refl _), (Nat.le_refl _)⟩ (Nat.le_of_ble_eq_true rfl) rfl dX14_place_74 ?_
    refine ev_if_ne C (tgt := 86) (by decide) dX14_place_77 (fun q77 => ?_) (fun q77 => ?_)
    · replace hs := (if_neg q77).symm.trans hs
      exact (t_X14_place_86 C  hs)
    · replace hs := (if_pos q77).symm.trans hs
      exact Ev.keep [true, false, false, false, false, true, true, true, true, true, true] (t_X14_place_80 C  hs)
theorem hy_X14_place : yX14_place.cls ≠ "java/lang/invoke/MethodHandle" ∧ yX14_place.cls ≠ "java/lang/invoke/VarHandle" ∧ (parseMethodDescriptor yX14_place.desc).map (fun d => d.parameters.length) = some 3 := by decide +kernel
theorem T_X14_place (o : Nat) (a1 : Int32) (a2 : Int32) (a3 : Int32) (h : aH) (r : aR) (h' : aH) (hs : s_X14_place o a1 a2 a3 h = some (r, h')) : Mt yX14_place (Cond.code yX14_place cX14_place 11 (some .int) :: aTB) 3 78 0 0 [.ref o, .int a1, .int a2, .int a3] h r h' := by
  unfold s_X14_place at hs
  refine Mt_of (k := 7) (by decide) rfl (fun p l e s m args below meth c D B0 X ws0 C => ?_)
  show Ev p l e { frames := 3, cells := 0, slots := 0, locals := 78 } s m args below meth c D B0 X ws0 r h' 0 0 11 0 0 0 [some (.ref o), some (.int a1), some (.int a2), some (.int a3), none, none, none, none, none, none, none] [] h
  refine ev_aload_n C (x := .ref o) rfl trivial dX14_place_0 ?_
  refine ev_iconst C (v := 0) dX14_place_1 (by decide) ?_
  obtain ⟨h2, e2, hs⟩ := aB hs
  refine ev_put C (ci := 14) (k := 0) rfl wu_14 (by decide) tyX14 tyX14_ok nmX14 wf_X14_154 rfl trivial e2 dX14_place_2 ?_
  refine ev_aload_n C (x := .ref o) rfl trivial dX14_place_5 ?_
  obtain ⟨x6, e6, hs⟩ := aB hs
  refine ev_get C (ci := 14) (k := 4) rfl wu_14 (by decide) wf_X14_376 (gW_F e6).1 dX14_place_6 ?_
  cases x6 with
  | null =>
    refine ev_ifnonnull_n C dX14_place_9 ?_
    refine ev_aload_n C (x := .ref o) rfl trivial dX14_place_12 ?_
    refine ev_iconst C (v := 1) dX14_place_13 (by decide) ?_
    obtain ⟨eo14, hs⟩ := kO_at hs
    obtain ⟨x14, h14, e14, hs⟩ := cI_at hs
    refine ev_callV C (T_X14_refused _ _ _ _ _ e14) (ci := 14) rfl eo14 wc_X14_refused wm_X14_360 wi_X14_refused ws_X14_refused wz_X14 hy_X14_refused ⟨(Nat.le_of_ble_eq_true rfl), (Nat.le_of_ble_eq_true rfl)⟩ ⟨(Nat.le_refl _), (Nat.le_refl _)⟩ (Nat.le_of_ble_eq_true rfl) rfl dX14_place_14 ?_
    cases hs
    exact ev_iret C rfl rfl (Nat.le_refl _) (Nat.le_refl _) rfl dX14_place_17
  | ref n9 =>
    refine ev_ifnonnull_r C (tgt := 18) (by decide) dX14_place_9 ?_
    refine ev_aload_n C (x := .ref o) rfl trivial dX14_place_18 ?_
    obtain ⟨x19, e19, hs⟩ := aB hs
    refine ev_get C (ci := 14) (k := 4) rfl wu_14 (by decide) wf_X14_376 (gO_F e19) dX14_place_19 ?_
    obtain ⟨x22, e22, hs⟩ := aB hs
    refine ev_getN C (ci := 13) (k := 0) rfl wu_13 (by decide) wg_X14_252 (gO_F e22) dX14_place_22 ?_
    refine ev_iconst C (v := 0) dX14_place_25 (by decide) ?_
    obtain ⟨x26, e26, hs⟩ := aB hs
    refine ev_iald C e26 dX14_place_26 ?_
    refine ev_istore C (by decide) dX14_place_27 ?_
    refine ev_iload_n C rfl dX14_place_29 ?_
    refine ev_sipush C (v := (-999)) dX14_place_30 (by decide) ?_
    refine ev_sipush C (v := 999) dX14_place_33 (by decide) ?_
    obtain ⟨x36, h36, e36, hs⟩ := cI_at hs
    refine ev_callS C (T_X14_in _ _ _ _ _ _ e36) wc_X14_in wm_X14_313 wt_X14_in wz_X14 hy_X14_in ⟨(Nat.le_of_ble_eq_true rfl), (Nat.le_of_ble_eq_true rfl)⟩ ⟨(Nat.le_refl _), (Nat.le_refl _)⟩ (Nat.le_of_ble_eq_true rfl) rfl dX14_place_36 ?_
    refine ev_if_eq C (tgt := 80) (by decide) dX14_place_39 (fun q39 => ?_) (fun q39 => ?_)
    · replace hs := (if_pos q39).symm.trans hs
      exact Ev.keep [true, false, false, false, false, true, true, true, true, true, true] (t_X14_place_80 C  hs)
    · replace hs := (if_neg q39).symm.trans hs
      refine ev_iload C rfl dX14_place_42 ?_
      refine ev_iconst C (v := 1) dX14_place_44 (by decide) ?_
      refine ev_icmp_le C (tgt := 61) (by decide) dX14_place_45 (fun q45 => ?_) (fun q45 => ?_)
      · replace hs := (if_pos q45).symm.trans hs
        exact (t_X14_place_61 C  hs)
      · replace hs := (if_neg q45).symm.trans hs
        refine ev_iload_n C rfl dX14_place_48 ?_
        refine ev_sipush C (v := (-999)) dX14_place_49 (by decide) ?_
        refine ev_sipush C (v := 999) dX14_place_52 (by decide) ?_
        obtain ⟨x55, h55, e55, hs⟩ := cI_at hs
        refine ev_callS C (T_X14_in _ _ _ _ _ _ e55) wc_X14_in wm_X14_313 wt_X14_in wz_X14 hy_X14_in ⟨(Nat.le_of_ble_eq_true rfl), (Nat.le_of_ble_eq_true rfl)⟩ ⟨(Nat.le_refl _), (Nat.le_refl _)⟩ (Nat.le_of_ble_eq_true rfl) rfl dX14_place_55 ?_
        refine ev_if_eq C (tgt := 80) (by decide) dX14_place_58 (fun q58 => ?_) (fun q58 => ?_)
        · replace hs := (if_pos q58).symm.trans hs
          exact Ev.keep [true, false, false, false, false, true, true, true, true, true, true] (t_X14_place_80 C  hs)
        · replace hs := (if_neg q58).symm.trans hs
          exact (t_X14_place_61 C  hs)
  | _ => cases hs
end
-- X14_gain
theorem dX14_gain_0 : decode cX14_gain 0 = .ok (.aload_n 0, 1) := by decide +kernel
theorem dX14_gain_1 : decode cX14_gain 1 = .ok (.iconst 0, 1) := by decide +kernel
theorem dX14_gain_2 : decode cX14_gain 2 = .ok (.putfield 154, 3) := by decide +kernel
theorem dX14_gain_5 : decode cX14_gain 5 = .ok (.iload_n 1, 1) := by decide +kernel
theorem dX14_gain_6 : decode cX14_gain 6 = .ok (.iconst 0, 1) := by decide +kernel
theorem dX14_gain_7 : decode cX14_gain 7 = .ok (.aload_n 0, 1) := by decide +kernel
theorem dX14_gain_8 : decode cX14_gain 8 = .ok (.getfield 593, 3) := by decide +kernel
theorem dX14_gain_11 : decode cX14_gain 11 = .ok (.iconst 1, 1) := by decide +kernel
theorem dX14_gain_12 : decode cX14_gain 12 = .ok (.isub, 1) := by decide +kernel
theorem dX14_gain_13 : decode cX14_gain 13 = .ok (.invokestatic 313, 3) := by decide +kernel
theorem dX14_gain_16 : decode cX14_gain 16 = .ok (.ifCond .ne 7, 3) := by decide +kernel
theorem dX14_gain_19 : decode cX14_gain 19 = .ok (.ldc2_w 602, 3) := by decide +kernel
theorem dX14_gain_22 : decode cX14_gain 22 = .ok (.lreturn, 1) := by decide +kernel
theorem dX14_gain_23 : decode cX14_gain 23 = .ok (.iload_n 2, 1) := by decide +kernel
theorem dX14_gain_24 : decode cX14_gain 24 = .ok (.ifCond .eq 12, 3) := by decide +kernel
theorem dX14_gain_27 : decode cX14_gain 27 = .ok (.aload_n 0, 1) := by decide +kernel
theorem dX14_gain_28 : decode cX14_gain 28 = .ok (.getfield 115, 3) := by decide +kernel
theorem dX14_gain_31 : decode cX14_gain 31 = .ok (.iload_n 1, 1) := by decide +kernel
theorem dX14_gain_32 : decode cX14_gain 32 = .ok (.laload, 1) := by decide +kernel
theorem dX14_gain_33 : decode cX14_gain 33 = .ok (.goto 9, 3) := by decide +kernel
theorem dX14_gain_36 : decode cX14_gain 36 = .ok (.aload_n 0, 1) := by decide +kernel
theorem dX14_gain_37 : decode cX14_gain 37 = .ok (.getfield 112, 3) := by decide +kernel
theorem dX14_gain_40 : decode cX14_gain 40 = .ok (.iload_n 1, 1) := by decide +kernel
theorem dX14_gain_41 : decode cX14_gain 41 = .ok (.laload, 1) := by decide +kernel
theorem dX14_gain_42 : decode cX14_gain 42 = .ok (.lreturn, 1) := by decide +kernel
def s_X14_gain (o : Nat) (a1 : Int32) (a2 : Int32) (h : aH) : aO :=
  (pF h (.ref o) 14 0 (.int 0)).bind fun h2 => (gI h2 (.ref o) 14 56).bind fun x8 => cI (s_X14_in a1 0 (x8 - 1) h2) fun x13 h13 => if x13 = 0 then (some (.inl (some (.long (-9223372036854775808))), h13)) else (if a2 = 0 then ((gO h13 (.ref o) 14 52).bind fun x37 => (ldJ h13 (.ref x37) a1).bind fun x41 => some (.inl (some (.long x41)), h13)) else ((gO h13 (.ref o) 14 53).bind fun x28 => (ldJ h13 (.ref x28) a1).bind fun x32 => some (.inl (some (.long x32)), h13)))
section
variable {p : Program} {l : Launch} {e : Env} {s : State} {m : MethodId} {args : Array Value} {below : List Frame} {meth : Method} {c : Code} {D : va_G} {B0 : Nat} {X : Nat → Nat} {ws0 : va_W} {r : aR} {h' : aH} {mc ms : Nat}
theorem hy_X14_gain : yX14_gain.cls ≠ "java/lang/invoke/MethodHandle" ∧ yX14_gain.cls ≠ "java/lang/invoke/VarHandle" ∧ (parseMethodDescriptor yX14_gain.desc).map (fun d => d.parameters.length) = some 2 := by decide +kernel
theorem T_X14_gain (o : Nat) (a1 : Int32) (a2 : Int32) (h : aH) (r : aR) (h' : aH) (hs : s_X14_gain o a1 a2 h = some (r, h')) : Mt yX14_gain (Cond.code yX14_gain cX14_gain 3 (some .long) :: aTB) 1 22 0 0 [.ref o, .int a1, .int a2] h r h' := by
  unfold s_X14_gain at hs
  refine Mt_of (k := 0) (by decide) rfl (fun p l e s m args below meth c D B0 X ws0 C => ?_)
  show Ev p l e { frames := 1, cells := 0, slots := 0, locals := 22 } s m args below meth c D B0 X ws0 r h' 0 0 3 0 0 0 [some (.ref o), some (.int a1), some (.int a2)] [] h
  refine ev_aload_n C (x := .ref o) rfl trivial dX14_gain_0 ?_
  refine ev_iconst C (v := 0) dX14_gain_1 (by decide) ?_
  obtain ⟨h2, e2, hs⟩ := aB hs
  refine ev_put C (ci := 14) (k := 0) rfl wu_14 (by decide) tyX14 tyX14_ok nmX14 wf_X14_154 rfl trivial e2 dX14_gain_2 ?_
  refine ev_iload_n C rfl dX14_gain_5 ?_
  refine ev_iconst C (v := 0) dX14_gain_6 (by decide) ?_
  refine ev_aload_n C (x := .ref o) rfl trivial dX14_gain_7 ?_
  obtain ⟨x8, e8, hs⟩ := aB hs
  refine ev_get C (ci := 14) (k := 56) rfl wu_14 (by decide) wf_X14_593 (gI_F e8) dX14_gain_8 ?_
  refine ev_iconst C (v := 1) dX14_gain_11 (by decide) ?_
  refine ev_isub C dX14_gain_12 ?_
  obtain ⟨x13, h13, e13, hs⟩ := cI_at hs
  refine ev_callS C (T_X14_in _ _ _ _ _ _ e13) wc_X14_in wm_X14_313 wt_X14_in wz_X14 hy_X14_in ⟨(Nat.le_of_ble_eq_true rfl), (Nat.le_of_ble_eq_true rfl)⟩ ⟨(Nat.le_refl _), (Nat.le_refl _)⟩ (Nat.le_of_ble_eq_true rfl) rfl dX14_gain_13 ?_
  refine ev_if_ne C (tgt := 23) (by decide) dX14_gain_16 (fun q16 => ?_) (fun q16 => ?_)
  · replace hs := (if_neg q16).symm.trans hs
    refine ev_iload_n C rfl dX14_gain_23 ?_
    refine ev_if_eq C (tgt := 36) (by decide) dX14_gain_24 (fun q24 => ?_) (fun q24 => ?_)
    · replace hs := (if_pos q24).symm.trans hs
      refine ev_aload_n C (x := .ref o) rfl trivial dX14_gain_36 ?_
      obtain ⟨x37, e37, hs⟩ := aB hs
      refine ev_get C (ci := 14) (k := 52) rfl wu_14 (by decide) wf_X14_112 (gO_F e37) dX14_gain_37 ?_
      refine ev_iload_n C rfl dX14_gain_40 ?_
      obtain ⟨x41, e41, hs⟩ := aB hs
      refine ev_lald C e41 dX14_gain_41 ?_
      cases hs
      exact ev_lret C rfl rfl (Nat.le_refl _) (Nat.le_refl _) rfl dX14_gain_42
    · replace hs := (if_neg q24).symm.trans hs
      refine ev_aload_n C (x := .ref o) rfl trivial dX14_gain_27 ?_
      obtain ⟨x28, e28, hs⟩ := aB hs
      refine ev_get C (ci := 14) (k := 53) rfl wu_14 (by decide) wf_X14_115 (gO_F e28) dX14_gain_28 ?_
      refine ev_iload_n C rfl dX14_gain_31 ?_
      obtain ⟨x32, e32, hs⟩ := aB hs
      refine ev_lald C e32 dX14_gain_32 ?_
      refine ev_goto C (tgt := 42) (by decide) dX14_gain_33 ?_
      cases hs
      exact ev_lret C rfl rfl (Nat.le_refl _) (Nat.le_refl _) rfl dX14_gain_42
  · replace hs := (if_pos q16).symm.trans hs
    refine ev_ldc2 C wv_X14_602 dX14_gain_19 ?_
    cases hs
    exact ev_lret C rfl rfl (Nat.le_refl _) (Nat.le_refl _) rfl dX14_gain_22
end
-- X14_stays
theorem dX14_stays_0 : decode cX14_stays 0 = .ok (.aload_n 0, 1) := by decide +kernel
theorem dX14_stays_1 : decode cX14_stays 1 = .ok (.iconst 0, 1) := by decide +kernel
theorem dX14_stays_2 : decode cX14_stays 2 = .ok (.putfield 154, 3) := by decide +kernel
theorem dX14_stays_5 : decode cX14_stays 5 = .ok (.iload_n 1, 1) := by decide +kernel
theorem dX14_stays_6 : decode cX14_stays 6 = .ok (.sipush (-999), 3) := by decide +kernel
theorem dX14_stays_9 : decode cX14_stays 9 = .ok (.sipush 999, 3) := by decide +kernel
theorem dX14_stays_12 : decode cX14_stays 12 = .ok (.invokestatic 313, 3) := by decide +kernel
theorem dX14_stays_15 : decode cX14_stays 15 = .ok (.ifCond .eq 60, 3) := by decide +kernel
theorem dX14_stays_18 : decode cX14_stays 18 = .ok (.iload_n 2, 1) := by decide +kernel
theorem dX14_stays_19 : decode cX14_stays 19 = .ok (.sipush (-999), 3) := by decide +kernel
theorem dX14_stays_22 : decode cX14_stays 22 = .ok (.sipush 999, 3) := by decide +kernel
theorem dX14_stays_25 : decode cX14_stays 25 = .ok (.invokestatic 313, 3) := by decide +kernel
theorem dX14_stays_28 : decode cX14_stays 28 = .ok (.ifCond .eq 47, 3) := by decide +kernel
theorem dX14_stays_31 : decode cX14_stays 31 = .ok (.iload_n 3, 1) := by decide +kernel
theorem dX14_stays_32 : decode cX14_stays 32 = .ok (.sipush (-999), 3) := by decide +kernel
theorem dX14_stays_35 : decode cX14_stays 35 = .ok (.sipush 999, 3) := by decide +kernel
theorem dX14_stays_38 : decode cX14_stays 38 = .ok (.invokestatic 313, 3) := by decide +kernel
theorem dX14_stays_41 : decode cX14_stays 41 = .ok (.ifCond .eq 34, 3) := by decide +kernel
theorem dX14_stays_44 : decode cX14_stays 44 = .ok (.iload 4, 2) := by decide +kernel
theorem dX14_stays_46 : decode cX14_stays 46 = .ok (.sipush (-999), 3) := by decide +kernel
theorem dX14_stays_49 : decode cX14_stays 49 = .ok (.sipush 999, 3) := by decide +kernel
theorem dX14_stays_52 : decode cX14_stays 52 = .ok (.invokestatic 313, 3) := by decide +kernel
theorem dX14_stays_55 : decode cX14_stays 55 = .ok (.ifCond .eq 20, 3) := by decide +kernel
theorem dX14_stays_58 : decode cX14_stays 58 = .ok (.iload_n 1, 1) := by decide +kernel
theorem dX14_stays_59 : decode cX14_stays 59 = .ok (.ifCond .ne 22, 3) := by decide +kernel
theorem dX14_stays_62 : decode cX14_stays 62 = .ok (.iload_n 2, 1) := by decide +kernel
theorem dX14_stays_63 : decode cX14_stays 63 = .ok (.ifCond .ne 18, 3) := by decide +kernel
theorem dX14_stays_66 : decode cX14_stays 66 = .ok (.iload_n 3, 1) := by decide +kernel
theorem dX14_stays_67 : decode cX14_stays 67 = .ok (.ifCond .ne 14, 3) := by decide +kernel
theorem dX14_stays_70 : decode cX14_stays 70 = .ok (.iload 4, 2) := by decide +kernel
theorem dX14_stays_72 : decode cX14_stays 72 = .ok (.ifCond .ne 9, 3) := by decide +kernel
theorem dX14_stays_75 : decode cX14_stays 75 = .ok (.aload_n 0, 1) := by decide +kernel
theorem dX14_stays_76 : decode cX14_stays 76 = .ok (.iconst 2, 1) := by decide +kernel
theorem dX14_stays_77 : decode cX14_stays 77 = .ok (.invokevirtual 360, 3) := by decide +kernel
theorem dX14_stays_80 : decode cX14_stays 80 = .ok (.ireturn, 1) := by decide +kernel
theorem dX14_stays_81 : decode cX14_stays 81 = .ok (.aload_n 0, 1) := by decide +kernel
theorem dX14_stays_82 : decode cX14_stays 82 = .ok (.getfield 127, 3) := by decide +kernel
theorem dX14_stays_85 : decode cX14_stays 85 = .ok (.iconst 0, 1) := by decide +kernel
theorem dX14_stays_86 : decode cX14_stays 86 = .ok (.iload_n 1, 1) := by decide +kernel
theorem dX14_stays_87 : decode cX14_stays 87 = .ok (.i2l, 1) := by decide +kernel
theorem dX14_stays_88 : decode cX14_stays 88 = .ok (.lastore, 1) := by decide +kernel
theorem dX14_stays_89 : decode cX14_stays 89 = .ok (.aload_n 0, 1) := by decide +kernel
theorem dX14_stays_90 : decode cX14_stays 90 = .ok (.getfield 127, 3) := by decide +kernel
theorem dX14_stays_93 : decode cX14_stays 93 = .ok (.iconst 1, 1) := by decide +kernel
theorem dX14_stays_94 : decode cX14_stays 94 = .ok (.iload_n 2, 1) := by decide +kernel
theorem dX14_stays_95 : decode cX14_stays 95 = .ok (.i2l, 1) := by decide +kernel
theorem dX14_stays_96 : decode cX14_stays 96 = .ok (.lastore, 1) := by decide +kernel
theorem dX14_stays_97 : decode cX14_stays 97 = .ok (.aload_n 0, 1) := by decide +kernel
theorem dX14_stays_98 : decode cX14_stays 98 = .ok (.getfield 127, 3) := by decide +kernel
theorem dX14_stays_101 : decode cX14_stays 101 = .ok (.iconst 2, 1) := by decide +kernel
theorem dX14_stays_102 : decode cX14_stays 102 = .ok (.iload_n 3, 1) := by decide +kernel
theorem dX14_stays_103 : decode cX14_stays 103 = .ok (.i2l, 1) := by decide +kernel
theorem dX14_stays_104 : decode cX14_stays 104 = .ok (.lastore, 1) := by decide +kernel
theorem dX14_stays_105 : decode cX14_stays 105 = .ok (.aload_n 0, 1) := by decide +kernel
theorem dX14_stays_106 : decode cX14_stays 106 = .ok (.getfield 127, 3) := by decide +kernel
theorem dX14_stays_109 : decode cX14_stays 109 = .ok (.iconst 3, 1) := by decide +kernel
theorem dX14_stays_110 : decode cX14_stays 110 = .ok (.iload 4, 2) := by decide +kernel
theorem dX14_stays_112 : decode cX14_stays 112 = .ok (.i2l, 1) := by decide +kernel
theorem dX14_stays_113 : decode cX14_stays 113 = .ok (.lastore, 1) := by decide +kernel
theorem dX14_stays_114 : decode cX14_stays 114 = .ok (.iconst 3, 1) := by decide +kernel
theorem dX14_stays_115 : decode cX14_stays 115 = .ok (.istore 5, 2) := by decide +kernel
theorem dX14_stays_117 : decode cX14_stays 117 = .ok (.aload_n 0, 1) := by decide +kernel
theorem dX14_stays_118 : decode cX14_stays 118 = .ok (.getfield 127, 3) := by decide +kernel
theorem dX14_stays_121 : decode cX14_stays 121 = .ok (.iload 5, 2) := by decide +kernel
theorem dX14_stays_123 : decode cX14_stays 123 = .ok (.laload, 1) := by decide +kernel
theorem dX14_stays_124 : decode cX14_stays 124 = .ok (.lconst 0, 1) := by decide +kernel
theorem dX14_stays_125 : decode cX14_stays 125 = .ok (.lcmp, 1) := by decide +kernel
theorem dX14_stays_126 : decode cX14_stays 126 = .ok (.ifCond .ne 9, 3) := by decide +kernel
theorem dX14_stays_129 : decode cX14_stays 129 = .ok (.iinc 5 (-1), 3) := by decide +kernel
theorem dX14_stays_132 : decode cX14_stays 132 = .ok (.goto (-15), 3) := by decide +kernel
theorem dX14_stays_135 : decode cX14_stays 135 = .ok (.iload 5, 2) := by decide +kernel
theorem dX14_stays_137 : decode cX14_stays 137 = .ok (.ifCond .le 127, 3) := by decide +kernel
theorem dX14_stays_140 : decode cX14_stays 140 = .ok (.aload_n 0, 1) := by decide +kernel
theorem dX14_stays_141 : decode cX14_stays 141 = .ok (.getfield 127, 3) := by decide +kernel
theorem dX14_stays_144 : decode cX14_stays 144 = .ok (.iconst 0, 1) := by decide +kernel
theorem dX14_stays_145 : decode cX14_stays 145 = .ok (.laload, 1) := by decide +kernel
theorem dX14_stays_146 : decode cX14_stays 146 = .ok (.lstore 6, 2) := by decide +kernel
theorem dX14_stays_148 : decode cX14_stays 148 = .ok (.aload_n 0, 1) := by decide +kernel
theorem dX14_stays_149 : decode cX14_stays 149 = .ok (.getfield 127, 3) := by decide +kernel
theorem dX14_stays_152 : decode cX14_stays 152 = .ok (.iload 5, 2) := by decide +kernel
theorem dX14_stays_154 : decode cX14_stays 154 = .ok (.laload, 1) := by decide +kernel
theorem dX14_stays_155 : decode cX14_stays 155 = .ok (.lstore 8, 2) := by decide +kernel
theorem dX14_stays_157 : decode cX14_stays 157 = .ok (.lload 6, 2) := by decide +kernel
theorem dX14_stays_159 : decode cX14_stays 159 = .ok (.invokestatic 596, 3) := by decide +kernel
theorem dX14_stays_162 : decode cX14_stays 162 = .ok (.lload 8, 2) := by decide +kernel
theorem dX14_stays_164 : decode cX14_stays 164 = .ok (.invokestatic 596, 3) := by decide +kernel
theorem dX14_stays_167 : decode cX14_stays 167 = .ok (.lcmp, 1) := by decide +kernel
theorem dX14_stays_168 : decode cX14_stays 168 = .ok (.ifCond .lt 9, 3) := by decide +kernel
theorem dX14_stays_171 : decode cX14_stays 171 = .ok (.aload_n 0, 1) := by decide +kernel
theorem dX14_stays_172 : decode cX14_stays 172 = .ok (.iconst 0, 1) := by decide +kernel
theorem dX14_stays_173 : decode cX14_stays 173 = .ok (.invokevirtual 413, 3) := by decide +kernel
theorem dX14_stays_176 : decode cX14_stays 176 = .ok (.ireturn, 1) := by decide +kernel
theorem dX14_stays_177 : decode cX14_stays 177 = .ok (.iconst 0, 1) := by decide +kernel
theorem dX14_stays_178 : decode cX14_stays 178 = .ok (.istore 10, 2) := by decide +kernel
theorem dX14_stays_180 : decode cX14_stays 180 = .ok (.iload 10, 2) := by decide +kernel
theorem dX14_stays_182 : decode cX14_stays 182 = .ok (.iload 5, 2) := by decide +kernel
theorem dX14_stays_184 : decode cX14_stays 184 = .ok (.if_icmp .ge 44, 3) := by decide +kernel
theorem dX14_stays_187 : decode cX14_stays 187 = .ok (.aload_n 0, 1) := by decide +kernel
theorem dX14_stays_188 : decode cX14_stays 188 = .ok (.getfield 124, 3) := by decide +kernel
theorem dX14_stays_191 : decode cX14_stays 191 = .ok (.iload 10, 2) := by decide +kernel
theorem dX14_stays_193 : decode cX14_stays 193 = .ok (.lload 8, 2) := by decide +kernel
theorem dX14_stays_195 : decode cX14_stays 195 = .ok (.aload_n 0, 1) := by decide +kernel
theorem dX14_stays_196 : decode cX14_stays 196 = .ok (.getfield 127, 3) := by decide +kernel
theorem dX14_stays_199 : decode cX14_stays 199 = .ok (.iload 10, 2) := by decide +kernel
theorem dX14_stays_201 : decode cX14_stays 201 = .ok (.iconst 1, 1) := by decide +kernel
theorem dX14_stays_202 : decode cX14_stays 202 = .ok (.iadd, 1) := by decide +kernel
theorem dX14_stays_203 : decode cX14_stays 203 = .ok (.laload, 1) := by decide +kernel
theorem dX14_stays_204 : decode cX14_stays 204 = .ok (.lmul, 1) := by decide +kernel
theorem dX14_stays_205 : decode cX14_stays 205 = .ok (.lload 6, 2) := by decide +kernel
theorem dX14_stays_207 : decode cX14_stays 207 = .ok (.aload_n 0, 1) := by decide +kernel
theorem dX14_stays_208 : decode cX14_stays 208 = .ok (.getfield 127, 3) := by decide +kernel
theorem dX14_stays_211 : decode cX14_stays 211 = .ok (.iload 5, 2) := by decide +kernel
theorem dX14_stays_213 : decode cX14_stays 213 = .ok (.iconst 1, 1) := by decide +kernel
theorem dX14_stays_214 : decode cX14_stays 214 = .ok (.isub, 1) := by decide +kernel
theorem dX14_stays_215 : decode cX14_stays 215 = .ok (.iload 10, 2) := by decide +kernel
theorem dX14_stays_217 : decode cX14_stays 217 = .ok (.isub, 1) := by decide +kernel
theorem dX14_stays_218 : decode cX14_stays 218 = .ok (.laload, 1) := by decide +kernel
theorem dX14_stays_219 : decode cX14_stays 219 = .ok (.lmul, 1) := by decide +kernel
theorem dX14_stays_220 : decode cX14_stays 220 = .ok (.lsub, 1) := by decide +kernel
theorem dX14_stays_221 : decode cX14_stays 221 = .ok (.lastore, 1) := by decide +kernel
theorem dX14_stays_222 : decode cX14_stays 222 = .ok (.iinc 10 1, 3) := by decide +kernel
theorem dX14_stays_225 : decode cX14_stays 225 = .ok (.goto (-45), 3) := by decide +kernel
theorem dX14_stays_228 : decode cX14_stays 228 = .ok (.iconst 0, 1) := by decide +kernel
theorem dX14_stays_229 : decode cX14_stays 229 = .ok (.istore 10, 2) := by decide +kernel
theorem dX14_stays_231 : decode cX14_stays 231 = .ok (.iload 10, 2) := by decide +kernel
theorem dX14_stays_233 : decode cX14_stays 233 = .ok (.iload 5, 2) := by decide +kernel
theorem dX14_stays_235 : decode cX14_stays 235 = .ok (.if_icmp .ge 23, 3) := by decide +kernel
theorem dX14_stays_238 : decode cX14_stays 238 = .ok (.aload_n 0, 1) := by decide +kernel
theorem dX14_stays_239 : decode cX14_stays 239 = .ok (.getfield 127, 3) := by decide +kernel
theorem dX14_stays_242 : decode cX14_stays 242 = .ok (.iload 10, 2) := by decide +kernel
theorem dX14_stays_244 : decode cX14_stays 244 = .ok (.aload_n 0, 1) := by decide +kernel
theorem dX14_stays_245 : decode cX14_stays 245 = .ok (.getfield 124, 3) := by decide +kernel
theorem dX14_stays_248 : decode cX14_stays 248 = .ok (.iload 10, 2) := by decide +kernel
theorem dX14_stays_250 : decode cX14_stays 250 = .ok (.laload, 1) := by decide +kernel
theorem dX14_stays_251 : decode cX14_stays 251 = .ok (.lastore, 1) := by decide +kernel
theorem dX14_stays_252 : decode cX14_stays 252 = .ok (.iinc 10 1, 3) := by decide +kernel
theorem dX14_stays_255 : decode cX14_stays 255 = .ok (.goto (-24), 3) := by decide +kernel
theorem dX14_stays_258 : decode cX14_stays 258 = .ok (.iinc 5 (-1), 3) := by decide +kernel
theorem dX14_stays_261 : decode cX14_stays 261 = .ok (.goto (-126), 3) := by decide +kernel
theorem dX14_stays_264 : decode cX14_stays 264 = .ok (.aload_n 0, 1) := by decide +kernel
theorem dX14_stays_265 : decode cX14_stays 265 = .ok (.iconst 1, 1) := by decide +kernel
theorem dX14_stays_266 : decode cX14_stays 266 = .ok (.invokevirtual 413, 3) := by decide +kernel
theorem dX14_stays_269 : decode cX14_stays 269 = .ok (.ireturn, 1) := by decide +kernel
def s_X14_stays_75  (l0 : Nat) (h : aH) : aO :=
  kO h l0 14 (cI (s_X14_refused l0 2 h) fun x77 h77 => some (.inl (some (.int x77)), h77))
def s_X14_stays_231_b (k135 : Nat → Int32 → aH → aO) (k231 : Nat → Int32 → Int32 → aH → aO) (l0 : Nat) (l5 : Int32) (l10 : Int32) (h : aH) : aO :=
  if l5 ≤ l10 then (k135 l0 (l5 + (-1)) h) else ((gO h (.ref l0) 14 58).bind fun x239 => (gO h (.ref l0) 14 57).bind fun x245 => (ldJ h (.ref x245) l10).bind fun x250 => (stJ h (.ref x239) l10 x250).bind fun h251 => k231 l0 l5 (l10 + 1) h251)
def s_X14_stays_231 (k135 : Nat → Int32 → aH → aO) (n : Nat) : Nat → Int32 → Int32 → aH → aO := lpF (fun _ _ _ _ => none) (s_X14_stays_231_b k135) n
def s_X14_stays_180_b (k135 : Nat → Int32 → aH → aO) (k180 : Nat → Int32 → Int64 → Int64 → Int32 → aH → aO) (l0 : Nat) (l5 : Int32) (l6 : Int64) (l8 : Int64) (l10 : Int32) (h : aH) : aO :=
  if l5 ≤ l10 then (s_X14_stays_231 k135 FU l0 l5 0 h) else ((gO h (.ref l0) 14 57).bind fun x188 => (gO h (.ref l0) 14 58).bind fun x196 => (ldJ h (.ref x196) (l10 + 1)).bind fun x203 => (gO h (.ref l0) 14 58).bind fun x208 => (ldJ h (.ref x208) ((l5 - 1) - l10)).bind fun x218 => (stJ h (.ref x188) l10 ((l8 * x203) - (l6 * x218))).bind fun h221 => k180 l0 l5 l6 l8 (l10 + 1) h221)
def s_X14_stays_180 (k135 : Nat → Int32 → aH → aO) (n : Nat) : Nat → Int32 → Int64 → Int64 → Int32 → aH → aO := lpF (fun _ _ _ _ _ _ => none) (s_X14_stays_180_b k135) n
def s_X14_stays_135_b  (k135 : Nat → Int32 → aH → aO) (l0 : Nat) (l5 : Int32) (h : aH) : aO :=
  if l5 ≤ 0 then (kO h l0 14 (cI (s_X14_done l0 1 h) fun x266 h266 => some (.inl (some (.int x266)), h266))) else ((gO h (.ref l0) 14 58).bind fun x141 => (ldJ h (.ref x141) 0).bind fun x145 => (gO h (.ref l0) 14 58).bind fun x149 => (ldJ h (.ref x149) l5).bind fun x154 => if (lg_cmp (jabsL x145) (jabsL x154)) < 0 then (s_X14_stays_180 k135 FU l0 l5 x145 x154 0 h) else (kO h l0 14 (cI (s_X14_done l0 0 h) fun x173 h173 => some (.inl (some (.int x173)), h173))))
def s_X14_stays_135  (n : Nat) : Nat → Int32 → aH → aO := lpF (fun _ _ _ => none) (s_X14_stays_135_b ) n
def s_X14_stays_117_b  (k117 : Nat → Int32 → aH → aO) (l0 : Nat) (l5 : Int32) (h : aH) : aO :=
  (gO h (.ref l0) 14 58).bind fun x118 => (ldJ h (.ref x118) l5).bind fun x123 => if (lg_cmp x123 0) = 0 then (k117 l0 (l5 + (-1)) h) else (s_X14_stays_135 FU l0 l5 h)
def s_X14_stays_117  (n : Nat) : Nat → Int32 → aH → aO := lpF (fun _ _ _ => none) (s_X14_stays_117_b ) n
def s_X14_stays_81  (l0 : Nat) (l1 : Int32) (l2 : Int32) (l3 : Int32) (l4 : Int32) (h : aH) : aO :=
  (gO h (.ref l0) 14 58).bind fun x82 => (stJ h (.ref x82) 0 l1.toInt64).bind fun h88 => (gO h88 (.ref l0) 14 58).bind fun x90 => (stJ h88 (.ref x90) 1 l2.toInt64).bind fun h96 => (gO h96 (.ref l0) 14 58).bind fun x98 => (stJ h96 (.ref x98) 2 l3.toInt64).bind fun h104 => (gO h104 (.ref l0) 14 58).bind fun x106 => (stJ h104 (.ref x106) 3 l4.toInt64).bind fun h113 => s_X14_stays_117 FU l0 3 h113
def s_X14_stays (o : Nat) (a1 : Int32) (a2 : Int32) (a3 : Int32) (a4 : Int32) (h : aH) : aO :=
  (pF h (.ref o) 14 0 (.int 0)).bind fun h2 => cI (s_X14_in a1 (-999) 999 h2) fun x12 h12 => if x12 = 0 then (s_X14_stays_75 o h12) else (cI (s_X14_in a2 (-999) 999 h12) fun x25 h25 => if x25 = 0 then (s_X14_stays_75 o h25) else (cI (s_X14_in a3 (-999) 999 h25) fun x38 h38 => if x38 = 0 then (s_X14_stays_75 o h38) else (cI (s_X14_in a4 (-999) 999 h38) fun x52 h52 => if x52 = 0 then (s_X14_stays_75 o h52) else (if a1 = 0 then (if a2 = 0 then (if a3 = 0 then (if a4 = 0 then (s_X14_stays_75 o h52) else (s_X14_stays_81 o a1 a2 a3 a4 h52)) else (s_X14_stays_81 o a1 a2 a3 a4 h52)) else (s_X14_stays_81 o a1 a2 a3 a4 h52)) else (s_X14_stays_81 o a1 a2 a3 a4 h52)))))
section
variable {p : Program} {l : Launch} {e : Env} {s : State} {m : MethodId} {args : Array Value} {below : List Frame} {meth : Method} {c : Code} {D : va_G} {B0 : Nat} {X : Nat → Nat} {ws0 : va_W} {r : aR} {h' : aH} {mc ms : Nat}
theorem t_X14_stays_75 (C : Cx p l s m args meth c B0 X RX14 "stays" cX14_stays 11 (some .int) [])   {l0 : Nat} {h : aH} (hs : s_X14_stays_75  l0 h = some (r, h')) : Ev p l e { frames := 1, cells := mc, slots := ms, locals := 23 } s m args below meth c D B0 X ws0 r h' mc ms 11 mc ms 75 [some (.ref l0), none, none, none, none, none, none, none, none, none, none] [] h := by
  unfold s_X14_stays_75 at hs
  refine ev_aload_n C (x := .ref l0) rfl trivial dX14_stays_75 ?_
  refine ev_iconst C (v := 2) dX14_stays_76 (by decide) ?_
  obtain ⟨eo77, hs⟩ := kO_at hs
  obtain ⟨x77, h77, e77, hs⟩ := cI_at hs
  refine ev_callV C (T_X14_refused _ _ _ _ _ e77) (ci := 14) rfl eo77 wc_X14_refused wm_X14_360 wi_X14_refused ws_X14_refused wz_X14 hy_X14_refused ⟨(Nat.le_of_ble_eq_true rfl), (Nat.le_of_ble_eq_true rfl)⟩ ⟨(Nat.le_refl _), (Nat.le_refl _)⟩ (Nat.le_of_ble_eq_true rfl) rfl dX14_stays_77 ?_
  cases hs
  exact ev_iret C rfl rfl (Nat.le_refl _) (Nat.le_refl _) rfl dX14_stays_80
theorem t_X14_stays_231_b (C : Cx p l s m args meth c B0 X RX14 "stays" cX14_stays 11 (some .int) []) {k135 : Nat → Int32 → aH → aO} (K135 : ∀ (l0 : Nat) (l5 : Int32) (h : aH), k135 l0 l5 h = some (r, h') → Ev p l e { frames := 1, cells := mc, slots := ms, locals := 23 } s m args below meth c D B0 X ws0 r h' mc ms 11 mc ms 135 [some (.ref l0), none, none, none, none, some (.int l5), none, none, none, none, none] [] h) {k231 : Nat → Int32 → Int32 → aH → aO} (K231 : ∀ (l0 : Nat) (l5 : Int32) (l10 : Int32) (h : aH), k231 l0 l5 l10 h = some (r, h') → Ev p l e { frames := 1, cells := mc, slots := ms, locals := 23 } s m args below meth c D B0 X ws0 r h' mc ms 11 mc ms 231 [some (.ref l0), none, none, none, none, some (.int l5), none, none, none, none, some (.int l10)] [] h) {l0 : Nat} {l5 : Int32} {l10 : Int32} {h : aH} (hs : s_X14_stays_231_b k135 k231 l0 l5 l10 h = some (r, h')) : Ev p l e { frames := 1, cells := mc, slots := ms, locals := 23 } s m args below meth c D B0 X ws0 r h' mc ms 11 mc ms 231 [some (.ref l0), none, none, none, none, some (.int l5), none, none, none, none, some (.int l10)] [] h := by
  unfold s_X14_stays_231_b at hs
  refine ev_iload C rfl dX14_stays_231 ?_
  refine ev_iload C rfl dX14_stays_233 ?_
  refine ev_icmp_ge C (tgt := 258) (by decide) dX14_stays_235 (fun q235 => ?_) (fun q235 => ?_)
  · replace hs := (if_pos q235).symm.trans hs
    refine ev_iinc C (i := 5) (n := -1) (x := l5) (v := l5 + (-1)) rfl (congrArg (fun z => l5 + z) (show Int32.ofInt (-1) = (-1) by decide)) (by decide) dX14_stays_258 ?_
    refine ev_goto C (tgt := 135) (by decide) dX14_stays_261 ?_
    exact Ev.keep [true, true, true, true, true, true, true, true, true, true, false] (K135 _ _ _ hs)
  · replace hs := (if_neg q235).symm.trans hs
    refine ev_aload_n C (x := .ref l0) rfl trivial dX14_stays_238 ?_
    obtain ⟨x239, e239, hs⟩ := aB hs
    refine ev_get C (ci := 14) (k := 58) rfl wu_14 (by decide) wf_X14_127 (gO_F e239) dX14_stays_239 ?_
    refine ev_iload C rfl dX14_stays_242 ?_
    refine ev_aload_n C (x := .ref l0) rfl trivial dX14_stays_244 ?_
    obtain ⟨x245, e245, hs⟩ := aB hs
    refine ev_get C (ci := 14) (k := 57) rfl wu_14 (by decide) wf_X14_124 (gO_F e245) dX14_stays_245 ?_
    refine ev_iload C rfl dX14_stays_248 ?_
    obtain ⟨x250, e250, hs⟩ := aB hs
    refine ev_lald C e250 dX14_stays_250 ?_
    obtain ⟨h251, e251, hs⟩ := aB hs
    refine ev_last C e251 dX14_stays_251 ?_
    refine ev_iinc C (i := 10) (n := 1) (x := l10) (v := l10 + 1) rfl (congrArg (fun z => l10 + z) (show Int32.ofInt 1 = 1 by decide)) (by decide) dX14_stays_252 ?_
    refine ev_goto C (tgt := 231) (by decide) dX14_stays_255 ?_
    exact (K231 _ _ _ _ hs)
theorem t_X14_stays_231 (C : Cx p l s m args meth c B0 X RX14 "stays" cX14_stays 11 (some .int) []) {k135 : Nat → Int32 → aH → aO} (K135 : ∀ (l0 : Nat) (l5 : Int32) (h : aH), k135 l0 l5 h = some (r, h') → Ev p l e { frames := 1, cells := mc, slots := ms, locals := 23 } s m args below meth c D B0 X ws0 r h' mc ms 11 mc ms 135 [some (.ref l0), none, none, none, none, some (.int l5), none, none, none, none, none] [] h) : ∀ (n : Nat) {l0 : Nat} {l5 : Int32} {l10 : Int32} {h : aH} (hs : s_X14_stays_231 k135 n l0 l5 l10 h = some (r, h')), Ev p l e { frames := 1, cells := mc, slots := ms, locals := 23 } s m args below meth c D B0 X ws0 r h' mc ms 11 mc ms 231 [some (.ref l0), none, none, none, none, some (.int l5), none, none, none, none, some (.int l10)] [] h
  | 0, _, _, _, _, hs => nomatch hs
  | n + 1, _, _, _, _, hs => t_X14_stays_231_b C K135 (k231 := s_X14_stays_231 k135 n) (fun _ _ _ _ hs => t_X14_stays_231 C K135 n hs) hs
theorem t_X14_stays_180_b (C : Cx p l s m args meth c B0 X RX14 "stays" cX14_stays 11 (some .int) []) {k135 : Nat → Int32 → aH → aO} (K135 : ∀ (l0 : Nat) (l5 : Int32) (h : aH), k135 l0 l5 h = some (r, h') → Ev p l e { frames := 1, cells := mc, slots := ms, locals := 23 } s m args below meth c D B0 X ws0 r h' mc ms 11 mc ms 135 [some (.ref l0), none, none, none, none, some (.int l5), none, none, none, none, none] [] h) {k180 : Nat → Int32 → Int64 → Int64 → Int32 → aH → aO} (K180 : ∀ (l0 : Nat) (l5 : Int32) (l6 : Int64) (l8 : Int64) (l10 : Int32) (h : aH), k180 l0 l5 l6 l8 l10 h = some (r, h') → Ev p l e { frames := 1, cells := mc, slots := ms, locals := 23 } s m args below meth c D B0 X ws0 r h' mc ms 11 mc ms 180 [some (.ref l0), none, none, none, none, some (.int l5), some (.long l6), none, some (.long l8), none, some (.int l10)] [] h) {l0 : Nat} {l5 : Int32} {l6 : Int64} {l8 : Int64} {l10 : Int32} {h : aH} (hs : s_X14_stays_180_b k135 k180 l0 l5 l6 l8 l10 h = some (r, h')) : Ev p l e { frames := 1, cells := mc, slots := ms, locals := 23 } s m args below meth c D B0 X ws0 r h' mc ms 11 mc ms 180 [some (.ref l0), none, none, none, none, some (.int l5), some (.long l6), none, some (.long l8), none, some (.int l10)] [] h := by
  unfold s_X14_stays_180_b at hs
  refine ev_iload C rfl dX14_stays_180 ?_
  refine ev_iload C rfl dX14_stays_182 ?_
  refine ev_icmp_ge C (tgt := 228) (by decide) dX14_stays_184 (fun q184 => ?_) (fun q184 => ?_)
  · replace hs := (if_pos q184).symm.trans hs
    refine ev_iconst C (v := 0) dX14_stays_228 (by decide) ?_
    refine ev_istore C (by decide) dX14_stays_229 ?_
    exact Ev.keep [true, true, true, true, true, true, false, true, false, true, true] (t_X14_stays_231 C K135 FU hs)
  · replace hs := (if_neg q184).symm.trans hs
    refine ev_aload_n C (x := .ref l0) rfl trivial dX14_stays_187 ?_
    obtain ⟨x188, e188, hs⟩ := aB hs
    refine ev_get C (ci := 14) (k := 57) rfl wu_14 (by decide) wf_X14_124 (gO_F e188) dX14_stays_188 ?_
    refine ev_iload C rfl dX14_stays_191 ?_
    refine ev_lload C rfl dX14_stays_193 ?_
    refine ev_aload_n C (x := .ref l0) rfl trivial dX14_stays_195 ?_
    obtain ⟨x196, e196, hs⟩ := aB hs
    refine ev_get C (ci := 14) (k := 58) rfl wu_14 (by decide) wf_X14_127 (gO_F e196) dX14_stays_196 ?_
    refine ev_iload C rfl dX14_stays_199 ?_
    refine ev_iconst C (v := 1) dX14_stays_201 (by decide) ?_
    refine ev_iadd C dX14_stays_202 ?_
    obtain ⟨x203, e203, hs⟩ := aB hs
    refine ev_lald C e203 dX14_stays_203 ?_
    refine ev_lmul C dX14_stays_204 ?_
    refine ev_lload C rfl dX14_stays_205 ?_
    refine ev_aload_n C (x := .ref l0) rfl trivial dX14_stays_207 ?_
    obtain ⟨x208, e208, hs⟩ := aB hs
    refine ev_get C (ci := 14) (k := 58) rfl wu_14 (by decide) wf_X14_127 (gO_F e208) dX14_stays_208 ?_
    refine ev_iload C rfl dX14_stays_211 ?_
    refine ev_iconst C (v := 1) dX14_stays_213 (by decide) ?_
    refine ev_isub C dX14_stays_214 ?_
    refine ev_iload C rfl dX14_stays_215 ?_
    refine ev_isub C dX14_stays_217 ?_
    obtain ⟨x218, e218, hs⟩ := aB hs
    refine ev_lald C e218 dX14_stays_218 ?_
    refine ev_lmul C dX14_stays_219 ?_
    refine ev_lsub C dX14_stays_220 ?_
    obtain ⟨h221, e221, hs⟩ := aB hs
    refine ev_last C e221 dX14_stays_221 ?_
    refine ev_iinc C (i := 10) (n := 1) (x := l10) (v := l10 + 1) rfl (congrArg (fun z => l10 + z) (show Int32.ofInt 1 = 1 by decide)) (by decide) dX14_stays_222 ?_
    refine ev_goto C (tgt := 180) (by decide) dX14_stays_225 ?_
    exact (K180 _ _ _ _ _ _ hs)
theorem t_X14_stays_180 (C : Cx p l s m args meth c B0 X RX14 "stays" cX14_stays 11 (some .int) []) {k135 : Nat → Int32 → aH → aO} (K135 : ∀ (l0 : Nat) (l5 : Int32) (h : aH), k135 l0 l5 h = some (r, h') → Ev p l e { frames := 1, cells := mc, slots := ms, locals := 23 } s m args below meth c D B0 X ws0 r h' mc ms 11 mc ms 135 [some (.ref l0), none, none, none, none, some (.int l5), none, none, none, none, none] [] h) : ∀ (n : Nat) {l0 : Nat} {l5 : Int32} {l6 : Int64} {l8 : Int64} {l10 : Int32} {h : aH} (hs : s_X14_stays_180 k135 n l0 l5 l6 l8 l10 h = some (r, h')), Ev p l e { frames := 1, cells := mc, slots := ms, locals := 23 } s m args below meth c D B0 X ws0 r h' mc ms 11 mc ms 180 [some (.ref l0), none, none, none, none, some (.int l5), some (.long l6), none, some (.long l8), none, some (.int l10)] [] h
  | 0, _, _, _, _, _, _, hs => nomatch hs
  | n + 1, _, _, _, _, _, _, hs => t_X14_stays_180_b C K135 (k180 := s_X14_stays_180 k135 n) (fun _ _ _ _ _ _ hs => t_X14_stays_180 C K135 n hs) hs
theorem t_X14_stays_135_b (C : Cx p l s m args meth c B0 X RX14 "stays" cX14_stays 11 (some .int) [])   {k135 : Nat → Int32 → aH → aO} (K135 : ∀ (l0 : Nat) (l5 : Int32) (h : aH), k135 l0 l5 h = some (r, h') → Ev p l e { frames := 1, cells := mc, slots := ms, locals := 23 } s m args below meth c D B0 X ws0 r h' mc ms 11 mc ms 135 [some (.ref l0), none, none, none, none, some (.int l5), none, none, none, none, none] [] h) {l0 : Nat} {l5 : Int32} {h : aH} (hs : s_X14_stays_135_b  k135 l0 l5 h = some (r, h')) : Ev p l e { frames := 1, cells := mc, slots := ms, locals := 23 } s m args below meth c D B0 X ws0 r h' mc ms 11 mc ms 135 [some (.ref l0), none, none, none, none, some (.int l5), none, none, none, none, none] [] h := by
  unfold s_X14_stays_135_b at hs
  refine ev_iload C rfl dX14_stays_135 ?_
  refine ev_if_le C (tgt := 264) (by decide) dX14_stays_137 (fun q137 => ?_) (fun q137 => ?_)
  · replace hs := (if_pos q137).symm.trans hs
    refine ev_aload_n C (x := .ref l0) rfl trivial dX14_stays_264 ?_
    refine ev_iconst C (v := 1) dX14_stays_265 (by decide) ?_
    obtain ⟨eo266, hs⟩ := kO_at hs
    obtain ⟨x266, h266, e266, hs⟩ := cI_at hs
    refine ev_callV C (T_X14_done _ _ _ _ _ e266) (ci := 14) rfl eo266 wc_X14_done wm_X14_413 wi_X14_done ws_X14_done wz_X14 hy_X14_done ⟨(Nat.le_of_ble_eq_true rfl), (Nat.le_of_ble_eq_true rfl)⟩ ⟨(Nat.le_refl _), (Nat.le_refl _)⟩ (Nat.le_of_ble_eq_true rfl) rfl dX14_stays_266 ?_
    cases hs
    exact ev_iret C rfl rfl (Nat.le_refl _) (Nat.le_refl _) rfl dX14_stays_269
  · replace hs := (if_neg q137).symm.trans hs
    refine ev_aload_n C (x := .ref l0) rfl trivial dX14_stays_140 ?_
    obtain ⟨x141, e141, hs⟩ := aB hs
    refine ev_get C (ci := 14) (k := 58) rfl wu_14 (by decide) wf_X14_127 (gO_F e141) dX14_stays_141 ?_
    refine ev_iconst C (v := 0) dX14_stays_144 (by decide) ?_
    obtain ⟨x145, e145, hs⟩ := aB hs
    refine ev_lald C e145 dX14_stays_145 ?_
    refine ev_lstore C (by decide) dX14_stays_146 ?_
    refine ev_aload_n C (x := .ref l0) rfl trivial dX14_stays_148 ?_
    obtain ⟨x149, e149, hs⟩ := aB hs
    refine ev_get C (ci := 14) (k := 58) rfl wu_14 (by decide) wf_X14_127 (gO_F e149) dX14_stays_149 ?_
    refine ev_iload C rfl dX14_stays_152 ?_
    obtain ⟨x154, e154, hs⟩ := aB hs
    refine ev_lald C e154 dX14_stays_154 ?_
    refine ev_lstore C (by decide) dX14_stays_155 ?_
    refine ev_lload C rfl dX14_stays_157 ?_
    refine ev_mabsL C wm_X14_596 wt_mabsL wz_J9 wc_mabsL (Nat.le_of_ble_eq_true rfl) (Nat.le_of_ble_eq_true rfl) (Nat.le_refl _) (Nat.le_refl _) dX14_stays_159 ?_
    refine ev_lload C rfl dX14_stays_162 ?_
    refine ev_mabsL C wm_X14_596 wt_mabsL wz_J9 wc_mabsL (Nat.le_of_ble_eq_true rfl) (Nat.le_of_ble_eq_true rfl) (Nat.le_refl _) (Nat.le_refl _) dX14_stays_164 ?_
    refine ev_lcmp C dX14_stays_167 ?_
    refine ev_if_lt C (tgt := 177) (by decide) dX14_stays_168 (fun q168 => ?_) (fun q168 => ?_)
    · replace hs := (if_pos q168).symm.trans hs
      refine ev_iconst C (v := 0) dX14_stays_177 (by decide) ?_
      refine ev_istore C (by decide) dX14_stays_178 ?_
      exact (t_X14_stays_180 C K135 FU hs)
    · replace hs := (if_neg q168).symm.trans hs
      refine ev_aload_n C (x := .ref l0) rfl trivial dX14_stays_171 ?_
      refine ev_iconst C (v := 0) dX14_stays_172 (by decide) ?_
      obtain ⟨eo173, hs⟩ := kO_at hs
      obtain ⟨x173, h173, e173, hs⟩ := cI_at hs
      refine ev_callV C (T_X14_done _ _ _ _ _ e173) (ci := 14) rfl eo173 wc_X14_done wm_X14_413 wi_X14_done ws_X14_done wz_X14 hy_X14_done ⟨(Nat.le_of_ble_eq_true rfl), (Nat.le_of_ble_eq_true rfl)⟩ ⟨(Nat.le_refl _), (Nat.le_refl _)⟩ (Nat.le_of_ble_eq_true rfl) rfl dX14_stays_173 ?_
      cases hs
      exact ev_iret C rfl rfl (Nat.le_refl _) (Nat.le_refl _) rfl dX14_stays_176
theorem t_X14_stays_135 (C : Cx p l s m args meth c B0 X RX14 "stays" cX14_stays 11 (some .int) [])   : ∀ (n : Nat) {l0 : Nat} {l5 : Int32} {h : aH} (hs : s_X14_stays_135  n l0 l5 h = some (r, h')), Ev p l e { frames := 1, cells := mc, slots := ms, locals := 23 } s m args below meth c D B0 X ws0 r h' mc ms 11 mc ms 135 [some (.ref l0), none, none, none, none, some (.int l5), none, none, none, none, none] [] h
  | 0, _, _, _, hs => nomatch hs
  | n + 1, _, _, _, hs => t_X14_stays_135_b C  (k135 := s_X14_stays_135  n) (fun _ _ _ hs => t_X14_stays_135 C  n hs) hs
theorem t_X14_stays_117_b (C : Cx p l s m args meth c B0 X RX14 "stays" cX14_stays 11 (some .int) [])   {k117 : Nat → Int32 → aH → aO} (K117 : ∀ (l0 : Nat) (l5 : Int32) (h : aH), k117 l0 l5 h = some (r, h') → Ev p l e { frames := 1, cells := mc, slots := ms, locals := 23 } s m args below meth c D B0 X ws0 r h' mc ms 11 mc ms 117 [some (.ref l0), none, none, none, none, some (.int l5), none, none, none, none, none] [] h) {l0 : Nat} {l5 : Int32} {h : aH} (hs : s_X14_stays_117_b  k117 l0 l5 h = some (r, h')) : Ev p l e { frames := 1, cells := mc, slots := ms, locals := 23 } s m args below meth c D B0 X ws0 r h' mc ms 11 mc ms 117 [some (.ref l0), none, none, none, none, some (.int l5), none, none, none, none, none] [] h := by
  unfold s_X14_stays_117_b at hs
  refine ev_aload_n C (x := .ref l0) rfl trivial dX14_stays_117 ?_
  obtain ⟨x118, e118, hs⟩ := aB hs
  refine ev_get C (ci := 14) (k := 58) rfl wu_14 (by decide) wf_X14_127 (gO_F e118) dX14_stays_118 ?_
  refine ev_iload C rfl dX14_stays_121 ?_
  obtain ⟨x123, e123, hs⟩ := aB hs
  refine ev_lald C e123 dX14_stays_123 ?_
  refine ev_lconst C (v := 0) dX14_stays_124 (by decide) ?_
  refine ev_lcmp C dX14_stays_125 ?_
  refine ev_if_ne C (tgt := 135) (by decide) dX14_stays_126 (fun q126 => ?_) (fun q126 => ?_)
  · replace hs := (if_neg q126).symm.trans hs
    exact (t_X14_stays_135 C  FU hs)
  · replace hs := (if_pos q126).symm.trans hs
    refine ev_iinc C (i := 5) (n := -1) (x := l5) (v := l5 + (-1)) rfl (congrArg (fun z => l5 + z) (show Int32.ofInt (-1) = (-1) by decide)) (by decide) dX14_stays_129 ?_
    refine ev_goto C (tgt := 117) (by decide) dX14_stays_132 ?_
    exact (K117 _ _ _ hs)
theorem t_X14_stays_117 (C : Cx p l s m args meth c B0 X RX14 "stays" cX14_stays 11 (some .int) [])   : ∀ (n : Nat) {l0 : Nat} {l5 : Int32} {h : aH} (hs : s_X14_stays_117  n l0 l5 h = some (r, h')), Ev p l e { frames := 1, cells := mc, slots := ms, locals := 23 } s m args below meth c D B0 X ws0 r h' mc ms 11 mc ms 117 [some (.ref l0), none, none, none, none, some (.int l5), none, none, none, none, none] [] h
  | 0, _, _, _, hs => nomatch hs
  | n + 1, _, _, _, hs => t_X14_stays_117_b C  (k117 := s_X14_stays_117  n) (fun _ _ _ hs => t_X14_stays_117 C  n hs) hs
theorem t_X14_stays_81 (C : Cx p l s m args meth c B0 X RX14 "stays" cX14_stays 11 (some .int) [])   {l0 : Nat} {l1 : Int32} {l2 : Int32} {l3 : Int32} {l4 : Int32} {h : aH} (hs : s_X14_stays_81  l0 l1 l2 l3 l4 h = some (r, h')) : Ev p l e { frames := 1, cells := mc, slots := ms, locals := 23 } s m args below meth c D B0 X ws0 r h' mc ms 11 mc ms 81 [some (.ref l0), some (.int l1), some (.int l2), some (.int l3), some (.int l4), none, none, none, none, none, none] [] h := by
  unfold s_X14_stays_81 at hs
  refine ev_aload_n C (x := .ref l0) rfl trivial dX14_stays_81 ?_
  obtain ⟨x82, e82, hs⟩ := aB hs
  refine ev_get C (ci := 14) (k := 58) rfl wu_14 (by decide) wf_X14_127 (gO_F e82) dX14_stays_82 ?_
  refine ev_iconst C (v := 0) dX14_stays_85 (by decide) ?_
  refine ev_iload_n C rfl dX14_stays_86 ?_
  refine ev_i2l C dX14_stays_87 ?_
  obtain ⟨h88, e88, hs⟩ := aB hs
  refine ev_last C e88 dX14_stays_88 ?_
  refine ev_aload_n C (x := .ref l0) rfl trivial dX14_stays_89 ?_
  obtain ⟨x90, e90, hs⟩ := aB hs
  refine ev_get C (ci := 14) (k := 58) rfl wu_14 (by decide) wf_X14_127 (gO_F e90) dX14_stays_90 ?_
  refine ev_iconst C (v := 1) dX14_stays_93 (by decide) ?_
  refine ev_iload_n C rfl dX14_stays_94 ?_
  refine ev_i2l C dX14_stays_95 ?_
  obtain ⟨h96, e96, hs⟩ := aB hs
  refine ev_last C e96 dX14_stays_96 ?_
  refine ev_aload_n C (x := .ref l0) rfl trivial dX14_stays_97 ?_
  obtain ⟨x98, e98, hs⟩ := aB hs
  refine ev_get C (ci := 14) (k := 58) rfl wu_14 (by decide) wf_X14_127 (gO_F e98) dX14_stays_98 ?_
  refine ev_iconst C (v := 2) dX14_stays_101 (by decide) ?_
  refine ev_iload_n C rfl dX14_stays_102 ?_
  refine ev_i2l C dX14_stays_103 ?_
  obtain ⟨h104, e104, hs⟩ := aB hs
  refine ev_last C e104 dX14_stays_104 ?_
  refine ev_aload_n C (x := .ref l0) rfl trivial dX14_stays_105 ?_
  obtain ⟨x106, e106, hs⟩ := aB hs
  refine ev_get C (ci := 14) (k := 58) rfl wu_14 (by decide) wf_X14_127 (gO_F e106) dX14_stays_106 ?_
  refine ev_iconst C (v := 3) dX14_stays_109 (by decide) ?_
  refine ev_iload C rfl dX14_stays_110 ?_
  refine ev_i2l C dX14_stays_112 ?_
  obtain ⟨h113, e113, hs⟩ := aB hs
  refine ev_last C e113 dX14_stays_113 ?_
  refine ev_iconst C (v := 3) dX14_stays_114 (by decide) ?_
  refine ev_istore C (by decide) dX14_stays_115 ?_
  exact Ev.keep [true, false, false, false, false, true, true, true, true, true, true] (t_X14_stays_117 C  FU hs)
theorem hy_X14_stays : yX14_stays.cls ≠ "java/lang/invoke/MethodHandle" ∧ yX14_stays.cls ≠ "java/lang/invoke/VarHandle" ∧ (parseMethodDescriptor yX14_stays.desc).map (fun d => d.parameters.length) = some 4 := by decide +kernel
theorem T_X14_stays (o : Nat) (a1 : Int32) (a2 : Int32) (a3 : Int32) (a4 : Int32) (h : aH) (r : aR) (h' : aH) (hs : s_X14_stays o a1 a2 a3 a4 h = some (r, h')) : Mt yX14_stays (Cond.code yX14_stays cX14_stays 11 (some .int) :: aTB) 1 23 0 0 [.ref o, .int a1, .int a2, .int a3, .int a4] h r h' := by
  unfold s_X14_stays at hs
  refine Mt_of (k := 6) (by decide) rfl (fun p l e s m args below meth c D B0 X ws0 C => ?_)
  show Ev p l e { frames := 1, cells := 0, slots := 0, locals := 23 } s m args below meth c D B0 X ws0 r h' 0 0 11 0 0 0 [some (.ref o), some (.int a1), some (.int a2), some (.int a3), some (.int a4), none, none, none, none, none, none] [] h
  refine ev_aload_n C (x := .ref o) rfl trivial dX14_stays_0 ?_
  refine ev_iconst C (v := 0) dX14_stays_1 (by decide) ?_
  obtain ⟨h2, e2, hs⟩ := aB hs
  refine ev_put C (ci := 14) (k := 0) rfl wu_14 (by decide) tyX14 tyX14_ok nmX14 wf_X14_154 rfl trivial e2 dX14_stays_2 ?_
  refine ev_iload_n C rfl dX14_stays_5 ?_
  refine ev_sipush C (v := (-999)) dX14_stays_6 (by decide) ?_
  refine ev_sipush C (v := 999) dX14_stays_9 (by decide) ?_
  obtain ⟨x12, h12, e12, hs⟩ := cI_at hs
  refine ev_callS C (T_X14_in _ _ _ _ _ _ e12) wc_X14_in wm_X14_313 wt_X14_in wz_X14 hy_X14_in ⟨(Nat.le_of_ble_eq_true rfl), (Nat.le_of_ble_eq_true rfl)⟩ ⟨(Nat.le_refl _), (Nat.le_refl _)⟩ (Nat.le_of_ble_eq_true rfl) rfl dX14_stays_12 ?_
  refine ev_if_eq C (tgt := 75) (by decide) dX14_stays_15 (fun q15 => ?_) (fun q15 => ?_)
  · replace hs := (if_pos q15).symm.trans hs
    exact Ev.keep [true, false, false, false, false, true, true, true, true, true, true] (t_X14_stays_75 C  hs)
  · replace hs := (if_neg q15).symm.trans hs
    refine ev_iload_n C rfl dX14_stays_18 ?_
    refine ev_sipush C (v := (-999)) dX14_stays_19 (by decide) ?_
    refine ev_sipush C (v := 999) dX14_stays_22 (by decide) ?_
    obtain ⟨x25, h25, e25, hs⟩ := cI_at hs
    refine ev_callS C (T_X14_in _ _ _ _ _ _ e25) wc_X14_in wm_X14_313 wt_X14_in wz_X14 hy_X14_in ⟨(Nat.le_of_ble_eq_true rfl), (Nat.le_of_ble_eq_true rfl)⟩ ⟨(Nat.le_refl _), (Nat.le_refl _)⟩ (Nat.le_of_ble_eq_true rfl) rfl dX14_stays_25 ?_
    refine ev_if_eq C (tgt := 75) (by decide) dX14_stays_28 (fun q28 => ?_) (fun q28 => ?_)
    · replace hs := (if_pos q28).symm.trans hs
      exact Ev.keep [true, false, false, false, false, true, true, true, true, true, true] (t_X14_stays_75 C  hs)
    · replace hs := (if_neg q28).symm.trans hs
      refine ev_iload_n C rfl dX14_stays_31 ?_
      refine ev_sipush C (v := (-999)) dX14_stays_32 (by decide) ?_
      refine ev_sipush C (v := 999) dX14_stays_35 (by decide) ?_
      obtain ⟨x38, h38, e38, hs⟩ := cI_at hs
      refine ev_callS C (T_X14_in _ _ _ _ _ _ e38) wc_X14_in wm_X14_313 wt_X14_in wz_X14 hy_X14_in ⟨(Nat.le_of_ble_eq_true rfl), (Nat.le_of_ble_eq_true rfl)⟩ ⟨(Nat.le_refl _), (Nat.le_refl _)⟩ (Nat.le_of_ble_eq_true rfl) rfl dX14_stays_38 ?_
      refine ev_if_eq C (tgt := 75) (by decide) dX14_stays_41 (fun q41 => ?_) (fun q41 => ?_)
      · replace hs := (if_pos q41).symm.trans hs
        exact Ev.keep [true, false, false, false, false, true, true, true, true, true, true] (t_X14_stays_75 C  hs)
      · replace hs := (if_neg q41).symm.trans hs
        refine ev_iload C rfl dX14_stays_44 ?_
        refine ev_sipush C (v := (-999)) dX14_stays_46 (by decide) ?_
        refine ev_sipush C (v := 999) dX14_stays_49 (by decide) ?_
        obtain ⟨x52, h52, e52, hs⟩ := cI_at hs
        refine ev_callS C (T_X14_in _ _ _ _ _ _ e52) wc_X14_in wm_X14_313 wt_X14_in wz_X14 hy_X14_in ⟨(Nat.le_of_ble_eq_true rfl), (Nat.le_of_ble_eq_true rfl)⟩ ⟨(Nat.le_refl _), (Nat.le_refl _)⟩ (Nat.le_of_ble_eq_true rfl) rfl dX14_stays_52 ?_
        refine ev_if_eq C (tgt := 75) (by decide) dX14_stays_55 (fun q55 => ?_) (fun q55 => ?_)
        · replace hs := (if_pos q55).symm.trans hs
          exact Ev.keep [true, false, false, false, false, true, true, true, true, true, true] (t_X14_stays_75 C  hs)
        · replace hs := (if_neg q55).symm.trans hs
          refine ev_iload_n C rfl dX14_stays_58 ?_
          refine ev_if_ne C (tgt := 81) (by decide) dX14_stays_59 (fun q59 => ?_) (fun q59 => ?_)
          · replace hs := (if_neg q59).symm.trans hs
            exact (t_X14_stays_81 C  hs)
          · replace hs := (if_pos q59).symm.trans hs
            refine ev_iload_n C rfl dX14_stays_62 ?_
            refine ev_if_ne C (tgt := 81) (by decide) dX14_stays_63 (fun q63 => ?_) (fun q63 => ?_)
            · replace hs := (if_neg q63).symm.trans hs
              exact (t_X14_stays_81 C  hs)
            · replace hs := (if_pos q63).symm.trans hs
              refine ev_iload_n C rfl dX14_stays_66 ?_
              refine ev_if_ne C (tgt := 81) (by decide) dX14_stays_67 (fun q67 => ?_) (fun q67 => ?_)
              · replace hs := (if_neg q67).symm.trans hs
                exact (t_X14_stays_81 C  hs)
              · replace hs := (if_pos q67).symm.trans hs
                refine ev_iload C rfl dX14_stays_70 ?_
                refine ev_if_ne C (tgt := 81) (by decide) dX14_stays_72 (fun q72 => ?_) (fun q72 => ?_)
                · replace hs := (if_neg q72).symm.trans hs
                  exact (t_X14_stays_81 C  hs)
                · replace hs := (if_pos q72).symm.trans hs
                  exact Ev.keep [true, false, false, false, false, true, true, true, true, true, true] (t_X14_stays_75 C  hs)
end
-- X14_tick
theorem dX14_tick_0 : decode cX14_tick 0 = .ok (.aload_n 0, 1) := by decide +kernel
theorem dX14_tick_1 : decode cX14_tick 1 = .ok (.iconst 0, 1) := by decide +kernel
theorem dX14_tick_2 : decode cX14_tick 2 = .ok (.putfield 154, 3) := by decide +kernel
theorem dX14_tick_5 : decode cX14_tick 5 = .ok (.aload_n 0, 1) := by decide +kernel
theorem dX14_tick_6 : decode cX14_tick 6 = .ok (.iload_n 1, 1) := by decide +kernel
theorem dX14_tick_7 : decode cX14_tick 7 = .ok (.invokevirtual 477, 3) := by decide +kernel
theorem dX14_tick_10 : decode cX14_tick 10 = .ok (.ifCond .ne 9, 3) := by decide +kernel
theorem dX14_tick_13 : decode cX14_tick 13 = .ok (.aload_n 0, 1) := by decide +kernel
theorem dX14_tick_14 : decode cX14_tick 14 = .ok (.iconst 1, 1) := by decide +kernel
theorem dX14_tick_15 : decode cX14_tick 15 = .ok (.invokevirtual 360, 3) := by decide +kernel
theorem dX14_tick_18 : decode cX14_tick 18 = .ok (.ireturn, 1) := by decide +kernel
theorem dX14_tick_19 : decode cX14_tick 19 = .ok (.aload_n 0, 1) := by decide +kernel
theorem dX14_tick_20 : decode cX14_tick 20 = .ok (.getfield 471, 3) := by decide +kernel
theorem dX14_tick_23 : decode cX14_tick 23 = .ok (.bipush 30, 2) := by decide +kernel
theorem dX14_tick_25 : decode cX14_tick 25 = .ok (.if_icmp .ne 9, 3) := by decide +kernel
theorem dX14_tick_28 : decode cX14_tick 28 = .ok (.aload_n 0, 1) := by decide +kernel
theorem dX14_tick_29 : decode cX14_tick 29 = .ok (.iconst 3, 1) := by decide +kernel
theorem dX14_tick_30 : decode cX14_tick 30 = .ok (.invokevirtual 360, 3) := by decide +kernel
theorem dX14_tick_33 : decode cX14_tick 33 = .ok (.ireturn, 1) := by decide +kernel
theorem dX14_tick_34 : decode cX14_tick 34 = .ok (.aload_n 0, 1) := by decide +kernel
theorem dX14_tick_35 : decode cX14_tick 35 = .ok (.dup, 1) := by decide +kernel
theorem dX14_tick_36 : decode cX14_tick 36 = .ok (.getfield 471, 3) := by decide +kernel
theorem dX14_tick_39 : decode cX14_tick 39 = .ok (.iconst 1, 1) := by decide +kernel
theorem dX14_tick_40 : decode cX14_tick 40 = .ok (.iadd, 1) := by decide +kernel
theorem dX14_tick_41 : decode cX14_tick 41 = .ok (.putfield 471, 3) := by decide +kernel
theorem dX14_tick_44 : decode cX14_tick 44 = .ok (.aload_n 0, 1) := by decide +kernel
theorem dX14_tick_45 : decode cX14_tick 45 = .ok (.getfield 130, 3) := by decide +kernel
theorem dX14_tick_48 : decode cX14_tick 48 = .ok (.aload_n 0, 1) := by decide +kernel
theorem dX14_tick_49 : decode cX14_tick 49 = .ok (.getfield 471, 3) := by decide +kernel
theorem dX14_tick_52 : decode cX14_tick 52 = .ok (.iload_n 1, 1) := by decide +kernel
theorem dX14_tick_53 : decode cX14_tick 53 = .ok (.iastore, 1) := by decide +kernel
theorem dX14_tick_54 : decode cX14_tick 54 = .ok (.aload_n 0, 1) := by decide +kernel
theorem dX14_tick_55 : decode cX14_tick 55 = .ok (.aload_n 0, 1) := by decide +kernel
theorem dX14_tick_56 : decode cX14_tick 56 = .ok (.getfield 471, 3) := by decide +kernel
theorem dX14_tick_59 : decode cX14_tick 59 = .ok (.invokevirtual 413, 3) := by decide +kernel
theorem dX14_tick_62 : decode cX14_tick 62 = .ok (.ireturn, 1) := by decide +kernel
def s_X14_tick (o : Nat) (a1 : Int32) (h : aH) : aO :=
  (pF h (.ref o) 14 0 (.int 0)).bind fun h2 => kO h2 o 14 (cI (s_X14_isPush o a1 h2) fun x7 h7 => if x7 = 0 then (kO h7 o 14 (cI (s_X14_refused o 1 h7) fun x15 h15 => some (.inl (some (.int x15)), h15))) else ((gI h7 (.ref o) 14 59).bind fun x20 => if x20 = 30 then (kO h7 o 14 (cI (s_X14_refused o 3 h7) fun x30 h30 => some (.inl (some (.int x30)), h30))) else ((gI h7 (.ref o) 14 59).bind fun x36 => (pF h7 (.ref o) 14 59 (.int (x36 + 1))).bind fun h41 => (gO h41 (.ref o) 14 60).bind fun x45 => (gI h41 (.ref o) 14 59).bind fun x49 => (stI h41 (.ref x45) x49 a1).bind fun h53 => (gI h53 (.ref o) 14 59).bind fun x56 => kO h53 o 14 (cI (s_X14_done o x56 h53) fun x59 h59 => some (.inl (some (.int x59)), h59)))))
section
variable {p : Program} {l : Launch} {e : Env} {s : State} {m : MethodId} {args : Array Value} {below : List Frame} {meth : Method} {c : Code} {D : va_G} {B0 : Nat} {X : Nat → Nat} {ws0 : va_W} {r : aR} {h' : aH} {mc ms : Nat}
theorem hy_X14_tick : yX14_tick.cls ≠ "java/lang/invoke/MethodHandle" ∧ yX14_tick.cls ≠ "java/lang/invoke/VarHandle" ∧ (parseMethodDescriptor yX14_tick.desc).map (fun d => d.parameters.length) = some 1 := by decide +kernel
theorem T_X14_tick (o : Nat) (a1 : Int32) (h : aH) (r : aR) (h' : aH) (hs : s_X14_tick o a1 h = some (r, h')) : Mt yX14_tick (Cond.code yX14_tick cX14_tick 2 (some .int) :: aTB) 2 43 0 0 [.ref o, .int a1] h r h' := by
  unfold s_X14_tick at hs
  refine Mt_of (k := 0) (by decide) rfl (fun p l e s m args below meth c D B0 X ws0 C => ?_)
  show Ev p l e { frames := 2, cells := 0, slots := 0, locals := 43 } s m args below meth c D B0 X ws0 r h' 0 0 2 0 0 0 [some (.ref o), some (.int a1)] [] h
  refine ev_aload_n C (x := .ref o) rfl trivial dX14_tick_0 ?_
  refine ev_iconst C (v := 0) dX14_tick_1 (by decide) ?_
  obtain ⟨h2, e2, hs⟩ := aB hs
  refine ev_put C (ci := 14) (k := 0) rfl wu_14 (by decide) tyX14 tyX14_ok nmX14 wf_X14_154 rfl trivial e2 dX14_tick_2 ?_
  refine ev_aload_n C (x := .ref o) rfl trivial dX14_tick_5 ?_
  refine ev_iload_n C rfl dX14_tick_6 ?_
  obtain ⟨eo7, hs⟩ := kO_at hs
  obtain ⟨x7, h7, e7, hs⟩ := cI_at hs
  refine ev_callV C (T_X14_isPush _ _ _ _ _ e7) (ci := 14) rfl eo7 wc_X14_isPush wm_X14_477 wi_X14_isPush ws_X14_isPush wz_X14 hy_X14_isPush ⟨(Nat.le_of_ble_eq_true rfl), (Nat.le_of_ble_eq_true rfl)⟩ ⟨(Nat.le_refl _), (Nat.le_refl _)⟩ (Nat.le_of_ble_eq_true rfl) rfl dX14_tick_7 ?_
  refine ev_if_ne C (tgt := 19) (by decide) dX14_tick_10 (fun q10 => ?_) (fun q10 => ?_)
  · replace hs := (if_neg q10).symm.trans hs
    refine ev_aload_n C (x := .ref o) rfl trivial dX14_tick_19 ?_
    obtain ⟨x20, e20, hs⟩ := aB hs
    refine ev_get C (ci := 14) (k := 59) rfl wu_14 (by decide) wf_X14_471 (gI_F e20) dX14_tick_20 ?_
    refine ev_bipush C (v := 30) dX14_tick_23 (by decide) ?_
    refine ev_icmp_ne C (tgt := 34) (by decide) dX14_tick_25 (fun q25 => ?_) (fun q25 => ?_)
    · replace hs := (if_neg q25).symm.trans hs
      refine ev_aload_n C (x := .ref o) rfl trivial dX14_tick_34 ?_
      refine ev_dup C rfl dX14_tick_35 ?_
      obtain ⟨x36, e36, hs⟩ := aB hs
      refine ev_get C (ci := 14) (k := 59) rfl wu_14 (by decide) wf_X14_471 (gI_F e36) dX14_tick_36 ?_
      refine ev_iconst C (v := 1) dX14_tick_39 (by decide) ?_
      refine ev_iadd C dX14_tick_40 ?_
      obtain ⟨h41, e41, hs⟩ := aB hs
      refine ev_put C (ci := 14) (k := 59) rfl wu_14 (by decide) tyX14 tyX14_ok nmX14 wf_X14_471 rfl trivial e41 dX14_tick_41 ?_
      refine ev_aload_n C (x := .ref o) rfl trivial dX14_tick_44 ?_
      obtain ⟨x45, e45, hs⟩ := aB hs
      refine ev_get C (ci := 14) (k := 60) rfl wu_14 (by decide) wf_X14_130 (gO_F e45) dX14_tick_45 ?_
      refine ev_aload_n C (x := .ref o) rfl trivial dX14_tick_48 ?_
      obtain ⟨x49, e49, hs⟩ := aB hs
      refine ev_get C (ci := 14) (k := 59) rfl wu_14 (by decide) wf_X14_471 (gI_F e49) dX14_tick_49 ?_
      refine ev_iload_n C rfl dX14_tick_52 ?_
      obtain ⟨h53, e53, hs⟩ := aB hs
      refine ev_iast C e53 dX14_tick_53 ?_
      refine ev_aload_n C (x := .ref o) rfl trivial dX14_tick_54 ?_
      refine ev_aload_n C (x := .ref o) rfl trivial dX14_tick_55 ?_
      obtain ⟨x56, e56, hs⟩ := aB hs
      refine ev_get C (ci := 14) (k := 59) rfl wu_14 (by decide) wf_X14_471 (gI_F e56) dX14_tick_56 ?_
      obtain ⟨eo59, hs⟩ := kO_at hs
      obtain ⟨x59, h59, e59, hs⟩ := cI_at hs
      refine ev_callV C (T_X14_done _ _ _ _ _ e59) (ci := 14) rfl eo59 wc_X14_done wm_X14_413 wi_X14_done ws_X14_done wz_X14 hy_X14_done ⟨(Nat.le_of_ble_eq_true rfl), (Nat.le_of_ble_eq_true rfl)⟩ ⟨(Nat.le_refl _), (Nat.le_refl _)⟩ (Nat.le_of_ble_eq_true rfl) rfl dX14_tick_59 ?_
      cases hs
      exact ev_iret C rfl rfl (Nat.le_refl _) (Nat.le_refl _) rfl dX14_tick_62
    · replace hs := (if_pos q25).symm.trans hs
      refine ev_aload_n C (x := .ref o) rfl trivial dX14_tick_28 ?_
      refine ev_iconst C (v := 3) dX14_tick_29 (by decide) ?_
      obtain ⟨eo30, hs⟩ := kO_at hs
      obtain ⟨x30, h30, e30, hs⟩ := cI_at hs
      refine ev_callV C (T_X14_refused _ _ _ _ _ e30) (ci := 14) rfl eo30 wc_X14_refused wm_X14_360 wi_X14_refused ws_X14_refused wz_X14 hy_X14_refused ⟨(Nat.le_of_ble_eq_true rfl), (Nat.le_of_ble_eq_true rfl)⟩ ⟨(Nat.le_refl _), (Nat.le_refl _)⟩ (Nat.le_of_ble_eq_true rfl) rfl dX14_tick_30 ?_
      cases hs
      exact ev_iret C rfl rfl (Nat.le_refl _) (Nat.le_refl _) rfl dX14_tick_33
  · replace hs := (if_pos q10).symm.trans hs
    refine ev_aload_n C (x := .ref o) rfl trivial dX14_tick_13 ?_
    refine ev_iconst C (v := 1) dX14_tick_14 (by decide) ?_
    obtain ⟨eo15, hs⟩ := kO_at hs
    obtain ⟨x15, h15, e15, hs⟩ := cI_at hs
    refine ev_callV C (T_X14_refused _ _ _ _ _ e15) (ci := 14) rfl eo15 wc_X14_refused wm_X14_360 wi_X14_refused ws_X14_refused wz_X14 hy_X14_refused ⟨(Nat.le_of_ble_eq_true rfl), (Nat.le_of_ble_eq_true rfl)⟩ ⟨(Nat.le_refl _), (Nat.le_refl _)⟩ (Nat.le_of_ble_eq_true rfl) rfl dX14_tick_15 ?_
    cases hs
    exact ev_iret C rfl rfl (Nat.le_refl _) (Nat.le_refl _) rfl dX14_tick_18
end
-- X14_told
theorem dX14_told_0 : decode cX14_told 0 = .ok (.aload_n 0, 1) := by decide +kernel
theorem dX14_told_1 : decode cX14_told 1 = .ok (.iconst 0, 1) := by decide +kernel
theorem dX14_told_2 : decode cX14_told 2 = .ok (.putfield 154, 3) := by decide +kernel
theorem dX14_told_5 : decode cX14_told 5 = .ok (.aload_n 0, 1) := by decide +kernel
theorem dX14_told_6 : decode cX14_told 6 = .ok (.iload_n 2, 1) := by decide +kernel
theorem dX14_told_7 : decode cX14_told 7 = .ok (.invokevirtual 486, 3) := by decide +kernel
theorem dX14_told_10 : decode cX14_told 10 = .ok (.ifCond .eq 15, 3) := by decide +kernel
theorem dX14_told_13 : decode cX14_told 13 = .ok (.iload_n 1, 1) := by decide +kernel
theorem dX14_told_14 : decode cX14_told 14 = .ok (.iconst 0, 1) := by decide +kernel
theorem dX14_told_15 : decode cX14_told 15 = .ok (.aload_n 0, 1) := by decide +kernel
theorem dX14_told_16 : decode cX14_told 16 = .ok (.getfield 471, 3) := by decide +kernel
theorem dX14_told_19 : decode cX14_told 19 = .ok (.invokestatic 313, 3) := by decide +kernel
theorem dX14_told_22 : decode cX14_told 22 = .ok (.ifCond .ne 9, 3) := by decide +kernel
theorem dX14_told_25 : decode cX14_told 25 = .ok (.aload_n 0, 1) := by decide +kernel
theorem dX14_told_26 : decode cX14_told 26 = .ok (.iconst 1, 1) := by decide +kernel
theorem dX14_told_27 : decode cX14_told 27 = .ok (.invokevirtual 604, 3) := by decide +kernel
theorem dX14_told_30 : decode cX14_told 30 = .ok (.ireturn, 1) := by decide +kernel
theorem dX14_told_31 : decode cX14_told 31 = .ok (.iconst 2, 1) := by decide +kernel
theorem dX14_told_32 : decode cX14_told 32 = .ok (.iload_n 1, 1) := by decide +kernel
theorem dX14_told_33 : decode cX14_told 33 = .ok (.imul, 1) := by decide +kernel
theorem dX14_told_34 : decode cX14_told 34 = .ok (.iload_n 2, 1) := by decide +kernel
theorem dX14_told_35 : decode cX14_told 35 = .ok (.iadd, 1) := by decide +kernel
theorem dX14_told_36 : decode cX14_told 36 = .ok (.istore 4, 2) := by decide +kernel
theorem dX14_told_38 : decode cX14_told 38 = .ok (.aload_n 0, 1) := by decide +kernel
theorem dX14_told_39 : decode cX14_told 39 = .ok (.getfield 136, 3) := by decide +kernel
theorem dX14_told_42 : decode cX14_told 42 = .ok (.iload 4, 2) := by decide +kernel
theorem dX14_told_44 : decode cX14_told 44 = .ok (.iaload, 1) := by decide +kernel
theorem dX14_told_45 : decode cX14_told 45 = .ok (.iconst (-1), 1) := by decide +kernel
theorem dX14_told_46 : decode cX14_told 46 = .ok (.if_icmp .eq 9, 3) := by decide +kernel
theorem dX14_told_49 : decode cX14_told 49 = .ok (.aload_n 0, 1) := by decide +kernel
theorem dX14_told_50 : decode cX14_told 50 = .ok (.iconst 5, 1) := by decide +kernel
theorem dX14_told_51 : decode cX14_told 51 = .ok (.invokevirtual 604, 3) := by decide +kernel
theorem dX14_told_54 : decode cX14_told 54 = .ok (.ireturn, 1) := by decide +kernel
theorem dX14_told_55 : decode cX14_told 55 = .ok (.aload_n 0, 1) := by decide +kernel
theorem dX14_told_56 : decode cX14_told 56 = .ok (.getfield 136, 3) := by decide +kernel
theorem dX14_told_59 : decode cX14_told 59 = .ok (.iload 4, 2) := by decide +kernel
theorem dX14_told_61 : decode cX14_told 61 = .ok (.aload_n 0, 1) := by decide +kernel
theorem dX14_told_62 : decode cX14_told 62 = .ok (.getfield 471, 3) := by decide +kernel
theorem dX14_told_65 : decode cX14_told 65 = .ok (.iastore, 1) := by decide +kernel
theorem dX14_told_66 : decode cX14_told 66 = .ok (.aload_n 0, 1) := by decide +kernel
theorem dX14_told_67 : decode cX14_told 67 = .ok (.getfield 133, 3) := by decide +kernel
theorem dX14_told_70 : decode cX14_told 70 = .ok (.iload 4, 2) := by decide +kernel
theorem dX14_told_72 : decode cX14_told 72 = .ok (.iload_n 3, 1) := by decide +kernel
theorem dX14_told_73 : decode cX14_told 73 = .ok (.iastore, 1) := by decide +kernel
theorem dX14_told_74 : decode cX14_told 74 = .ok (.aload_n 0, 1) := by decide +kernel
theorem dX14_told_75 : decode cX14_told 75 = .ok (.invokevirtual 607, 3) := by decide +kernel
theorem dX14_told_78 : decode cX14_told 78 = .ok (.ireturn, 1) := by decide +kernel
def s_X14_told_25  (l0 : Nat) (h : aH) : aO :=
  kO h l0 14 (cI (s_X14_denied l0 1 h) fun x27 h27 => rtZ x27 h27)
def s_X14_told (o : Nat) (a1 : Int32) (a2 : Int32) (a3 : Int32) (h : aH) : aO :=
  (pF h (.ref o) 14 0 (.int 0)).bind fun h2 => kO h2 o 14 (cI (s_X14_isSight o a2 h2) fun x7 h7 => if x7 = 0 then (s_X14_told_25 o h7) else ((gI h7 (.ref o) 14 59).bind fun x16 => cI (s_X14_in a1 0 x16 h7) fun x19 h19 => if x19 = 0 then (s_X14_told_25 o h19) else ((gO h19 (.ref o) 14 62).bind fun x39 => (ldI .int h19 (.ref x39) ((2 * a1) + a2)).bind fun x44 => if x44 = (-1) then ((gO h19 (.ref o) 14 62).bind fun x56 => (gI h19 (.ref o) 14 59).bind fun x62 => (stI h19 (.ref x56) ((2 * a1) + a2) x62).bind fun h65 => (gO h65 (.ref o) 14 61).bind fun x67 => (stI h65 (.ref x67) ((2 * a1) + a2) a3).bind fun h73 => kO h73 o 14 (cI (s_X14_granted o h73) fun x75 h75 => rtZ x75 h75)) else (kO h19 o 14 (cI (s_X14_denied o 5 h19) fun x51 h51 => rtZ x51 h51)))))
section
variable {p : Program} {l : Launch} {e : Env} {s : State} {m : MethodId} {args : Array Value} {below : List Frame} {meth : Method} {c : Code} {D : va_G} {B0 : Nat} {X : Nat → Nat} {ws0 : va_W} {r : aR} {h' : aH} {mc ms : Nat}
theorem t_X14_told_25 (C : Cx p l s m args meth c B0 X RX14 "told" cX14_told 5 (some .boolean) [])   {l0 : Nat} {h : aH} (hs : s_X14_told_25  l0 h = some (r, h')) : Ev p l e { frames := 2, cells := mc, slots := ms, locals := 43 } s m args below meth c D B0 X ws0 r h' mc ms 5 mc ms 25 [some (.ref l0), none, none, none, none] [] h := by
  unfold s_X14_told_25 at hs
  refine ev_aload_n C (x := .ref l0) rfl trivial dX14_told_25 ?_
  refine ev_iconst C (v := 1) dX14_told_26 (by decide) ?_
  obtain ⟨eo27, hs⟩ := kO_at hs
  obtain ⟨x27, h27, e27, hs⟩ := cI_at hs
  refine ev_callV C (T_X14_denied _ _ _ _ _ e27) (ci := 14) rfl eo27 wc_X14_denied wm_X14_604 wi_X14_denied ws_X14_denied wz_X14 hy_X14_denied ⟨(Nat.le_of_ble_eq_true rfl), (Nat.le_of_ble_eq_true rfl)⟩ ⟨(Nat.le_refl _), (Nat.le_refl _)⟩ (Nat.le_of_ble_eq_true rfl) rfl dX14_told_27 ?_
  obtain ⟨hz, rfl, rfl⟩ := rtZ_at hs
  exact ev_zret C rfl hz rfl (Nat.le_refl _) (Nat.le_refl _) rfl dX14_told_30
theorem hy_X14_told : yX14_told.cls ≠ "java/lang/invoke/MethodHandle" ∧ yX14_told.cls ≠ "java/lang/invoke/VarHandle" ∧ (parseMethodDescriptor yX14_told.desc).map (fun d => d.parameters.length) = some 3 := by decide +kernel
theorem T_X14_told (o : Nat) (a1 : Int32) (a2 : Int32) (a3 : Int32) (h : aH) (r : aR) (h' : aH) (hs : s_X14_told o a1 a2 a3 h = some (r, h')) : Mt yX14_told (Cond.code yX14_told cX14_told 5 (some .boolean) :: aTB) 2 43 0 0 [.ref o, .int a1, .int a2, .int a3] h r h' := by
  unfold s_X14_told at hs
  refine Mt_of (k := 1) (by decide) rfl (fun p l e s m args below meth c D B0 X ws0 C => ?_)
  show Ev p l e { frames := 2, cells := 0, slots := 0, locals := 43 } s m args below meth c D B0 X ws0 r h' 0 0 5 0 0 0 [some (.ref o), some (.int a1), some (.int a2), some (.int a3), none] [] h
  refine ev_aload_n C (x := .ref o) rfl trivial dX14_told_0 ?_
  refine ev_iconst C (v := 0) dX14_told_1 (by decide) ?_
  obtain ⟨h2, e2, hs⟩ := aB hs
  refine ev_put C (ci := 14) (k := 0) rfl wu_14 (by decide) tyX14 tyX14_ok nmX14 wf_X14_154 rfl trivial e2 dX14_told_2 ?_
  refine ev_aload_n C (x := .ref o) rfl trivial dX14_told_5 ?_
  refine ev_iload_n C rfl dX14_told_6 ?_
  obtain ⟨eo7, hs⟩ := kO_at hs
  obtain ⟨x7, h7, e7, hs⟩ := cI_at hs
  refine ev_callV C (T_X14_isSight _ _ _ _ _ e7) (ci := 14) rfl eo7 wc_X14_isSight wm_X14_486 wi_X14_isSight ws_X14_isSight wz_X14 hy_X14_isSight ⟨(Nat.le_of_ble_eq_true rfl), (Nat.le_of_ble_eq_true rfl)⟩ ⟨(Nat.le_refl _), (Nat.le_refl _)⟩ (Nat.le_of_ble_eq_true rfl) rfl dX14_told_7 ?_
  refine ev_if_eq C (tgt := 25) (by decide) dX14_told_10 (fun q10 => ?_) (fun q10 => ?_)
  · replace hs := (if_pos q10).symm.trans hs
    exact Ev.keep [true, false, false, false, true] (t_X14_told_25 C  hs)
  · replace hs := (if_neg q10).symm.trans hs
    refine ev_iload_n C rfl dX14_told_13 ?_
    refine ev_iconst C (v := 0) dX14_told_14 (by decide) ?_
    refine ev_aload_n C (x := .ref o) rfl trivial dX14_told_15 ?_
    obtain ⟨x16, e16, hs⟩ := aB hs
    refine ev_get C (ci := 14) (k := 59) rfl wu_14 (by decide) wf_X14_471 (gI_F e16) dX14_told_16 ?_
    obtain ⟨x19, h19, e19, hs⟩ := cI_at hs
    refine ev_callS C (T_X14_in _ _ _ _ _ _ e19) wc_X14_in wm_X14_313 wt_X14_in wz_X14 hy_X14_in ⟨(Nat.le_of_ble_eq_true rfl), (Nat.le_of_ble_eq_true rfl)⟩ ⟨(Nat.le_refl _), (Nat.le_refl _)⟩ (Nat.le_of_ble_eq_true rfl) rfl dX14_told_19 ?_
    refine ev_if_ne C (tgt := 31) (by decide) dX14_told_22 (fun q22 => ?_) (fun q22 => ?_)
    · replace hs := (if_neg q22).symm.trans hs
      refine ev_iconst C (v := 2) dX14_told_31 (by decide) ?_
      refine ev_iload_n C rfl dX14_told_32 ?_
      refine ev_imul C dX14_told_33 ?_
      refine ev_iload_n C rfl dX14_told_34 ?_
      refine ev_iadd C dX14_told_35 ?_
      refine ev_istore C (by decide) dX14_told_36 ?_
      refine ev_aload_n C (x := .ref o) rfl trivial dX14_told_38 ?_
      obtain ⟨x39, e39, hs⟩ := aB hs
      refine ev_get C (ci := 14) (k := 62) rfl wu_14 (by decide) wf_X14_136 (gO_F e39) dX14_told_39 ?_
      refine ev_iload C rfl dX14_told_42 ?_
      obtain ⟨x44, e44, hs⟩ := aB hs
      refine ev_iald C e44 dX14_told_44 ?_
      refine ev_iconst C (v := (-1)) dX14_told_45 (by decide) ?_
      refine ev_icmp_eq C (tgt := 55) (by decide) dX14_told_46 (fun q46 => ?_) (fun q46 => ?_)
      · replace hs := (if_pos q46).symm.trans hs
        refine ev_aload_n C (x := .ref o) rfl trivial dX14_told_55 ?_
        obtain ⟨x56, e56, hs⟩ := aB hs
        refine ev_get C (ci := 14) (k := 62) rfl wu_14 (by decide) wf_X14_136 (gO_F e56) dX14_told_56 ?_
        refine ev_iload C rfl dX14_told_59 ?_
        refine ev_aload_n C (x := .ref o) rfl trivial dX14_told_61 ?_
        obtain ⟨x62, e62, hs⟩ := aB hs
        refine ev_get C (ci := 14) (k := 59) rfl wu_14 (by decide) wf_X14_471 (gI_F e62) dX14_told_62 ?_
        obtain ⟨h65, e65, hs⟩ := aB hs
        refine ev_iast C e65 dX14_told_65 ?_
        refine ev_aload_n C (x := .ref o) rfl trivial dX14_told_66 ?_
        obtain ⟨x67, e67, hs⟩ := aB hs
        refine ev_get C (ci := 14) (k := 61) rfl wu_14 (by decide) wf_X14_133 (gO_F e67) dX14_told_67 ?_
        refine ev_iload C rfl dX14_told_70 ?_
        refine ev_iload_n C rfl dX14_told_72 ?_
        obtain ⟨h73, e73, hs⟩ := aB hs
        refine ev_iast C e73 dX14_told_73 ?_
        refine ev_aload_n C (x := .ref o) rfl trivial dX14_told_74 ?_
        obtain ⟨eo75, hs⟩ := kO_at hs
        obtain ⟨x75, h75, e75, hs⟩ := cI_at hs
        refine ev_callV C (T_X14_granted _ _ _ _ e75) (ci := 14) rfl eo75 wc_X14_granted wm_X14_607 wi_X14_granted ws_X14_granted wz_X14 hy_X14_granted ⟨(Nat.le_of_ble_eq_true rfl), (Nat.le_of_ble_eq_true rfl)⟩ ⟨(Nat.le_refl _), (Nat.le_refl _)⟩ (Nat.le_of_ble_eq_true rfl) rfl dX14_told_75 ?_
        obtain ⟨hz, rfl, rfl⟩ := rtZ_at hs
        exact ev_zret C rfl hz rfl (Nat.le_refl _) (Nat.le_refl _) rfl dX14_told_78
      · replace hs := (if_neg q46).symm.trans hs
        refine ev_aload_n C (x := .ref o) rfl trivial dX14_told_49 ?_
        refine ev_iconst C (v := 5) dX14_told_50 (by decide) ?_
        obtain ⟨eo51, hs⟩ := kO_at hs
        obtain ⟨x51, h51, e51, hs⟩ := cI_at hs
        refine ev_callV C (T_X14_denied _ _ _ _ _ e51) (ci := 14) rfl eo51 wc_X14_denied wm_X14_604 wi_X14_denied ws_X14_denied wz_X14 hy_X14_denied ⟨(Nat.le_of_ble_eq_true rfl), (Nat.le_of_ble_eq_true rfl)⟩ ⟨(Nat.le_refl _), (Nat.le_refl _)⟩ (Nat.le_of_ble_eq_true rfl) rfl dX14_told_51 ?_
        obtain ⟨hz, rfl, rfl⟩ := rtZ_at hs
        exact ev_zret C rfl hz rfl (Nat.le_refl _) (Nat.le_refl _) rfl dX14_told_54
    · replace hs := (if_pos q22).symm.trans hs
      exact Ev.keep [true, false, false, false, true] (t_X14_told_25 C  hs)
end
-- X14_fitsHere
theorem dX14_fitsHere_0 : decode cX14_fitsHere 0 = .ok (.iconst 1, 1) := by decide +kernel
theorem dX14_fitsHere_1 : decode cX14_fitsHere 1 = .ok (.istore 4, 2) := by decide +kernel
theorem dX14_fitsHere_3 : decode cX14_fitsHere 3 = .ok (.iconst 0, 1) := by decide +kernel
theorem dX14_fitsHere_4 : decode cX14_fitsHere 4 = .ok (.istore 5, 2) := by decide +kernel
theorem dX14_fitsHere_6 : decode cX14_fitsHere 6 = .ok (.iload 5, 2) := by decide +kernel
theorem dX14_fitsHere_8 : decode cX14_fitsHere 8 = .ok (.aload_n 0, 1) := by decide +kernel
theorem dX14_fitsHere_9 : decode cX14_fitsHere 9 = .ok (.getfield 376, 3) := by decide +kernel
theorem dX14_fitsHere_12 : decode cX14_fitsHere 12 = .ok (.getfield 252, 3) := by decide +kernel
theorem dX14_fitsHere_15 : decode cX14_fitsHere 15 = .ok (.iconst 4, 1) := by decide +kernel
theorem dX14_fitsHere_16 : decode cX14_fitsHere 16 = .ok (.iaload, 1) := by decide +kernel
theorem dX14_fitsHere_17 : decode cX14_fitsHere 17 = .ok (.if_icmp .ge 96, 3) := by decide +kernel
theorem dX14_fitsHere_20 : decode cX14_fitsHere 20 = .ok (.iconst 2, 1) := by decide +kernel
theorem dX14_fitsHere_21 : decode cX14_fitsHere 21 = .ok (.iload_n 1, 1) := by decide +kernel
theorem dX14_fitsHere_22 : decode cX14_fitsHere 22 = .ok (.imul, 1) := by decide +kernel
theorem dX14_fitsHere_23 : decode cX14_fitsHere 23 = .ok (.iload 5, 2) := by decide +kernel
theorem dX14_fitsHere_25 : decode cX14_fitsHere 25 = .ok (.iadd, 1) := by decide +kernel
theorem dX14_fitsHere_26 : decode cX14_fitsHere 26 = .ok (.istore 6, 2) := by decide +kernel
theorem dX14_fitsHere_28 : decode cX14_fitsHere 28 = .ok (.aload_n 0, 1) := by decide +kernel
theorem dX14_fitsHere_29 : decode cX14_fitsHere 29 = .ok (.getfield 136, 3) := by decide +kernel
theorem dX14_fitsHere_32 : decode cX14_fitsHere 32 = .ok (.iload 6, 2) := by decide +kernel
theorem dX14_fitsHere_34 : decode cX14_fitsHere 34 = .ok (.iaload, 1) := by decide +kernel
theorem dX14_fitsHere_35 : decode cX14_fitsHere 35 = .ok (.iconst (-1), 1) := by decide +kernel
theorem dX14_fitsHere_36 : decode cX14_fitsHere 36 = .ok (.if_icmp .eq 71, 3) := by decide +kernel
theorem dX14_fitsHere_39 : decode cX14_fitsHere 39 = .ok (.aload_n 0, 1) := by decide +kernel
theorem dX14_fitsHere_40 : decode cX14_fitsHere 40 = .ok (.getfield 136, 3) := by decide +kernel
theorem dX14_fitsHere_43 : decode cX14_fitsHere 43 = .ok (.iload 6, 2) := by decide +kernel
theorem dX14_fitsHere_45 : decode cX14_fitsHere 45 = .ok (.iaload, 1) := by decide +kernel
theorem dX14_fitsHere_46 : decode cX14_fitsHere 46 = .ok (.iload_n 2, 1) := by decide +kernel
theorem dX14_fitsHere_47 : decode cX14_fitsHere 47 = .ok (.if_icmp .le 6, 3) := by decide +kernel
theorem dX14_fitsHere_50 : decode cX14_fitsHere 50 = .ok (.goto 57, 3) := by decide +kernel
theorem dX14_fitsHere_53 : decode cX14_fitsHere 53 = .ok (.iload_n 3, 1) := by decide +kernel
theorem dX14_fitsHere_54 : decode cX14_fitsHere 54 = .ok (.iconst 1, 1) := by decide +kernel
theorem dX14_fitsHere_55 : decode cX14_fitsHere 55 = .ok (.aload_n 0, 1) := by decide +kernel
theorem dX14_fitsHere_56 : decode cX14_fitsHere 56 = .ok (.getfield 376, 3) := by decide +kernel
theorem dX14_fitsHere_59 : decode cX14_fitsHere 59 = .ok (.getfield 252, 3) := by decide +kernel
theorem dX14_fitsHere_62 : decode cX14_fitsHere 62 = .ok (.iconst 1, 1) := by decide +kernel
theorem dX14_fitsHere_63 : decode cX14_fitsHere 63 = .ok (.iaload, 1) := by decide +kernel
theorem dX14_fitsHere_64 : decode cX14_fitsHere 64 = .ok (.iadd, 1) := by decide +kernel
theorem dX14_fitsHere_65 : decode cX14_fitsHere 65 = .ok (.iload 5, 2) := by decide +kernel
theorem dX14_fitsHere_67 : decode cX14_fitsHere 67 = .ok (.iadd, 1) := by decide +kernel
theorem dX14_fitsHere_68 : decode cX14_fitsHere 68 = .ok (.if_icmp .ne 7, 3) := by decide +kernel
theorem dX14_fitsHere_71 : decode cX14_fitsHere 71 = .ok (.iconst 0, 1) := by decide +kernel
theorem dX14_fitsHere_72 : decode cX14_fitsHere 72 = .ok (.goto 9, 3) := by decide +kernel
theorem dX14_fitsHere_75 : decode cX14_fitsHere 75 = .ok (.aload_n 0, 1) := by decide +kernel
theorem dX14_fitsHere_76 : decode cX14_fitsHere 76 = .ok (.iload 5, 2) := by decide +kernel
theorem dX14_fitsHere_78 : decode cX14_fitsHere 78 = .ok (.invokevirtual 489, 3) := by decide +kernel
theorem dX14_fitsHere_81 : decode cX14_fitsHere 81 = .ok (.istore 7, 2) := by decide +kernel
theorem dX14_fitsHere_83 : decode cX14_fitsHere 83 = .ok (.iload 4, 2) := by decide +kernel
theorem dX14_fitsHere_85 : decode cX14_fitsHere 85 = .ok (.ifCond .eq 19, 3) := by decide +kernel
theorem dX14_fitsHere_88 : decode cX14_fitsHere 88 = .ok (.iload 7, 2) := by decide +kernel
theorem dX14_fitsHere_90 : decode cX14_fitsHere 90 = .ok (.aload_n 0, 1) := by decide +kernel
theorem dX14_fitsHere_91 : decode cX14_fitsHere 91 = .ok (.getfield 133, 3) := by decide +kernel
theorem dX14_fitsHere_94 : decode cX14_fitsHere 94 = .ok (.iload 6, 2) := by decide +kernel
theorem dX14_fitsHere_96 : decode cX14_fitsHere 96 = .ok (.iaload, 1) := by decide +kernel
theorem dX14_fitsHere_97 : decode cX14_fitsHere 97 = .ok (.if_icmp .ne 7, 3) := by decide +kernel
theorem dX14_fitsHere_100 : decode cX14_fitsHere 100 = .ok (.iconst 1, 1) := by decide +kernel
theorem dX14_fitsHere_101 : decode cX14_fitsHere 101 = .ok (.goto 4, 3) := by decide +kernel
theorem dX14_fitsHere_104 : decode cX14_fitsHere 104 = .ok (.iconst 0, 1) := by decide +kernel
theorem dX14_fitsHere_105 : decode cX14_fitsHere 105 = .ok (.istore 4, 2) := by decide +kernel
theorem dX14_fitsHere_107 : decode cX14_fitsHere 107 = .ok (.iinc 5 1, 3) := by decide +kernel
theorem dX14_fitsHere_110 : decode cX14_fitsHere 110 = .ok (.goto (-104), 3) := by decide +kernel
theorem dX14_fitsHere_113 : decode cX14_fitsHere 113 = .ok (.iload 4, 2) := by decide +kernel
theorem dX14_fitsHere_115 : decode cX14_fitsHere 115 = .ok (.ireturn, 1) := by decide +kernel
def s_X14_fitsHere_105 (k6 : Nat → Int32 → Int32 → Int32 → Int32 → Int32 → aH → aO) (l0 : Nat) (l1 : Int32) (l2 : Int32) (l3 : Int32) (l5 : Int32) (s0 : Int32) (h : aH) : aO :=
  k6 l0 l1 l2 l3 s0 (l5 + 1) h
def s_X14_fitsHere_104 (k6 : Nat → Int32 → Int32 → Int32 → Int32 → Int32 → aH → aO) (l0 : Nat) (l1 : Int32) (l2 : Int32) (l3 : Int32) (l5 : Int32) (h : aH) : aO :=
  s_X14_fitsHere_105 k6 l0 l1 l2 l3 l5 0 h
def s_X14_fitsHere_81 (k6 : Nat → Int32 → Int32 → Int32 → Int32 → Int32 → aH → aO) (l0 : Nat) (l1 : Int32) (l2 : Int32) (l3 : Int32) (l4 : Int32) (l5 : Int32) (l6 : Int32) (s0 : Int32) (h : aH) : aO :=
  if l4 = 0 then (s_X14_fitsHere_104 k6 l0 l1 l2 l3 l5 h) else ((gO h (.ref l0) 14 61).bind fun x91 => (ldI .int h (.ref x91) l6).bind fun x96 => if s0 = x96 then (s_X14_fitsHere_105 k6 l0 l1 l2 l3 l5 1 h) else (s_X14_fitsHere_104 k6 l0 l1 l2 l3 l5 h))
def s_X14_fitsHere_6_b  (k6 : Nat → Int32 → Int32 → Int32 → Int32 → Int32 → aH → aO) (l0 : Nat) (l1 : Int32) (l2 : Int32) (l3 : Int32) (l4 : Int32) (l5 : Int32) (h : aH) : aO :=
  (gO h (.ref l0) 14 4).bind fun x9 => (gO h (.ref x9) 13 0).bind fun x12 => (ldI .int h (.ref x12) 4).bind fun x16 => if x16 ≤ l5 then (rtZ l4 h) else ((gO h (.ref l0) 14 62).bind fun x29 => (ldI .int h (.ref x29) ((2 * l1) + l5)).bind fun x34 => if x34 = (-1) then (k6 l0 l1 l2 l3 l4 (l5 + 1) h) else ((gO h (.ref l0) 14 62).bind fun x40 => (ldI .int h (.ref x40) ((2 * l1) + l5)).bind fun x45 => if x45 ≤ l2 then ((gO h (.ref l0) 14 4).bind fun x56 => (gO h (.ref x56) 13 0).bind fun x59 => (ldI .int h (.ref x59) 1).bind fun x63 => if l3 = ((1 + x63) + l5) then (s_X14_fitsHere_81 k6 l0 l1 l2 l3 l4 l5 ((2 * l1) + l5) 0 h) else (kO h l0 14 (cI (s_X14_sightHere l0 l5 h) fun x78 h78 => s_X14_fitsHere_81 k6 l0 l1 l2 l3 l4 l5 ((2 * l1) + l5) x78 h78))) else (k6 l0 l1 l2 l3 l4 (l5 + 1) h)))
def s_X14_fitsHere_6  (n : Nat) : Nat → Int32 → Int32 → Int32 → Int32 → Int32 → aH → aO := lpF (fun _ _ _ _ _ _ _ => none) (s_X14_fitsHere_6_b ) n
def s_X14_fitsHere (o : Nat) (a1 : Int32) (a2 : Int32) (a3 : Int32) (h : aH) : aO :=
  s_X14_fitsHere_6 FU o a1 a2 a3 1 0 h
section
variable {p : Program} {l : Launch} {e : Env} {s : State} {m : MethodId} {args : Array Value} {below : List Frame} {meth : Method} {c : Code} {D : va_G} {B0 : Nat} {X : Nat → Nat} {ws0 : va_W} {r : aR} {h' : aH} {mc ms : Nat}
theorem t_X14_fitsHere_105 (C : Cx p l s m args meth c B0 X RX14 "fitsHere" cX14_fitsHere 8 (some .boolean) []) {k6 : Nat → Int32 → Int32 → Int32 → Int32 → Int32 → aH → aO} (K6 : ∀ (l0 : Nat) (l1 : Int32) (l2 : Int32) (l3 : Int32) (l4 : Int32) (l5 : Int32) (h : aH), k6 l0 l1 l2 l3 l4 l5 h = some (r, h') → Ev p l e { frames := 4, cells := mc, slots := ms, locals := 96 } s m args below meth c D B0 X ws0 r h' mc ms 8 mc ms 6 [some (.ref l0), some (.int l1), some (.int l2), some (.int l3), some (.int l4), some (.int l5), none, none] [] h) {l0 : Nat} {l1 : Int32} {l2 : Int32} {l3 : Int32} {l5 : Int32} {s0 : Int32} {h : aH} (hs : s_X14_fitsHere_105 k6 l0 l1 l2 l3 l5 s0 h = some (r, h')) : Ev p l e { frames := 4, cells := mc, slots := ms, locals := 96 } s m args below meth c D B0 X ws0 r h' mc ms 8 mc ms 105 [some (.ref l0), some (.int l1), some (.int l2), some (.int l3), none, some (.int l5), none, none] [.int s0] h := by
  unfold s_X14_fitsHere_105 at hs
  refine ev_istore C (by decide) dX14_fitsHere_105 ?_
  refine ev_iinc C (i := 5) (n := 1) (x := l5) (v := l5 + 1) rfl (congrArg (fun z => l5 + z) (show Int32.ofInt 1 = 1 by decide)) (by decide) dX14_fitsHere_107 ?_
  refine ev_goto C (tgt := 6) (by decide) dX14_fitsHere_110 ?_
  exact (K6 _ _ _ _ _ _ _ hs)
theorem t_X14_fitsHere_104 (C : Cx p l s m args meth c B0 X RX14 "fitsHere" cX14_fitsHere 8 (some .boolean) []) {k6 : Nat → Int32 → Int32 → Int32 → Int32 → Int32 → aH → aO} (K6 : ∀ (l0 : Nat) (l1 : Int32) (l2 : Int32) (l3 : Int32) (l4 : Int32) (l5 : Int32) (h : aH), k6 l0 l1 l2 l3 l4 l5 h = some (r, h') → Ev p l e { frames := 4, cells := mc, slots := ms, locals := 96 } s m args below meth c D B0 X ws0 r h' mc ms 8 mc ms 6 [some (.ref l0), some (.int l1), some (.int l2), some (.int l3), some (.int l4), some (.int l5), none, none] [] h) {l0 : Nat} {l1 : Int32} {l2 : Int32} {l3 : Int32} {l5 : Int32} {h : aH} (hs : s_X14_fitsHere_104 k6 l0 l1 l2 l3 l5 h = some (r, h')) : Ev p l e { frames := 4, cells := mc, slots := ms, locals := 96 } s m args below meth c D B0 X ws0 r h' mc ms 8 mc ms 104 [some (.ref l0), some (.int l1), some (.int l2), some (.int l3), none, some (.int l5), none, none] [] h := by
  unfold s_X14_fitsHere_104 at hs
  refine ev_iconst C (v := 0) dX14_fitsHere_104 (by decide) ?_
  exact (t_X14_fitsHere_105 C K6 hs)
theorem t_X14_fitsHere_81 (C : Cx p l s m args meth c B0 X RX14 "fitsHere" cX14_fitsHere 8 (some .boolean) []) {k6 : Nat → Int32 → Int32 → Int32 → Int32 → Int32 → aH → aO} (K6 : ∀ (l0 : Nat) (l1 : Int32) (l2 : Int32) (l3 : Int32) (l4 : Int32) (l5 : Int32) (h : aH), k6 l0 l1 l2 l3 l4 l5 h = some (r, h') → Ev p l e { frames := 4, cells := mc, slots := ms, locals := 96 } s m args below meth c D B0 X ws0 r h' mc ms 8 mc ms 6 [some (.ref l0), some (.int l1), some (.int l2), some (.int l3), some (.int l4), some (.int l5), none, none] [] h) {l0 : Nat} {l1 : Int32} {l2 : Int32} {l3 : Int32} {l4 : Int32} {l5 : Int32} {l6 : Int32} {s0 : Int32} {h : aH} (hs : s_X14_fitsHere_81 k6 l0 l1 l2 l3 l4 l5 l6 s0 h = some (r, h')) : Ev p l e { frames := 4, cells := mc, slots := ms, locals := 96 } s m args below meth c D B0 X ws0 r h' mc ms 8 mc ms 81 [some (.ref l0), some (.int l1), some (.int l2), some (.int l3), some (.int l4), some (.int l5), some (.int l6), none] [.int s0] h := by
  unfold s_X14_fitsHere_81 at hs
  refine ev_istore C (by decide) dX14_fitsHere_81 ?_
  refine ev_iload C rfl dX14_fitsHere_83 ?_
  refine ev_if_eq C (tgt := 104) (by decide) dX14_fitsHere_85 (fun q85 => ?_) (fun q85 => ?_)
  · replace hs := (if_pos q85).symm.trans hs
    exact Ev.keep [true, true, true, true, false, true, false, false] (t_X14_fitsHere_104 C K6 hs)
  · replace hs := (if_neg q85).symm.trans hs
    refine ev_iload C rfl dX14_fitsHere_88 ?_
    refine ev_aload_n C (x := .ref l0) rfl trivial dX14_fitsHere_90 ?_
    obtain ⟨x91, e91, hs⟩ := aB hs
    refine ev_get C (ci := 14) (k := 61) rfl wu_14 (by decide) wf_X14_133 (gO_F e91) dX14_fitsHere_91 ?_
    refine ev_iload C rfl dX14_fitsHere_94 ?_
    obtain ⟨x96, e96, hs⟩ := aB hs
    refine ev_iald C e96 dX14_fitsHere_96 ?_
    refine ev_icmp_ne C (tgt := 104) (by decide) dX14_fitsHere_97 (fun q97 => ?_) (fun q97 => ?_)
    · replace hs := (if_neg q97).symm.trans hs
      exact Ev.keep [true, true, true, true, false, true, false, false] (t_X14_fitsHere_104 C K6 hs)
    · replace hs := (if_pos q97).symm.trans hs
      refine ev_iconst C (v := 1) dX14_fitsHere_100 (by decide) ?_
      refine ev_goto C (tgt := 105) (by decide) dX14_fitsHere_101 ?_
      exact Ev.keep [true, true, true, true, false, true, false, false] (t_X14_fitsHere_105 C K6 hs)
theorem t_X14_fitsHere_6_b (C : Cx p l s m args meth c B0 X RX14 "fitsHere" cX14_fitsHere 8 (some .boolean) [])   {k6 : Nat → Int32 → Int32 → Int32 → Int32 → Int32 → aH → aO} (K6 : ∀ (l0 : Nat) (l1 : Int32) (l2 : Int32) (l3 : Int32) (l4 : Int32) (l5 : Int32) (h : aH), k6 l0 l1 l2 l3 l4 l5 h = some (r, h') → Ev p l e { frames := 4, cells := mc, slots := ms, locals := 96 } s m args below meth c D B0 X ws0 r h' mc ms 8 mc ms 6 [some (.ref l0), some (.int l1), some (.int l2), some (.int l3), some (.int l4), some (.int l5), none, none] [] h) {l0 : Nat} {l1 : Int32} {l2 : Int32} {l3 : Int32} {l4 : Int32} {l5 : Int32} {h : aH} (hs : s_X14_fitsHere_6_b  k6 l0 l1 l2 l3 l4 l5 h = some (r, h')) : Ev p l e { frames := 4, cells := mc, slots := ms, locals := 96 } s m args below meth c D B0 X ws0 r h' mc ms 8 mc ms 6 [some (.ref l0), some (.int l1), some (.int l2), some (.int l3), some (.int l4), some (.int l5), none, none] [] h := by
  unfold s_X14_fitsHere_6_b at hs
  refine ev_iload C rfl dX14_fitsHere_6 ?_
  refine ev_aload_n C (x := .ref l0) rfl trivial dX14_fitsHere_8 ?_
  obtain ⟨x9, e9, hs⟩ := aB hs
  refine ev_get C (ci := 14) (k := 4) rfl wu_14 (by decide) wf_X14_376 (gO_F e9) dX14_fitsHere_9 ?_
  obtain ⟨x12, e12, hs⟩ := aB hs
  refine ev_getN C (ci := 13) (k := 0) rfl wu_13 (by decide) wg_X14_252 (gO_F e12) dX14_fitsHere_12 ?_
  refine ev_iconst C (v := 4) dX14_fitsHere_15 (by decide) ?_
  obtain ⟨x16, e16, hs⟩ := aB hs
  refine ev_iald C e16 dX14_fitsHere_16 ?_
  refine ev_icmp_ge C (tgt := 113) (by decide) dX14_fitsHere_17 (fun q17 => ?_) (fun q17 => ?_)
  · replace hs := (if_pos q17).symm.trans hs
    refine ev_iload C rfl dX14_fitsHere_113 ?_
    obtain ⟨hz, rfl, rfl⟩ := rtZ_at hs
    exact ev_zret C rfl hz rfl (Nat.le_refl _) (Nat.le_refl _) rfl dX14_fitsHere_115
  · replace hs := (if_neg q17).symm.trans hs
    refine ev_iconst C (v := 2) dX14_fitsHere_20 (by decide) ?_
    refine ev_iload_n C rfl dX14_fitsHere_21 ?_
    refine ev_imul C dX14_fitsHere_22 ?_
    refine ev_iload C rfl dX14_fitsHere_23 ?_
    refine ev_iadd C dX14_fitsHere_25 ?_
    refine ev_istore C (by decide) dX14_fitsHere_26 ?_
    refine ev_aload_n C (x := .ref l0) rfl trivial dX14_fitsHere_28 ?_
    obtain ⟨x29, e29, hs⟩ := aB hs
    refine ev_get C (ci := 14) (k := 62) rfl wu_14 (by decide) wf_X14_136 (gO_F e29) dX14_fitsHere_29 ?_
    refine ev_iload C rfl dX14_fitsHere_32 ?_
    obtain ⟨x34, e34, hs⟩ := aB hs
    refine ev_iald C e34 dX14_fitsHere_34 ?_
    refine ev_iconst C (v := (-1)) dX14_fitsHere_35 (by decide) ?_
    refine ev_icmp_eq C (tgt := 107) (by decide) dX14_fitsHere_36 (fun q36 => ?_) (fun q36 => ?_)
    · replace hs := (if_pos q36).symm.trans hs
      refine ev_iinc C (i := 5) (n := 1) (x := l5) (v := l5 + 1) rfl (congrArg (fun z => l5 + z) (show Int32.ofInt 1 = 1 by decide)) (by decide) dX14_fitsHere_107 ?_
      refine ev_goto C (tgt := 6) (by decide) dX14_fitsHere_110 ?_
      exact Ev.keep [true, true, true, true, true, true, false, true] (K6 _ _ _ _ _ _ _ hs)
    · replace hs := (if_neg q36).symm.trans hs
      refine ev_aload_n C (x := .ref l0) rfl trivial dX14_fitsHere_39 ?_
      obtain ⟨x40, e40, hs⟩ := aB hs
      refine ev_get C (ci := 14) (k := 62) rfl wu_14 (by decide) wf_X14_136 (gO_F e40) dX14_fitsHere_40 ?_
      refine ev_iload C rfl dX14_fitsHere_43 ?_
      obtain ⟨x45, e45, hs⟩ := aB hs
      refine ev_iald C e45 dX14_fitsHere_45 ?_
      refine ev_iload_n C rfl dX14_fitsHere_46 ?_
      refine ev_icmp_le C (tgt := 53) (by decide) dX14_fitsHere_47 (fun q47 => ?_) (fun q47 => ?_)
      · replace hs := (if_pos q47).symm.trans hs
        refine ev_iload_n C rfl dX14_fitsHere_53 ?_
        refine ev_iconst C (v := 1) dX14_fitsHere_54 (by decide) ?_
        refine ev_aload_n C (x := .ref l0) rfl trivial dX14_fitsHere_55 ?_
        obtain ⟨x56, e56, hs⟩ := aB hs
        refine ev_get C (ci := 14) (k := 4) rfl wu_14 (by decide) wf_X14_376 (gO_F e56) dX14_fitsHere_56 ?_
        obtain ⟨x59, e59, hs⟩ := aB hs
        refine ev_getN C (ci := 13) (k := 0) rfl wu_13 (by decide) wg_X14_252 (gO_F e59) dX14_fitsHere_59 ?_
        refine ev_iconst C (v := 1) dX14_fitsHere_62 (by decide) ?_
        obtain ⟨x63, e63, hs⟩ := aB hs
        refine ev_iald C e63 dX14_fitsHere_63 ?_
        refine ev_iadd C dX14_fitsHere_64 ?_
        refine ev_iload C rfl dX14_fitsHere_65 ?_
        refine ev_iadd C dX14_fitsHere_67 ?_
        refine ev_icmp_ne C (tgt := 75) (by decide) dX14_fitsHere_68 (fun q68 => ?_) (fun q68 => ?_)
        · replace hs := (if_neg q68).symm.trans hs
          refine ev_aload_n C (x := .ref l0) rfl trivial dX14_fitsHere_75 ?_
          refine ev_iload C rfl dX14_fitsHere_76 ?_
          obtain ⟨eo78, hs⟩ := kO_at hs
          obtain ⟨x78, h78, e78, hs⟩ := cI_at hs
          refine ev_callV C (T_X14_sightHere _ _ _ _ _ e78) (ci := 14) rfl eo78 wc_X14_sightHere wm_X14_489 wi_X14_sightHere ws_X14_sightHere wz_X14 hy_X14_sightHere ⟨(Nat.le_of_ble_eq_true rfl), (Nat.le_of_ble_eq_true rfl)⟩ ⟨(Nat.le_refl _), (Nat.le_refl _)⟩ (Nat.le_of_ble_eq_true rfl) rfl dX14_fitsHere_78 ?_
          exact (t_X14_fitsHere_81 C K6 hs)
        · replace hs := (if_pos q68).symm.trans hs
          refine ev_iconst C (v := 0) dX14_fitsHere_71 (by decide) ?_
          refine ev_goto C (tgt := 81) (by decide) dX14_fitsHere_72 ?_
          exact (t_X14_fitsHere_81 C K6 hs)
      · replace hs := (if_neg q47).symm.trans hs
        refine ev_goto C (tgt := 107) (by decide) dX14_fitsHere_50 ?_
        refine ev_iinc C (i := 5) (n := 1) (x := l5) (v := l5 + 1) rfl (congrArg (fun z => l5 + z) (show Int32.ofInt 1 = 1 by decide)) (by decide) dX14_fitsHere_107 ?_
        refine ev_goto C (tgt := 6) (by decide) dX14_fitsHere_110 ?_
        exact Ev.keep [true, true, true, true, true, true, false, true] (K6 _ _ _ _ _ _ _ hs)
theorem t_X14_fitsHere_6 (C : Cx p l s m args meth c B0 X RX14 "fitsHere" cX14_fitsHere 8 (some .boolean) [])   : ∀ (n : Nat) {l0 : Nat} {l1 : Int32} {l2 : Int32} {l3 : Int32} {l4 : Int32} {l5 : Int32} {h : aH} (hs : s_X14_fitsHere_6  n l0 l1 l2 l3 l4 l5 h = some (r, h')), Ev p l e { frames := 4, cells := mc, slots := ms, locals := 96 } s m args below meth c D B0 X ws0 r h' mc ms 8 mc ms 6 [some (.ref l0), some (.int l1), some (.int l2), some (.int l3), some (.int l4), some (.int l5), none, none] [] h
  | 0, _, _, _, _, _, _, _, hs => nomatch hs
  | n + 1, _, _, _, _, _, _, _, hs => t_X14_fitsHere_6_b C  (k6 := s_X14_fitsHere_6  n) (fun _ _ _ _ _ _ _ hs => t_X14_fitsHere_6 C  n hs) hs
theorem hy_X14_fitsHere : yX14_fitsHere.cls ≠ "java/lang/invoke/MethodHandle" ∧ yX14_fitsHere.cls ≠ "java/lang/invoke/VarHandle" ∧ (parseMethodDescriptor yX14_fitsHere.desc).map (fun d => d.parameters.length) = some 3 := by decide +kernel
theorem T_X14_fitsHere (o : Nat) (a1 : Int32) (a2 : Int32) (a3 : Int32) (h : aH) (r : aR) (h' : aH) (hs : s_X14_fitsHere o a1 a2 a3 h = some (r, h')) : Mt yX14_fitsHere (Cond.code yX14_fitsHere cX14_fitsHere 8 (some .boolean) :: aTB) 4 96 0 0 [.ref o, .int a1, .int a2, .int a3] h r h' := by
  unfold s_X14_fitsHere at hs
  refine Mt_of (k := 4) (by decide) rfl (fun p l e s m args below meth c D B0 X ws0 C => ?_)
  show Ev p l e { frames := 4, cells := 0, slots := 0, locals := 96 } s m args below meth c D B0 X ws0 r h' 0 0 8 0 0 0 [some (.ref o), some (.int a1), some (.int a2), some (.int a3), none, none, none, none] [] h
  refine ev_iconst C (v := 1) dX14_fitsHere_0 (by decide) ?_
  refine ev_istore C (by decide) dX14_fitsHere_1 ?_
  refine ev_iconst C (v := 0) dX14_fitsHere_3 (by decide) ?_
  refine ev_istore C (by decide) dX14_fitsHere_4 ?_
  exact (t_X14_fitsHere_6 C  FU hs)
end
-- X14_handed
theorem dX14_handed_0 : decode cX14_handed 0 = .ok (.aload_n 0, 1) := by decide +kernel
theorem dX14_handed_1 : decode cX14_handed 1 = .ok (.aload_n 0, 1) := by decide +kernel
theorem dX14_handed_2 : decode cX14_handed 2 = .ok (.getfield 130, 3) := by decide +kernel
theorem dX14_handed_5 : decode cX14_handed 5 = .ok (.iload_n 1, 1) := by decide +kernel
theorem dX14_handed_6 : decode cX14_handed 6 = .ok (.iaload, 1) := by decide +kernel
theorem dX14_handed_7 : decode cX14_handed 7 = .ok (.invokevirtual 459, 3) := by decide +kernel
theorem dX14_handed_10 : decode cX14_handed 10 = .ok (.iload_n 2, 1) := by decide +kernel
theorem dX14_handed_11 : decode cX14_handed 11 = .ok (.iconst 1, 1) := by decide +kernel
theorem dX14_handed_12 : decode cX14_handed 12 = .ok (.isub, 1) := by decide +kernel
theorem dX14_handed_13 : decode cX14_handed 13 = .ok (.istore_n 3, 1) := by decide +kernel
theorem dX14_handed_14 : decode cX14_handed 14 = .ok (.iload_n 3, 1) := by decide +kernel
theorem dX14_handed_15 : decode cX14_handed 15 = .ok (.ifCond .lt 16, 3) := by decide +kernel
theorem dX14_handed_18 : decode cX14_handed 18 = .ok (.iload_n 3, 1) := by decide +kernel
theorem dX14_handed_19 : decode cX14_handed 19 = .ok (.aload_n 0, 1) := by decide +kernel
theorem dX14_handed_20 : decode cX14_handed 20 = .ok (.getfield 376, 3) := by decide +kernel
theorem dX14_handed_23 : decode cX14_handed 23 = .ok (.getfield 252, 3) := by decide +kernel
theorem dX14_handed_26 : decode cX14_handed 26 = .ok (.iconst 1, 1) := by decide +kernel
theorem dX14_handed_27 : decode cX14_handed 27 = .ok (.iaload, 1) := by decide +kernel
theorem dX14_handed_28 : decode cX14_handed 28 = .ok (.if_icmp .lt 4, 3) := by decide +kernel
theorem dX14_handed_31 : decode cX14_handed 31 = .ok (.return_, 1) := by decide +kernel
theorem dX14_handed_32 : decode cX14_handed 32 = .ok (.iconst 1, 1) := by decide +kernel
theorem dX14_handed_33 : decode cX14_handed 33 = .ok (.invokestatic 246, 3) := by decide +kernel
theorem dX14_handed_36 : decode cX14_handed 36 = .ok (.iload_n 3, 1) := by decide +kernel
theorem dX14_handed_37 : decode cX14_handed 37 = .ok (.iadd, 1) := by decide +kernel
theorem dX14_handed_38 : decode cX14_handed 38 = .ok (.istore 4, 2) := by decide +kernel
theorem dX14_handed_40 : decode cX14_handed 40 = .ok (.aload_n 0, 1) := by decide +kernel
theorem dX14_handed_41 : decode cX14_handed 41 = .ok (.getfield 44, 3) := by decide +kernel
theorem dX14_handed_44 : decode cX14_handed 44 = .ok (.iload 4, 2) := by decide +kernel
theorem dX14_handed_46 : decode cX14_handed 46 = .ok (.aload_n 0, 1) := by decide +kernel
theorem dX14_handed_47 : decode cX14_handed 47 = .ok (.getfield 376, 3) := by decide +kernel
theorem dX14_handed_50 : decode cX14_handed 50 = .ok (.getfield 307, 3) := by decide +kernel
theorem dX14_handed_53 : decode cX14_handed 53 = .ok (.iload 4, 2) := by decide +kernel
theorem dX14_handed_55 : decode cX14_handed 55 = .ok (.iaload, 1) := by decide +kernel
theorem dX14_handed_56 : decode cX14_handed 56 = .ok (.aload_n 0, 1) := by decide +kernel
theorem dX14_handed_57 : decode cX14_handed 57 = .ok (.getfield 376, 3) := by decide +kernel
theorem dX14_handed_60 : decode cX14_handed 60 = .ok (.getfield 317, 3) := by decide +kernel
theorem dX14_handed_63 : decode cX14_handed 63 = .ok (.iload 4, 2) := by decide +kernel
theorem dX14_handed_65 : decode cX14_handed 65 = .ok (.iaload, 1) := by decide +kernel
theorem dX14_handed_66 : decode cX14_handed 66 = .ok (.iconst 0, 1) := by decide +kernel
theorem dX14_handed_67 : decode cX14_handed 67 = .ok (.invokestatic 511, 3) := by decide +kernel
theorem dX14_handed_70 : decode cX14_handed 70 = .ok (.invokestatic 513, 3) := by decide +kernel
theorem dX14_handed_73 : decode cX14_handed 73 = .ok (.iastore, 1) := by decide +kernel
theorem dX14_handed_74 : decode cX14_handed 74 = .ok (.return_, 1) := by decide +kernel
def s_X14_handed (o : Nat) (a1 : Int32) (a2 : Int32) (h : aH) : aO :=
  (gO h (.ref o) 14 60).bind fun x2 => (ldI .int h (.ref x2) a1).bind fun x6 => kO h o 14 (cN (s_X14_pushed o x6 h) fun h7 => if (a2 - 1) < 0 then (some (.inl none, h7)) else ((gO h7 (.ref o) 14 4).bind fun x20 => (gO h7 (.ref x20) 13 0).bind fun x23 => (ldI .int h7 (.ref x23) 1).bind fun x27 => if (a2 - 1) < x27 then (cI (s_X14_slotOf 1 h7) fun x33 h33 => (gO h33 (.ref o) 14 29).bind fun x41 => (gO h33 (.ref o) 14 4).bind fun x47 => (gO h33 (.ref x47) 13 1).bind fun x50 => (ldI .int h33 (.ref x50) (x33 + (a2 - 1))).bind fun x55 => (gO h33 (.ref o) 14 4).bind fun x57 => (gO h33 (.ref x57) 13 2).bind fun x60 => (ldI .int h33 (.ref x60) (x33 + (a2 - 1))).bind fun x65 => (stI h33 (.ref x41) (x33 + (a2 - 1)) (jmax x55 (jmin x65 0))).bind fun h73 => some (.inl none, h73)) else (some (.inl none, h7))))
section
variable {p : Program} {l : Launch} {e : Env} {s : State} {m : MethodId} {args : Array Value} {below : List Frame} {meth : Method} {c : Code} {D : va_G} {B0 : Nat} {X : Nat → Nat} {ws0 : va_W} {r : aR} {h' : aH} {mc ms : Nat}
theorem hy_X14_handed : yX14_handed.cls ≠ "java/lang/invoke/MethodHandle" ∧ yX14_handed.cls ≠ "java/lang/invoke/VarHandle" ∧ (parseMethodDescriptor yX14_handed.desc).map (fun d => d.parameters.length) = some 2 := by decide +kernel
theorem T_X14_handed (o : Nat) (a1 : Int32) (a2 : Int32) (h : aH) (r : aR) (h' : aH) (hs : s_X14_handed o a1 a2 h = some (r, h')) : Mt yX14_handed (Cond.code yX14_handed cX14_handed 5 none :: aTB) 3 68 0 0 [.ref o, .int a1, .int a2] h r h' := by
  unfold s_X14_handed at hs
  refine Mt_of (k := 2) (by decide) rfl (fun p l e s m args below meth c D B0 X ws0 C => ?_)
  show Ev p l e { frames := 3, cells := 0, slots := 0, locals := 68 } s m args below meth c D B0 X ws0 r h' 0 0 5 0 0 0 [some (.ref o), some (.int a1), some (.int a2), none, none] [] h
  refine ev_aload_n C (x := .ref o) rfl trivial dX14_handed_0 ?_
  refine ev_aload_n C (x := .ref o) rfl trivial dX14_handed_1 ?_
  obtain ⟨x2, e2, hs⟩ := aB hs
  refine ev_get C (ci := 14) (k := 60) rfl wu_14 (by decide) wf_X14_130 (gO_F e2) dX14_handed_2 ?_
  refine ev_iload_n C rfl dX14_handed_5 ?_
  obtain ⟨x6, e6, hs⟩ := aB hs
  refine ev_iald C e6 dX14_handed_6 ?_
  obtain ⟨eo7, hs⟩ := kO_at hs
  obtain ⟨h7, e7, hs⟩ := cN_at hs
  refine ev_callV C (T_X14_pushed _ _ _ _ _ e7) (ci := 14) rfl eo7 wc_X14_pushed wm_X14_459 wi_X14_pushed ws_X14_pushed wz_X14 hy_X14_pushed ⟨(Nat.le_of_ble_eq_true rfl), (Nat.le_of_ble_eq_true rfl)⟩ ⟨(Nat.le_refl _), (Nat.le_refl _)⟩ (Nat.le_of_ble_eq_true rfl) rfl dX14_handed_7 ?_
  refine ev_iload_n C rfl dX14_handed_10 ?_
  refine ev_iconst C (v := 1) dX14_handed_11 (by decide) ?_
  refine ev_isub C dX14_handed_12 ?_
  refine ev_istore_n C (by decide) dX14_handed_13 ?_
  refine ev_iload_n C rfl dX14_handed_14 ?_
  refine ev_if_lt C (tgt := 31) (by decide) dX14_handed_15 (fun q15 => ?_) (fun q15 => ?_)
  · replace hs := (if_pos q15).symm.trans hs
    cases hs
    exact ev_vret C rfl rfl (Nat.le_refl _) (Nat.le_refl _) rfl dX14_handed_31
  · replace hs := (if_neg q15).symm.trans hs
    refine ev_iload_n C rfl dX14_handed_18 ?_
    refine ev_aload_n C (x := .ref o) rfl trivial dX14_handed_19 ?_
    obtain ⟨x20, e20, hs⟩ := aB hs
    refine ev_get C (ci := 14) (k := 4) rfl wu_14 (by decide) wf_X14_376 (gO_F e20) dX14_handed_20 ?_
    obtain ⟨x23, e23, hs⟩ := aB hs
    refine ev_getN C (ci := 13) (k := 0) rfl wu_13 (by decide) wg_X14_252 (gO_F e23) dX14_handed_23 ?_
    refine ev_iconst C (v := 1) dX14_handed_26 (by decide) ?_
    obtain ⟨x27, e27, hs⟩ := aB hs
    refine ev_iald C e27 dX14_handed_27 ?_
    refine ev_icmp_lt C (tgt := 32) (by decide) dX14_handed_28 (fun q28 => ?_) (fun q28 => ?_)
    · replace hs := (if_pos q28).symm.trans hs
      refine ev_iconst C (v := 1) dX14_handed_32 (by decide) ?_
      obtain ⟨x33, h33, e33, hs⟩ := cI_at hs
      refine ev_callS C (T_X14_slotOf _ _ _ _ e33) wc_X14_slotOf wm_X14_246 wt_X14_slotOf wz_X14 hy_X14_slotOf ⟨(Nat.le_of_ble_eq_true rfl), (Nat.le_of_ble_eq_true rfl)⟩ ⟨(Nat.le_refl _), (Nat.le_refl _)⟩ (Nat.le_of_ble_eq_true rfl) rfl dX14_handed_33 ?_
      refine ev_iload_n C rfl dX14_handed_36 ?_
      refine ev_iadd C dX14_handed_37 ?_
      refine ev_istore C (by decide) dX14_handed_38 ?_
      refine ev_aload_n C (x := .ref o) rfl trivial dX14_handed_40 ?_
      obtain ⟨x41, e41, hs⟩ := aB hs
      refine ev_get C (ci := 14) (k := 29) rfl wu_14 (by decide) wf_X14_44 (gO_F e41) dX14_handed_41 ?_
      refine ev_iload C rfl dX14_handed_44 ?_
      refine ev_aload_n C (x := .ref o) rfl trivial dX14_handed_46 ?_
      obtain ⟨x47, e47, hs⟩ := aB hs
      refine ev_get C (ci := 14) (k := 4) rfl wu_14 (by decide) wf_X14_376 (gO_F e47) dX14_handed_47 ?_
      obtain ⟨x50, e50, hs⟩ := aB hs
      refine ev_getN C (ci := 13) (k := 1) rfl wu_13 (by decide) wg_X14_307 (gO_F e50) dX14_handed_50 ?_
      refine ev_iload C rfl dX14_handed_53 ?_
      obtain ⟨x55, e55, hs⟩ := aB hs
      refine ev_iald C e55 dX14_handed_55 ?_
      refine ev_aload_n C (x := .ref o) rfl trivial dX14_handed_56 ?_
      obtain ⟨x57, e57, hs⟩ := aB hs
      refine ev_get C (ci := 14) (k := 4) rfl wu_14 (by decide) wf_X14_376 (gO_F e57) dX14_handed_57 ?_
      obtain ⟨x60, e60, hs⟩ := aB hs
      refine ev_getN C (ci := 13) (k := 2) rfl wu_13 (by decide) wg_X14_317 (gO_F e60) dX14_handed_60 ?_
      refine ev_iload C rfl dX14_handed_63 ?_
      obtain ⟨x65, e65, hs⟩ := aB hs
      refine ev_iald C e65 dX14_handed_65 ?_
      refine ev_iconst C (v := 0) dX14_handed_66 (by decide) ?_
      refine ev_mmin C wm_X14_511 wt_mmin wz_J9 wc_mmin (Nat.le_of_ble_eq_true rfl) (Nat.le_of_ble_eq_true rfl) (Nat.le_refl _) (Nat.le_refl _) dX14_handed_67 ?_
      refine ev_mmax C wm_X14_513 wt_mmax wz_J9 wc_mmax (Nat.le_of_ble_eq_true rfl) (Nat.le_of_ble_eq_true rfl) (Nat.le_refl _) (Nat.le_refl _) dX14_handed_70 ?_
      obtain ⟨h73, e73, hs⟩ := aB hs
      refine ev_iast C e73 dX14_handed_73 ?_
      cases hs
      exact ev_vret C rfl rfl (Nat.le_refl _) (Nat.le_refl _) rfl dX14_handed_74
    · replace hs := (if_neg q28).symm.trans hs
      cases hs
      exact ev_vret C rfl rfl (Nat.le_refl _) (Nat.le_refl _) rfl dX14_handed_31
end
-- X14_goes
theorem dX14_goes_0 : decode cX14_goes 0 = .ok (.iconst 0, 1) := by decide +kernel
theorem dX14_goes_1 : decode cX14_goes 1 = .ok (.istore 5, 2) := by decide +kernel
theorem dX14_goes_3 : decode cX14_goes 3 = .ok (.aload_n 0, 1) := by decide +kernel
theorem dX14_goes_4 : decode cX14_goes 4 = .ok (.getfield 388, 3) := by decide +kernel
theorem dX14_goes_7 : decode cX14_goes 7 = .ok (.aload_n 0, 1) := by decide +kernel
theorem dX14_goes_8 : decode cX14_goes 8 = .ok (.getfield 385, 3) := by decide +kernel
theorem dX14_goes_11 : decode cX14_goes 11 = .ok (.idiv, 1) := by decide +kernel
theorem dX14_goes_12 : decode cX14_goes 12 = .ok (.istore 6, 2) := by decide +kernel
theorem dX14_goes_14 : decode cX14_goes 14 = .ok (.iconst 0, 1) := by decide +kernel
theorem dX14_goes_15 : decode cX14_goes 15 = .ok (.istore 7, 2) := by decide +kernel
theorem dX14_goes_17 : decode cX14_goes 17 = .ok (.iload 7, 2) := by decide +kernel
theorem dX14_goes_19 : decode cX14_goes 19 = .ok (.aload_n 0, 1) := by decide +kernel
theorem dX14_goes_20 : decode cX14_goes 20 = .ok (.getfield 379, 3) := by decide +kernel
theorem dX14_goes_23 : decode cX14_goes 23 = .ok (.if_icmp .ge 104, 3) := by decide +kernel
theorem dX14_goes_26 : decode cX14_goes 26 = .ok (.aload_n 0, 1) := by decide +kernel
theorem dX14_goes_27 : decode cX14_goes 27 = .ok (.iload 7, 2) := by decide +kernel
theorem dX14_goes_29 : decode cX14_goes 29 = .ok (.invokevirtual 416, 3) := by decide +kernel
theorem dX14_goes_32 : decode cX14_goes 32 = .ok (.iconst 1, 1) := by decide +kernel
theorem dX14_goes_33 : decode cX14_goes 33 = .ok (.invokestatic 246, 3) := by decide +kernel
theorem dX14_goes_36 : decode cX14_goes 36 = .ok (.istore 8, 2) := by decide +kernel
theorem dX14_goes_38 : decode cX14_goes 38 = .ok (.iload 8, 2) := by decide +kernel
theorem dX14_goes_40 : decode cX14_goes 40 = .ok (.iconst 2, 1) := by decide +kernel
theorem dX14_goes_41 : decode cX14_goes 41 = .ok (.invokestatic 246, 3) := by decide +kernel
theorem dX14_goes_44 : decode cX14_goes 44 = .ok (.if_icmp .ge 17, 3) := by decide +kernel
theorem dX14_goes_47 : decode cX14_goes 47 = .ok (.aload_n 0, 1) := by decide +kernel
theorem dX14_goes_48 : decode cX14_goes 48 = .ok (.getfield 44, 3) := by decide +kernel
theorem dX14_goes_51 : decode cX14_goes 51 = .ok (.iload 8, 2) := by decide +kernel
theorem dX14_goes_53 : decode cX14_goes 53 = .ok (.iconst 0, 1) := by decide +kernel
theorem dX14_goes_54 : decode cX14_goes 54 = .ok (.iastore, 1) := by decide +kernel
theorem dX14_goes_55 : decode cX14_goes 55 = .ok (.iinc 8 1, 3) := by decide +kernel
theorem dX14_goes_58 : decode cX14_goes 58 = .ok (.goto (-20), 3) := by decide +kernel
theorem dX14_goes_61 : decode cX14_goes 61 = .ok (.aload_n 0, 1) := by decide +kernel
theorem dX14_goes_62 : decode cX14_goes 62 = .ok (.iload_n 1, 1) := by decide +kernel
theorem dX14_goes_63 : decode cX14_goes 63 = .ok (.invokevirtual 462, 3) := by decide +kernel
theorem dX14_goes_66 : decode cX14_goes 66 = .ok (.aload_n 0, 1) := by decide +kernel
theorem dX14_goes_67 : decode cX14_goes 67 = .ok (.getfield 139, 3) := by decide +kernel
theorem dX14_goes_70 : decode cX14_goes 70 = .ok (.iload 7, 2) := by decide +kernel
theorem dX14_goes_72 : decode cX14_goes 72 = .ok (.aload_n 0, 1) := by decide +kernel
theorem dX14_goes_73 : decode cX14_goes 73 = .ok (.getfield 37, 3) := by decide +kernel
theorem dX14_goes_76 : decode cX14_goes 76 = .ok (.iload 7, 2) := by decide +kernel
theorem dX14_goes_78 : decode cX14_goes 78 = .ok (.baload, 1) := by decide +kernel
theorem dX14_goes_79 : decode cX14_goes 79 = .ok (.ifCond .eq 18, 3) := by decide +kernel
theorem dX14_goes_82 : decode cX14_goes 82 = .ok (.aload_n 0, 1) := by decide +kernel
theorem dX14_goes_83 : decode cX14_goes 83 = .ok (.iconst 0, 1) := by decide +kernel
theorem dX14_goes_84 : decode cX14_goes 84 = .ok (.iload_n 3, 1) := by decide +kernel
theorem dX14_goes_85 : decode cX14_goes 85 = .ok (.iload 4, 2) := by decide +kernel
theorem dX14_goes_87 : decode cX14_goes 87 = .ok (.invokevirtual 610, 3) := by decide +kernel
theorem dX14_goes_90 : decode cX14_goes 90 = .ok (.ifCond .eq 7, 3) := by decide +kernel
theorem dX14_goes_93 : decode cX14_goes 93 = .ok (.iconst 1, 1) := by decide +kernel
theorem dX14_goes_94 : decode cX14_goes 94 = .ok (.goto 4, 3) := by decide +kernel
theorem dX14_goes_97 : decode cX14_goes 97 = .ok (.iconst 0, 1) := by decide +kernel
theorem dX14_goes_98 : decode cX14_goes 98 = .ok (.bastore, 1) := by decide +kernel
theorem dX14_goes_99 : decode cX14_goes 99 = .ok (.iload 5, 2) := by decide +kernel
theorem dX14_goes_101 : decode cX14_goes 101 = .ok (.ifCond .ne 13, 3) := by decide +kernel
theorem dX14_goes_104 : decode cX14_goes 104 = .ok (.aload_n 0, 1) := by decide +kernel
theorem dX14_goes_105 : decode cX14_goes 105 = .ok (.getfield 139, 3) := by decide +kernel
theorem dX14_goes_108 : decode cX14_goes 108 = .ok (.iload 7, 2) := by decide +kernel
theorem dX14_goes_110 : decode cX14_goes 110 = .ok (.baload, 1) := by decide +kernel
theorem dX14_goes_111 : decode cX14_goes 111 = .ok (.ifCond .eq 7, 3) := by decide +kernel
theorem dX14_goes_114 : decode cX14_goes 114 = .ok (.iconst 1, 1) := by decide +kernel
theorem dX14_goes_115 : decode cX14_goes 115 = .ok (.goto 4, 3) := by decide +kernel
theorem dX14_goes_118 : decode cX14_goes 118 = .ok (.iconst 0, 1) := by decide +kernel
theorem dX14_goes_119 : decode cX14_goes 119 = .ok (.istore 5, 2) := by decide +kernel
theorem dX14_goes_121 : decode cX14_goes 121 = .ok (.iinc 7 1, 3) := by decide +kernel
theorem dX14_goes_124 : decode cX14_goes 124 = .ok (.goto (-107), 3) := by decide +kernel
theorem dX14_goes_127 : decode cX14_goes 127 = .ok (.iconst 1, 1) := by decide +kernel
theorem dX14_goes_128 : decode cX14_goes 128 = .ok (.istore 7, 2) := by decide +kernel
theorem dX14_goes_130 : decode cX14_goes 130 = .ok (.iload 7, 2) := by decide +kernel
theorem dX14_goes_132 : decode cX14_goes 132 = .ok (.iload_n 2, 1) := by decide +kernel
theorem dX14_goes_133 : decode cX14_goes 133 = .ok (.if_icmp .gt 189, 3) := by decide +kernel
theorem dX14_goes_136 : decode cX14_goes 136 = .ok (.iconst 0, 1) := by decide +kernel
theorem dX14_goes_137 : decode cX14_goes 137 = .ok (.istore 5, 2) := by decide +kernel
theorem dX14_goes_139 : decode cX14_goes 139 = .ok (.iconst 0, 1) := by decide +kernel
theorem dX14_goes_140 : decode cX14_goes 140 = .ok (.istore 8, 2) := by decide +kernel
theorem dX14_goes_142 : decode cX14_goes 142 = .ok (.iload 8, 2) := by decide +kernel
theorem dX14_goes_144 : decode cX14_goes 144 = .ok (.aload_n 0, 1) := by decide +kernel
theorem dX14_goes_145 : decode cX14_goes 145 = .ok (.getfield 379, 3) := by decide +kernel
theorem dX14_goes_148 : decode cX14_goes 148 = .ok (.if_icmp .ge 17, 3) := by decide +kernel
theorem dX14_goes_151 : decode cX14_goes 151 = .ok (.aload_n 0, 1) := by decide +kernel
theorem dX14_goes_152 : decode cX14_goes 152 = .ok (.getfield 142, 3) := by decide +kernel
theorem dX14_goes_155 : decode cX14_goes 155 = .ok (.iload 8, 2) := by decide +kernel
theorem dX14_goes_157 : decode cX14_goes 157 = .ok (.iconst 0, 1) := by decide +kernel
theorem dX14_goes_158 : decode cX14_goes 158 = .ok (.bastore, 1) := by decide +kernel
theorem dX14_goes_159 : decode cX14_goes 159 = .ok (.iinc 8 1, 3) := by decide +kernel
theorem dX14_goes_162 : decode cX14_goes 162 = .ok (.goto (-20), 3) := by decide +kernel
theorem dX14_goes_165 : decode cX14_goes 165 = .ok (.iconst 0, 1) := by decide +kernel
theorem dX14_goes_166 : decode cX14_goes 166 = .ok (.istore 8, 2) := by decide +kernel
theorem dX14_goes_168 : decode cX14_goes 168 = .ok (.iload 8, 2) := by decide +kernel
theorem dX14_goes_170 : decode cX14_goes 170 = .ok (.aload_n 0, 1) := by decide +kernel
theorem dX14_goes_171 : decode cX14_goes 171 = .ok (.getfield 379, 3) := by decide +kernel
theorem dX14_goes_174 : decode cX14_goes 174 = .ok (.if_icmp .ge 110, 3) := by decide +kernel
theorem dX14_goes_177 : decode cX14_goes 177 = .ok (.iconst 0, 1) := by decide +kernel
theorem dX14_goes_178 : decode cX14_goes 178 = .ok (.istore 9, 2) := by decide +kernel
theorem dX14_goes_180 : decode cX14_goes 180 = .ok (.iload 9, 2) := by decide +kernel
theorem dX14_goes_182 : decode cX14_goes 182 = .ok (.iload 6, 2) := by decide +kernel
theorem dX14_goes_184 : decode cX14_goes 184 = .ok (.if_icmp .ge 94, 3) := by decide +kernel
theorem dX14_goes_187 : decode cX14_goes 187 = .ok (.aload_n 0, 1) := by decide +kernel
theorem dX14_goes_188 : decode cX14_goes 188 = .ok (.getfield 139, 3) := by decide +kernel
theorem dX14_goes_191 : decode cX14_goes 191 = .ok (.iload 8, 2) := by decide +kernel
theorem dX14_goes_193 : decode cX14_goes 193 = .ok (.baload, 1) := by decide +kernel
theorem dX14_goes_194 : decode cX14_goes 194 = .ok (.ifCond .eq 84, 3) := by decide +kernel
theorem dX14_goes_197 : decode cX14_goes 197 = .ok (.aload_n 0, 1) := by decide +kernel
theorem dX14_goes_198 : decode cX14_goes 198 = .ok (.iload 8, 2) := by decide +kernel
theorem dX14_goes_200 : decode cX14_goes 200 = .ok (.invokevirtual 416, 3) := by decide +kernel
theorem dX14_goes_203 : decode cX14_goes 203 = .ok (.aload_n 0, 1) := by decide +kernel
theorem dX14_goes_204 : decode cX14_goes 204 = .ok (.iload 7, 2) := by decide +kernel
theorem dX14_goes_206 : decode cX14_goes 206 = .ok (.iload 4, 2) := by decide +kernel
theorem dX14_goes_208 : decode cX14_goes 208 = .ok (.invokevirtual 613, 3) := by decide +kernel
theorem dX14_goes_211 : decode cX14_goes 211 = .ok (.aload_n 0, 1) := by decide +kernel
theorem dX14_goes_212 : decode cX14_goes 212 = .ok (.iload 9, 2) := by decide +kernel
theorem dX14_goes_214 : decode cX14_goes 214 = .ok (.aload_n 0, 1) := by decide +kernel
theorem dX14_goes_215 : decode cX14_goes 215 = .ok (.getfield 385, 3) := by decide +kernel
theorem dX14_goes_218 : decode cX14_goes 218 = .ok (.imul, 1) := by decide +kernel
theorem dX14_goes_219 : decode cX14_goes 219 = .ok (.iload_n 1, 1) := by decide +kernel
theorem dX14_goes_220 : decode cX14_goes 220 = .ok (.iadd, 1) := by decide +kernel
theorem dX14_goes_221 : decode cX14_goes 221 = .ok (.invokevirtual 462, 3) := by decide +kernel
theorem dX14_goes_224 : decode cX14_goes 224 = .ok (.aload_n 0, 1) := by decide +kernel
theorem dX14_goes_225 : decode cX14_goes 225 = .ok (.invokevirtual 465, 3) := by decide +kernel
theorem dX14_goes_228 : decode cX14_goes 228 = .ok (.istore 10, 2) := by decide +kernel
theorem dX14_goes_230 : decode cX14_goes 230 = .ok (.iload 10, 2) := by decide +kernel
theorem dX14_goes_232 : decode cX14_goes 232 = .ok (.bipush (-2), 2) := by decide +kernel
theorem dX14_goes_234 : decode cX14_goes 234 = .ok (.if_icmp .ne 6, 3) := by decide +kernel
theorem dX14_goes_237 : decode cX14_goes 237 = .ok (.goto 35, 3) := by decide +kernel
theorem dX14_goes_240 : decode cX14_goes 240 = .ok (.aload_n 0, 1) := by decide +kernel
theorem dX14_goes_241 : decode cX14_goes 241 = .ok (.iload 10, 2) := by decide +kernel
theorem dX14_goes_243 : decode cX14_goes 243 = .ok (.invokevirtual 416, 3) := by decide +kernel
theorem dX14_goes_246 : decode cX14_goes 246 = .ok (.aload_n 0, 1) := by decide +kernel
theorem dX14_goes_247 : decode cX14_goes 247 = .ok (.iload 7, 2) := by decide +kernel
theorem dX14_goes_249 : decode cX14_goes 249 = .ok (.iload_n 3, 1) := by decide +kernel
theorem dX14_goes_250 : decode cX14_goes 250 = .ok (.iload 4, 2) := by decide +kernel
theorem dX14_goes_252 : decode cX14_goes 252 = .ok (.invokevirtual 610, 3) := by decide +kernel
theorem dX14_goes_255 : decode cX14_goes 255 = .ok (.ifCond .ne 6, 3) := by decide +kernel
theorem dX14_goes_258 : decode cX14_goes 258 = .ok (.goto 14, 3) := by decide +kernel
theorem dX14_goes_261 : decode cX14_goes 261 = .ok (.aload_n 0, 1) := by decide +kernel
theorem dX14_goes_262 : decode cX14_goes 262 = .ok (.getfield 142, 3) := by decide +kernel
theorem dX14_goes_265 : decode cX14_goes 265 = .ok (.iload 10, 2) := by decide +kernel
theorem dX14_goes_267 : decode cX14_goes 267 = .ok (.iconst 1, 1) := by decide +kernel
theorem dX14_goes_268 : decode cX14_goes 268 = .ok (.bastore, 1) := by decide +kernel
theorem dX14_goes_269 : decode cX14_goes 269 = .ok (.iconst 1, 1) := by decide +kernel
theorem dX14_goes_270 : decode cX14_goes 270 = .ok (.istore 5, 2) := by decide +kernel
theorem dX14_goes_272 : decode cX14_goes 272 = .ok (.iinc 9 1, 3) := by decide +kernel
theorem dX14_goes_275 : decode cX14_goes 275 = .ok (.goto (-95), 3) := by decide +kernel
theorem dX14_goes_278 : decode cX14_goes 278 = .ok (.iinc 8 1, 3) := by decide +kernel
theorem dX14_goes_281 : decode cX14_goes 281 = .ok (.goto (-113), 3) := by decide +kernel
theorem dX14_goes_284 : decode cX14_goes 284 = .ok (.iconst 0, 1) := by decide +kernel
theorem dX14_goes_285 : decode cX14_goes 285 = .ok (.istore 8, 2) := by decide +kernel
theorem dX14_goes_287 : decode cX14_goes 287 = .ok (.iload 8, 2) := by decide +kernel
theorem dX14_goes_289 : decode cX14_goes 289 = .ok (.aload_n 0, 1) := by decide +kernel
theorem dX14_goes_290 : decode cX14_goes 290 = .ok (.getfield 379, 3) := by decide +kernel
theorem dX14_goes_293 : decode cX14_goes 293 = .ok (.if_icmp .ge 23, 3) := by decide +kernel
theorem dX14_goes_296 : decode cX14_goes 296 = .ok (.aload_n 0, 1) := by decide +kernel
theorem dX14_goes_297 : decode cX14_goes 297 = .ok (.getfield 139, 3) := by decide +kernel
theorem dX14_goes_300 : decode cX14_goes 300 = .ok (.iload 8, 2) := by decide +kernel
theorem dX14_goes_302 : decode cX14_goes 302 = .ok (.aload_n 0, 1) := by decide +kernel
theorem dX14_goes_303 : decode cX14_goes 303 = .ok (.getfield 142, 3) := by decide +kernel
theorem dX14_goes_306 : decode cX14_goes 306 = .ok (.iload 8, 2) := by decide +kernel
theorem dX14_goes_308 : decode cX14_goes 308 = .ok (.baload, 1) := by decide +kernel
theorem dX14_goes_309 : decode cX14_goes 309 = .ok (.bastore, 1) := by decide +kernel
theorem dX14_goes_310 : decode cX14_goes 310 = .ok (.iinc 8 1, 3) := by decide +kernel
theorem dX14_goes_313 : decode cX14_goes 313 = .ok (.goto (-26), 3) := by decide +kernel
theorem dX14_goes_316 : decode cX14_goes 316 = .ok (.iinc 7 1, 3) := by decide +kernel
theorem dX14_goes_319 : decode cX14_goes 319 = .ok (.goto (-189), 3) := by decide +kernel
theorem dX14_goes_322 : decode cX14_goes 322 = .ok (.iload 5, 2) := by decide +kernel
theorem dX14_goes_324 : decode cX14_goes 324 = .ok (.ireturn, 1) := by decide +kernel
def s_X14_goes_287_b (k130 : Nat → Int32 → Int32 → Int32 → Int32 → Int32 → Int32 → Int32 → aH → aO) (k287 : Nat → Int32 → Int32 → Int32 → Int32 → Int32 → Int32 → Int32 → Int32 → aH → aO) (l0 : Nat) (l1 : Int32) (l2 : Int32) (l3 : Int32) (l4 : Int32) (l5 : Int32) (l6 : Int32) (l7 : Int32) (l8 : Int32) (h : aH) : aO :=
  (gI h (.ref l0) 14 20).bind fun x290 => if x290 ≤ l8 then (k130 l0 l1 l2 l3 l4 l5 l6 (l7 + 1) h) else ((gO h (.ref l0) 14 63).bind fun x297 => (gO h (.ref l0) 14 64).bind fun x303 => (ldI .boolean h (.ref x303) l8).bind fun x308 => (stN .boolean h (.ref x297) l8 x308).bind fun h309 => k287 l0 l1 l2 l3 l4 l5 l6 l7 (l8 + 1) h309)
def s_X14_goes_287 (k130 : Nat → Int32 → Int32 → Int32 → Int32 → Int32 → Int32 → Int32 → aH → aO) (n : Nat) : Nat → Int32 → Int32 → Int32 → Int32 → Int32 → Int32 → Int32 → Int32 → aH → aO := lpF (fun _ _ _ _ _ _ _ _ _ _ => none) (s_X14_goes_287_b k130) n
def s_X14_goes_180_b (k130 : Nat → Int32 → Int32 → Int32 → Int32 → Int32 → Int32 → Int32 → aH → aO) (k168 : Nat → Int32 → Int32 → Int32 → Int32 → Int32 → Int32 → Int32 → Int32 → aH → aO) (k180 : Nat → Int32 → Int32 → Int32 → Int32 → Int32 → Int32 → Int32 → Int32 → Int32 → aH → aO) (l0 : Nat) (l1 : Int32) (l2 : Int32) (l3 : Int32) (l4 : Int32) (l5 : Int32) (l6 : Int32) (l7 : Int32) (l8 : Int32) (l9 : Int32) (h : aH) : aO :=
  if l6 ≤ l9 then (k168 l0 l1 l2 l3 l4 l5 l6 l7 (l8 + 1) h) else ((gO h (.ref l0) 14 63).bind fun x188 => (ldI .boolean h (.ref x188) l8).bind fun x193 => if x193 = 0 then (k168 l0 l1 l2 l3 l4 l5 l6 l7 (l8 + 1) h) else (kO h l0 14 (cN (s_X14_lays l0 l8 h) fun h200 => kO h200 l0 14 (cN (s_X14_handed l0 l7 l4 h200) fun h208 => (gI h208 (.ref l0) 14 23).bind fun x215 => kO h208 l0 14 (cN (s_X14_worlded l0 ((l9 * x215) + l1) h208) fun h221 => kO h221 l0 14 (cI (s_X14_nextHere l0 h221) fun x225 h225 => if x225 = (-2) then (k180 l0 l1 l2 l3 l4 l5 l6 l7 l8 (l9 + 1) h225) else (kO h225 l0 14 (cN (s_X14_lays l0 x225 h225) fun h243 => kO h243 l0 14 (cI (s_X14_fitsHere l0 l7 l3 l4 h243) fun x252 h252 => if x252 = 0 then (k180 l0 l1 l2 l3 l4 l5 l6 l7 l8 (l9 + 1) h252) else ((gO h252 (.ref l0) 14 64).bind fun x262 => (stN .boolean h252 (.ref x262) x225 1).bind fun h268 => k180 l0 l1 l2 l3 l4 1 l6 l7 l8 (l9 + 1) h268))))))))))
def s_X14_goes_180 (k130 : Nat → Int32 → Int32 → Int32 → Int32 → Int32 → Int32 → Int32 → aH → aO) (k168 : Nat → Int32 → Int32 → Int32 → Int32 → Int32 → Int32 → Int32 → Int32 → aH → aO) (n : Nat) : Nat → Int32 → Int32 → Int32 → Int32 → Int32 → Int32 → Int32 → Int32 → Int32 → aH → aO := lpF (fun _ _ _ _ _ _ _ _ _ _ _ => none) (s_X14_goes_180_b k130 k168) n
def s_X14_goes_168_b (k130 : Nat → Int32 → Int32 → Int32 → Int32 → Int32 → Int32 → Int32 → aH → aO) (k168 : Nat → Int32 → Int32 → Int32 → Int32 → Int32 → Int32 → Int32 → Int32 → aH → aO) (l0 : Nat) (l1 : Int32) (l2 : Int32) (l3 : Int32) (l4 : Int32) (l5 : Int32) (l6 : Int32) (l7 : Int32) (l8 : Int32) (h : aH) : aO :=
  (gI h (.ref l0) 14 20).bind fun x171 => if x171 ≤ l8 then (s_X14_goes_287 k130 FU l0 l1 l2 l3 l4 l5 l6 l7 0 h) else (s_X14_goes_180 k130 k168 FU l0 l1 l2 l3 l4 l5 l6 l7 l8 0 h)
def s_X14_goes_168 (k130 : Nat → Int32 → Int32 → Int32 → Int32 → Int32 → Int32 → Int32 → aH → aO) (n : Nat) : Nat → Int32 → Int32 → Int32 → Int32 → Int32 → Int32 → Int32 → Int32 → aH → aO := lpF (fun _ _ _ _ _ _ _ _ _ _ => none) (s_X14_goes_168_b k130) n
def s_X14_goes_142_b (k130 : Nat → Int32 → Int32 → Int32 → Int32 → Int32 → Int32 → Int32 → aH → aO) (k142 : Nat → Int32 → Int32 → Int32 → Int32 → Int32 → Int32 → Int32 → Int32 → aH → aO) (l0 : Nat) (l1 : Int32) (l2 : Int32) (l3 : Int32) (l4 : Int32) (l5 : Int32) (l6 : Int32) (l7 : Int32) (l8 : Int32) (h : aH) : aO :=
  (gI h (.ref l0) 14 20).bind fun x145 => if x145 ≤ l8 then (s_X14_goes_168 k130 FU l0 l1 l2 l3 l4 l5 l6 l7 0 h) else ((gO h (.ref l0) 14 64).bind fun x152 => (stN .boolean h (.ref x152) l8 0).bind fun h158 => k142 l0 l1 l2 l3 l4 l5 l6 l7 (l8 + 1) h158)
def s_X14_goes_142 (k130 : Nat → Int32 → Int32 → Int32 → Int32 → Int32 → Int32 → Int32 → aH → aO) (n : Nat) : Nat → Int32 → Int32 → Int32 → Int32 → Int32 → Int32 → Int32 → Int32 → aH → aO := lpF (fun _ _ _ _ _ _ _ _ _ _ => none) (s_X14_goes_142_b k130) n
def s_X14_goes_130_b  (k130 : Nat → Int32 → Int32 → Int32 → Int32 → Int32 → Int32 → Int32 → aH → aO) (l0 : Nat) (l1 : Int32) (l2 : Int32) (l3 : Int32) (l4 : Int32) (l5 : Int32) (l6 : Int32) (l7 : Int32) (h : aH) : aO :=
  if l2 < l7 then (rtZ l5 h) else (s_X14_goes_142 k130 FU l0 l1 l2 l3 l4 0 l6 l7 0 h)
def s_X14_goes_130  (n : Nat) : Nat → Int32 → Int32 → Int32 → Int32 → Int32 → Int32 → Int32 → aH → aO := lpF (fun _ _ _ _ _ _ _ _ _ => none) (s_X14_goes_130_b ) n
def s_X14_goes_119 (k17 : Nat → Int32 → Int32 → Int32 → Int32 → Int32 → Int32 → Int32 → aH → aO) (l0 : Nat) (l1 : Int32) (l2 : Int32) (l3 : Int32) (l4 : Int32) (l6 : Int32) (l7 : Int32) (s0 : Int32) (h : aH) : aO :=
  k17 l0 l1 l2 l3 l4 s0 l6 (l7 + 1) h
def s_X14_goes_114 (k17 : Nat → Int32 → Int32 → Int32 → Int32 → Int32 → Int32 → Int32 → aH → aO) (l0 : Nat) (l1 : Int32) (l2 : Int32) (l3 : Int32) (l4 : Int32) (l6 : Int32) (l7 : Int32) (h : aH) : aO :=
  s_X14_goes_119 k17 l0 l1 l2 l3 l4 l6 l7 1 h
def s_X14_goes_98 (k17 : Nat → Int32 → Int32 → Int32 → Int32 → Int32 → Int32 → Int32 → aH → aO) (l0 : Nat) (l1 : Int32) (l2 : Int32) (l3 : Int32) (l4 : Int32) (l5 : Int32) (l6 : Int32) (l7 : Int32) (s0 : Int32) (s1 : Int32) (s2 : Nat) (h : aH) : aO :=
  (stN .boolean h (.ref s2) s1 s0).bind fun h98 => if l5 = 0 then ((gO h98 (.ref l0) 14 63).bind fun x105 => (ldI .boolean h98 (.ref x105) l7).bind fun x110 => if x110 = 0 then (s_X14_goes_119 k17 l0 l1 l2 l3 l4 l6 l7 0 h98) else (s_X14_goes_114 k17 l0 l1 l2 l3 l4 l6 l7 h98)) else (s_X14_goes_114 k17 l0 l1 l2 l3 l4 l6 l7 h98)
def s_X14_goes_97 (k17 : Nat → Int32 → Int32 → Int32 → Int32 → Int32 → Int32 → Int32 → aH → aO) (l0 : Nat) (l1 : Int32) (l2 : Int32) (l3 : Int32) (l4 : Int32) (l5 : Int32) (l6 : Int32) (l7 : Int32) (s0 : Int32) (s1 : Nat) (h : aH) : aO :=
  s_X14_goes_98 k17 l0 l1 l2 l3 l4 l5 l6 l7 0 s0 s1 h
def s_X14_goes_38_b (k17 : Nat → Int32 → Int32 → Int32 → Int32 → Int32 → Int32 → Int32 → aH → aO) (k38 : Nat → Int32 → Int32 → Int32 → Int32 → Int32 → Int32 → Int32 → Int32 → aH → aO) (l0 : Nat) (l1 : Int32) (l2 : Int32) (l3 : Int32) (l4 : Int32) (l5 : Int32) (l6 : Int32) (l7 : Int32) (l8 : Int32) (h : aH) : aO :=
  cI (s_X14_slotOf 2 h) fun x41 h41 => if x41 ≤ l8 then (kO h41 l0 14 (cN (s_X14_worlded l0 l1 h41) fun h63 => (gO h63 (.ref l0) 14 63).bind fun x67 => (gO h63 (.ref l0) 14 27).bind fun x73 => (ldI .boolean h63 (.ref x73) l7).bind fun x78 => if x78 = 0 then (s_X14_goes_97 k17 l0 l1 l2 l3 l4 l5 l6 l7 l7 x67 h63) else (kO h63 l0 14 (cI (s_X14_fitsHere l0 0 l3 l4 h63) fun x87 h87 => if x87 = 0 then (s_X14_goes_97 k17 l0 l1 l2 l3 l4 l5 l6 l7 l7 x67 h87) else (s_X14_goes_98 k17 l0 l1 l2 l3 l4 l5 l6 l7 1 l7 x67 h87))))) else ((gO h41 (.ref l0) 14 29).bind fun x48 => (stI h41 (.ref x48) l8 0).bind fun h54 => k38 l0 l1 l2 l3 l4 l5 l6 l7 (l8 + 1) h54)
def s_X14_goes_38 (k17 : Nat → Int32 → Int32 → Int32 → Int32 → Int32 → Int32 → Int32 → aH → aO) (n : Nat) : Nat → Int32 → Int32 → Int32 → Int32 → Int32 → Int32 → Int32 → Int32 → aH → aO := lpF (fun _ _ _ _ _ _ _ _ _ _ => none) (s_X14_goes_38_b k17) n
def s_X14_goes_17_b  (k17 : Nat → Int32 → Int32 → Int32 → Int32 → Int32 → Int32 → Int32 → aH → aO) (l0 : Nat) (l1 : Int32) (l2 : Int32) (l3 : Int32) (l4 : Int32) (l5 : Int32) (l6 : Int32) (l7 : Int32) (h : aH) : aO :=
  (gI h (.ref l0) 14 20).bind fun x20 => if x20 ≤ l7 then (s_X14_goes_130 FU l0 l1 l2 l3 l4 l5 l6 1 h) else (kO h l0 14 (cN (s_X14_lays l0 l7 h) fun h29 => cI (s_X14_slotOf 1 h29) fun x33 h33 => s_X14_goes_38 k17 FU l0 l1 l2 l3 l4 l5 l6 l7 x33 h33))
def s_X14_goes_17  (n : Nat) : Nat → Int32 → Int32 → Int32 → Int32 → Int32 → Int32 → Int32 → aH → aO := lpF (fun _ _ _ _ _ _ _ _ _ => none) (s_X14_goes_17_b ) n
def s_X14_goes (o : Nat) (a1 : Int32) (a2 : Int32) (a3 : Int32) (a4 : Int32) (h : aH) : aO :=
  (gI h (.ref o) 14 22).bind fun x4 => (gI h (.ref o) 14 23).bind fun x8 => nz x8 (s_X14_goes_17 FU o a1 a2 a3 a4 0 (x4 / x8) 0 h)
section
variable {p : Program} {l : Launch} {e : Env} {s : State} {m : MethodId} {args : Array Value} {below : List Frame} {meth : Method} {c : Code} {D : va_G} {B0 : Nat} {X : Nat → Nat} {ws0 : va_W} {r : aR} {h' : aH} {mc ms : Nat}
theorem t_X14_goes_287_b (C : Cx p l s m args meth c B0 X RX14 "goes" cX14_goes 11 (some .boolean) []) {k130 : Nat → Int32 → Int32 → Int32 → Int32 → Int32 → Int32 → Int32 → aH → aO} (K130 : ∀ (l0 : Nat) (l1 : Int32) (l2 : Int32) (l3 : Int32) (l4 : Int32) (l5 : Int32) (l6 : Int32) (l7 : Int32) (h : aH), k130 l0 l1 l2 l3 l4 l5 l6 l7 h = some (r, h') → Ev p l e { frames := 5, cells := mc, slots := ms, locals := 123 } s m args below meth c D B0 X ws0 r h' mc ms 11 mc ms 130 [some (.ref l0), some (.int l1), some (.int l2), some (.int l3), some (.int l4), some (.int l5), some (.int l6), some (.int l7), none, none, none] [] h) {k287 : Nat → Int32 → Int32 → Int32 → Int32 → Int32 → Int32 → Int32 → Int32 → aH → aO} (K287 : ∀ (l0 : Nat) (l1 : Int32) (l2 : Int32) (l3 : Int32) (l4 : Int32) (l5 : Int32) (l6 : Int32) (l7 : Int32) (l8 : Int32) (h : aH), k287 l0 l1 l2 l3 l4 l5 l6 l7 l8 h = some (r, h') → Ev p l e { frames := 5, cells := mc, slots := ms, locals := 123 } s m args below meth c D B0 X ws0 r h' mc ms 11 mc ms 287 [some (.ref l0), some (.int l1), some (.int l2), some (.int l3), some (.int l4), some (.int l5), some (.int l6), some (.int l7), some (.int l8), none, none] [] h) {l0 : Nat} {l1 : Int32} {l2 : Int32} {l3 : Int32} {l4 : Int32} {l5 : Int32} {l6 : Int32} {l7 : Int32} {l8 : Int32} {h : aH} (hs : s_X14_goes_287_b k130 k287 l0 l1 l2 l3 l4 l5 l6 l7 l8 h = some (r, h')) : Ev p l e { frames := 5, cells := mc, slots := ms, locals := 123 } s m args below meth c D B0 X ws0 r h' mc ms 11 mc ms 287 [some (.ref l0), some (.int l1), some (.int l2), some (.int l3), some (.int l4), some (.int l5), some (.int l6), some (.int l7), some (.int l8), none, none] [] h := by
  unfold s_X14_goes_287_b at hs
  refine ev_iload C rfl dX14_goes_287 ?_
  refine ev_aload_n C (x := .ref l0) rfl trivial dX14_goes_289 ?_
  obtain ⟨x290, e290, hs⟩ := aB hs
  refine ev_get C (ci := 14) (k := 20) rfl wu_14 (by decide) wf_X14_379 (gI_F e290) dX14_goes_290 ?_
  refine ev_icmp_ge C (tgt := 316) (by decide) dX14_goes_293 (fun q293 => ?_) (fun q293 => ?_)
  · replace hs := (if_pos q293).symm.trans hs
    refine ev_iinc C (i := 7) (n := 1) (x := l7) (v := l7 + 1) rfl (congrArg (fun z => l7 + z) (show Int32.ofInt 1 = 1 by decide)) (by decide) dX14_goes_316 ?_
    refine ev_goto C (tgt := 130) (by decide) dX14_goes_319 ?_
    exact Ev.keep [true, true, true, true, true, true, true, true, false, true, true] (K130 _ _ _ _ _ _ _ _ _ hs)
  · replace hs := (if_neg q293).symm.trans hs
    refine ev_aload_n C (x := .ref l0) rfl trivial dX14_goes_296 ?_
    obtain ⟨x297, e297, hs⟩ := aB hs
    refine ev_get C (ci := 14) (k := 63) rfl wu_14 (by decide) wf_X14_139 (gO_F e297) dX14_goes_297 ?_
    refine ev_iload C rfl dX14_goes_300 ?_
    refine ev_aload_n C (x := .ref l0) rfl trivial dX14_goes_302 ?_
    obtain ⟨x303, e303, hs⟩ := aB hs
    refine ev_get C (ci := 14) (k := 64) rfl wu_14 (by decide) wf_X14_142 (gO_F e303) dX14_goes_303 ?_
    refine ev_iload C rfl dX14_goes_306 ?_
    obtain ⟨x308, e308, hs⟩ := aB hs
    refine ev_zald C e308 dX14_goes_308 ?_
    obtain ⟨h309, e309, hs⟩ := aB hs
    refine ev_zast C e309 dX14_goes_309 ?_
    refine ev_iinc C (i := 8) (n := 1) (x := l8) (v := l8 + 1) rfl (congrArg (fun z => l8 + z) (show Int32.ofInt 1 = 1 by decide)) (by decide) dX14_goes_310 ?_
    refine ev_goto C (tgt := 287) (by decide) dX14_goes_313 ?_
    exact (K287 _ _ _ _ _ _ _ _ _ _ hs)
theorem t_X14_goes_287 (C : Cx p l s m args meth c B0 X RX14 "goes" cX14_goes 11 (some .boolean) []) {k130 : Nat → Int32 → Int32 → Int32 → Int32 → Int32 → Int32 → Int32 → aH → aO} (K130 : ∀ (l0 : Nat) (l1 : Int32) (l2 : Int32) (l3 : Int32) (l4 : Int32) (l5 : Int32) (l6 : Int32) (l7 : Int32) (h : aH), k130 l0 l1 l2 l3 l4 l5 l6 l7 h = some (r, h') → Ev p l e { frames := 5, cells := mc, slots := ms, locals := 123 } s m args below meth c D B0 X ws0 r h' mc ms 11 mc ms 130 [some (.ref l0), some (.int l1), some (.int l2), some (.int l3), some (.int l4), some (.int l5), some (.int l6), some (.int l7), none, none, none] [] h) : ∀ (n : Nat) {l0 : Nat} {l1 : Int32} {l2 : Int32} {l3 : Int32} {l4 : Int32} {l5 : Int32} {l6 : Int32} {l7 : Int32} {l8 : Int32} {h : aH} (hs : s_X14_goes_287 k130 n l0 l1 l2 l3 l4 l5 l6 l7 l8 h = some (r, h')), Ev p l e { frames := 5, cells := mc, slots := ms, locals := 123 } s m args below meth c D B0 X ws0 r h' mc ms 11 mc ms 287 [some (.ref l0), some (.int l1), some (.int l2), some (.int l3), some (.int l4), some (.int l5), some (.int l6), some (.int l7), some (.int l8), none, none] [] h
  | 0, _, _, _, _, _, _, _, _, _, _, hs => nomatch hs
  | n + 1, _, _, _, _, _, _, _, _, _, _, hs => t_X14_goes_287_b C K130 (k287 := s_X14_goes_287 k130 n) (fun _ _ _ _ _ _ _ _ _ _ hs => t_X14_goes_287 C K130 n hs) hs
theorem t_X14_goes_180_b (C : Cx p l s m args meth c B0 X RX14 "goes" cX14_goes 11 (some .boolean) []) {k130 : Nat → Int32 → Int32 → Int32 → Int32 → Int32 → Int32 → Int32 → aH → aO} {k168 : Nat → Int32 → Int32 → Int32 → Int32 → Int32 → Int32 → Int32 → Int32 → aH → aO} (K130 : ∀ (l0 : Nat) (l1 : Int32) (l2 : Int32) (l3 : Int32) (l4 : Int32) (l5 : Int32) (l6 : Int32) (l7 : Int32) (h : aH), k130 l0 l1 l2 l3 l4 l5 l6 l7 h = some (r, h') → Ev p l e { frames := 5, cells := mc, slots := ms, locals := 123 } s m args below meth c D B0 X ws0 r h' mc ms 11 mc ms 130 [some (.ref l0), some (.int l1), some (.int l2), some (.int l3), some (.int l4), some (.int l5), some (.int l6), some (.int l7), none, none, none] [] h) (K168 : ∀ (l0 : Nat) (l1 : Int32) (l2 : Int32) (l3 : Int32) (l4 : Int32) (l5 : Int32) (l6 : Int32) (l7 : Int32) (l8 : Int32) (h : aH), k168 l0 l1 l2 l3 l4 l5 l6 l7 l8 h = some (r, h') → Ev p l e { frames := 5, cells := mc, slots := ms, locals := 123 } s m args below meth c D B0 X ws0 r h' mc ms 11 mc ms 168 [some (.ref l0), some (.int l1), some (.int l2), some (.int l3), some (.int l4), some (.int l5), some (.int l6), some (.int l7), some (.int l8), none, none] [] h) {k180 : Nat → Int32 → Int32 → Int32 → Int32 → Int32 → Int32 → Int32 → Int32 → Int32 → aH → aO} (K180 : ∀ (l0 : Nat) (l1 : Int32) (l2 : Int32) (l3 : Int32) (l4 : Int32) (l5 : Int32) (l6 : Int32) (l7 : Int32) (l8 : Int32) (l9 : Int32) (h : aH), k180 l0 l1 l2 l3 l4 l5 l6 l7 l8 l9 h = some (r, h') → Ev p l e { frames := 5, cells := mc, slots := ms, locals := 123 } s m args below meth c D B0 X ws0 r h' mc ms 11 mc ms 180 [some (.ref l0), some (.int l1), some (.int l2), some (.int l3), some (.int l4), some (.int l5), some (.int l6), some (.int l7), some (.int l8), some (.int l9), none] [] h) {l0 : Nat} {l1 : Int32} {l2 : Int32} {l3 : Int32} {l4 : Int32} {l5 : Int32} {l6 : Int32} {l7 : Int32} {l8 : Int32} {l9 : Int32} {h : aH} (hs : s_X14_goes_180_b k130 k168 k180 l0 l1 l2 l3 l4 l5 l6 l7 l8 l9 h = some (r, h')) : Ev p l e { frames := 5, cells := mc, slots := ms, locals := 123 } s m args below meth c D B0 X ws0 r h' mc ms 11 mc ms 180 [some (.ref l0), some (.int l1), some (.int l2), some (.int l3), some (.int l4), some (.int l5), some (.int l6), some (.int l7), some (.int l8), some (.int l9), none] [] h := by
  unfold s_X14_goes_180_b at hs
  refine ev_iload C rfl dX14_goes_180 ?_
  refine ev_iload C rfl dX14_goes_182 ?_
  refine ev_icmp_ge C (tgt := 278) (by decide) dX14_goes_184 (fun q184 => ?_) (fun q184 => ?_)
  · replace hs := (if_pos q184).symm.trans hs
    refine ev_iinc C (i := 8) (n := 1) (x := l8) (v := l8 + 1) rfl (congrArg (fun z => l8 + z) (show Int32.ofInt 1 = 1 by decide)) (by decide) dX14_goes_278 ?_
    refine ev_goto C (tgt := 168) (by decide) dX14_goes_281 ?_
    exact Ev.keep [true, true, true, true, true, true, true, true, true, false, true] (K168 _ _ _ _ _ _ _ _ _ _ hs)
  · replace hs := (if_neg q184).symm.trans hs
    refine ev_aload_n C (x := .ref l0) rfl trivial dX14_goes_187 ?_
    obtain ⟨x188, e188, hs⟩ := aB hs
    refine ev_get C (ci := 14) (k := 63) rfl wu_14 (by decide) wf_X14_139 (gO_F e188) dX14_goes_188 ?_
    refine ev_iload C rfl dX14_goes_191 ?_
    obtain ⟨x193, e193, hs⟩ := aB hs
    refine ev_zald C e193 dX14_goes_193 ?_
    refine ev_if_eq C (tgt := 278) (by decide) dX14_goes_194 (fun q194 => ?_) (fun q194 => ?_)
    · replace hs := (if_pos q194).symm.trans hs
      refine ev_iinc C (i := 8) (n := 1) (x := l8) (v := l8 + 1) rfl (congrArg (fun z => l8 + z) (show Int32.ofInt 1 = 1 by decide)) (by decide) dX14_goes_278 ?_
      refine ev_goto C (tgt := 168) (by decide) dX14_goes_281 ?_
      exact Ev.keep [true, true, true, true, true, true, true, true, true, false, true] (K168 _ _ _ _ _ _ _ _ _ _ hs)
    · replace hs := (if_neg q194).symm.trans hs
      refine ev_aload_n C (x := .ref l0) rfl trivial dX14_goes_197 ?_
      refine ev_iload C rfl dX14_goes_198 ?_
      obtain ⟨eo200, hs⟩ := kO_at hs
      obtain ⟨h200, e200, hs⟩ := cN_at hs
      refine ev_callV C (T_X14_lays _ _ _ _ _ e200) (ci := 14) rfl eo200 wc_X14_lays wm_X14_416 wi_X14_lays ws_X14_lays wz_X14 hy_X14_lays ⟨(Nat.le_of_ble_eq_true rfl), (Nat.le_of_ble_eq_true rfl)⟩ ⟨(Nat.le_refl _), (Nat.le_refl _)⟩ (Nat.le_of_ble_eq_true rfl) rfl dX14_goes_200 ?_
      refine ev_aload_n C (x := .ref l0) rfl trivial dX14_goes_203 ?_
      refine ev_iload C rfl dX14_goes_204 ?_
      refine ev_iload C rfl dX14_goes_206 ?_
      obtain ⟨eo208, hs⟩ := kO_at hs
      obtain ⟨h208, e208, hs⟩ := cN_at hs
      refine ev_callV C (T_X14_handed _ _ _ _ _ _ e208) (ci := 14) rfl eo208 wc_X14_handed wm_X14_613 wi_X14_handed ws_X14_handed wz_X14 hy_X14_handed ⟨(Nat.le_of_ble_eq_true rfl), (Nat.le_of_ble_eq_true rfl)⟩ ⟨(Nat.le_refl _), (Nat.le_refl _)⟩ (Nat.le_of_ble_eq_true rfl) rfl dX14_goes_208 ?_
      refine ev_aload_n C (x := .ref l0) rfl trivial dX14_goes_211 ?_
      refine ev_iload C rfl dX14_goes_212 ?_
      refine ev_aload_n C (x := .ref l0) rfl trivial dX14_goes_214 ?_
      obtain ⟨x215, e215, hs⟩ := aB hs
      refine ev_get C (ci := 14) (k := 23) rfl wu_14 (by decide) wf_X14_385 (gI_F e215) dX14_goes_215 ?_
      refine ev_imul C dX14_goes_218 ?_
      refine ev_iload_n C rfl dX14_goes_219 ?_
      refine ev_iadd C dX14_goes_220 ?_
      obtain ⟨eo221, hs⟩ := kO_at hs
      obtain ⟨h221, e221, hs⟩ := cN_at hs
      refine ev_callV C (T_X14_worlded _ _ _ _ _ e221) (ci := 14) rfl eo221 wc_X14_worlded wm_X14_462 wi_X14_worlded ws_X14_worlded wz_X14 hy_X14_worlded ⟨(Nat.le_of_ble_eq_true rfl), (Nat.le_of_ble_eq_true rfl)⟩ ⟨(Nat.le_refl _), (Nat.le_refl _)⟩ (Nat.le_of_ble_eq_true rfl) rfl dX14_goes_221 ?_
      refine ev_aload_n C (x := .ref l0) rfl trivial dX14_goes_224 ?_
      obtain ⟨eo225, hs⟩ := kO_at hs
      obtain ⟨x225, h225, e225, hs⟩ := cI_at hs
      refine ev_callV C (T_X14_nextHere _ _ _ _ e225) (ci := 14) rfl eo225 wc_X14_nextHere wm_X14_465 wi_X14_nextHere ws_X14_nextHere wz_X14 hy_X14_nextHere ⟨(Nat.le_of_ble_eq_true rfl), (Nat.le_of_ble_eq_true rfl)⟩ ⟨(Nat.le_refl _), (Nat.le_refl _)⟩ (Nat.le_of_ble_eq_true rfl) rfl dX14_goes_225 ?_
      refine ev_istore C (by decide) dX14_goes_228 ?_
      refine ev_iload C rfl dX14_goes_230 ?_
      refine ev_bipush C (v := (-2)) dX14_goes_232 (by decide) ?_
      refine ev_icmp_ne C (tgt := 240) (by decide) dX14_goes_234 (fun q234 => ?_) (fun q234 => ?_)
      · replace hs := (if_neg q234).symm.trans hs
        refine ev_aload_n C (x := .ref l0) rfl trivial dX14_goes_240 ?_
        refine ev_iload C rfl dX14_goes_241 ?_
        obtain ⟨eo243, hs⟩ := kO_at hs
        obtain ⟨h243, e243, hs⟩ := cN_at hs
        refine ev_callV C (T_X14_lays _ _ _ _ _ e243) (ci := 14) rfl eo243 wc_X14_lays wm_X14_416 wi_X14_lays ws_X14_lays wz_X14 hy_X14_lays ⟨(Nat.le_of_ble_eq_true rfl), (Nat.le_of_ble_eq_true rfl)⟩ ⟨(Nat.le_refl _), (Nat.le_refl _)⟩ (Nat.le_of_ble_eq_true rfl) rfl dX14_goes_243 ?_
        refine ev_aload_n C (x := .ref l0) rfl trivial dX14_goes_246 ?_
        refine ev_iload C rfl dX14_goes_247 ?_
        refine ev_iload_n C rfl dX14_goes_249 ?_
        refine ev_iload C rfl dX14_goes_250 ?_
        obtain ⟨eo252, hs⟩ := kO_at hs
        obtain ⟨x252, h252, e252, hs⟩ := cI_at hs
        refine ev_callV C (T_X14_fitsHere _ _ _ _ _ _ _ e252) (ci := 14) rfl eo252 wc_X14_fitsHere wm_X14_610 wi_X14_fitsHere ws_X14_fitsHere wz_X14 hy_X14_fitsHere ⟨(Nat.le_of_ble_eq_true rfl), (Nat.le_of_ble_eq_true rfl)⟩ ⟨(Nat.le_refl _), (Nat.le_refl _)⟩ (Nat.le_of_ble_eq_true rfl) rfl dX14_goes_252 ?_
        refine ev_if_ne C (tgt := 261) (by decide) dX14_goes_255 (fun q255 => ?_) (fun q255 => ?_)
        · replace hs := (if_neg q255).symm.trans hs
          refine ev_aload_n C (x := .ref l0) rfl trivial dX14_goes_261 ?_
          obtain ⟨x262, e262, hs⟩ := aB hs
          refine ev_get C (ci := 14) (k := 64) rfl wu_14 (by decide) wf_X14_142 (gO_F e262) dX14_goes_262 ?_
          refine ev_iload C rfl dX14_goes_265 ?_
          refine ev_iconst C (v := 1) dX14_goes_267 (by decide) ?_
          obtain ⟨h268, e268, hs⟩ := aB hs
          refine ev_zast C e268 dX14_goes_268 ?_
          refine ev_iconst C (v := 1) dX14_goes_269 (by decide) ?_
          refine ev_istore C (by decide) dX14_goes_270 ?_
          refine ev_iinc C (i := 9) (n := 1) (x := l9) (v := l9 + 1) rfl (congrArg (fun z => l9 + z) (show Int32.ofInt 1 = 1 by decide)) (by decide) dX14_goes_272 ?_
          refine ev_goto C (tgt := 180) (by decide) dX14_goes_275 ?_
          exact Ev.keep [true, true, true, true, true, true, true, true, true, true, false] (K180 _ _ _ _ _ _ _ _ _ _ _ hs)
        · replace hs := (if_pos q255).symm.trans hs
          refine ev_goto C (tgt := 272) (by decide) dX14_goes_258 ?_
          refine ev_iinc C (i := 9) (n := 1) (x := l9) (v := l9 + 1) rfl (congrArg (fun z => l9 + z) (show Int32.ofInt 1 = 1 by decide)) (by decide) dX14_goes_272 ?_
          refine ev_goto C (tgt := 180) (by decide) dX14_goes_275 ?_
          exact Ev.keep [true, true, true, true, true, true, true, true, true, true, false] (K180 _ _ _ _ _ _ _ _ _ _ _ hs)
      · replace hs := (if_pos q234).symm.trans hs
        refine ev_goto C (tgt := 272) (by decide) dX14_goes_237 ?_
        refine ev_iinc C (i := 9) (n := 1) (x := l9) (v := l9 + 1) rfl (congrArg (fun z => l9 + z) (show Int32.ofInt 1 = 1 by decide)) (by decide) dX14_goes_272 ?_
        refine ev_goto C (tgt := 180) (by decide) dX14_goes_275 ?_
        exact Ev.keep [true, true, true, true, true, true, true, true, true, true, false] (K180 _ _ _ _ _ _ _ _ _ _ _ hs)
theorem t_X14_goes_180 (C : Cx p l s m args meth c B0 X RX14 "goes" cX14_goes 11 (some .boolean) []) {k130 : Nat → Int32 → Int32 → Int32 → Int32 → Int32 → Int32 → Int32 → aH → aO} {k168 : Nat → Int32 → Int32 → Int32 → Int32 → Int32 → Int32 → Int32 → Int32 → aH → aO} (K130 : ∀ (l0 : Nat) (l1 : Int32) (l2 : Int32) (l3 : Int32) (l4 : Int32) (l5 : Int32) (l6 : Int32) (l7 : Int32) (h : aH), k130 l0 l1 l2 l3 l4 l5 l6 l7 h = some (r, h') → Ev p l e { frames := 5, cells := mc, slots := ms, locals := 123 } s m args below meth c D B0 X ws0 r h' mc ms 11 mc ms 130 [some (.ref l0), some (.int l1), some (.int l2), some (.int l3), some (.int l4), some (.int l5), some (.int l6), some (.int l7), none, none, none] [] h) (K168 : ∀ (l0 : Nat) (l1 : Int32) (l2 : Int32) (l3 : Int32) (l4 : Int32) (l5 : Int32) (l6 : Int32) (l7 : Int32) (l8 : Int32) (h : aH), k168 l0 l1 l2 l3 l4 l5 l6 l7 l8 h = some (r, h') → Ev p l e { frames := 5, cells := mc, slots := ms, locals := 123 } s m args below meth c D B0 X ws0 r h' mc ms 11 mc ms 168 [some (.ref l0), some (.int l1), some (.int l2), some (.int l3), some (.int l4), some (.int l5), some (.int l6), some (.int l7), some (.int l8), none, none] [] h) : ∀ (n : Nat) {l0 : Nat} {l1 : Int32} {l2 : Int32} {l3 : Int32} {l4 : Int32} {l5 : Int32} {l6 : Int32} {l7 : Int32} {l8 : Int32} {l9 : Int32} {h : aH} (hs : s_X14_goes_180 k130 k168 n l0 l1 l2 l3 l4 l5 l6 l7 l8 l9 h = some (r, h')), Ev p l e { frames := 5, cells := mc, slots := ms, locals := 123 } s m args below meth c D B0 X ws0 r h' mc ms 11 mc ms 180 [some (.ref l0), some (.int l1), some (.int l2), some (.int l3), some (.int l4), some (.int l5), some (.int l6), some (.int l7), some (.int l8), some (.int l9), none] [] h
  | 0, _, _, _, _, _, _, _, _, _, _, _, hs => nomatch hs
  | n + 1, _, _, _, _, _, _, _, _, _, _, _, hs => t_X14_goes_180_b C K130 K168 (k180 := s_X14_goes_180 k130 k168 n) (fun _ _ _ _ _ _ _ _ _ _ _ hs => t_X14_goes_180 C K130 K168 n hs) hs
theorem t_X14_goes_168_b (C : Cx p l s m args meth c B0 X RX14 "goes" cX14_goes 11 (some .boolean) []) {k130 : Nat → Int32 → Int32 → Int32 → Int32 → Int32 → Int32 → Int32 → aH → aO} (K130 : ∀ (l0 : Nat) (l1 : Int32) (l2 : Int32) (l3 : Int32) (l4 : Int32) (l5 : Int32) (l6 : Int32) (l7 : Int32) (h : aH), k130 l0 l1 l2 l3 l4 l5 l6 l7 h = some (r, h') → Ev p l e { frames := 5, cells := mc, slots := ms, locals := 123 } s m args below meth c D B0 X ws0 r h' mc ms 11 mc ms 130 [some (.ref l0), some (.int l1), some (.int l2), some (.int l3), some (.int l4), some (.int l5), some (.int l6), some (.int l7), none, none, none] [] h) {k168 : Nat → Int32 → Int32 → Int32 → Int32 → Int32 → Int32 → Int32 → Int32 → aH → aO} (K168 : ∀ (l0 : Nat) (l1 : Int32) (l2 : Int32) (l3 : Int32) (l4 : Int32) (l5 : Int32) (l6 : Int32) (l7 : Int32) (l8 : Int32) (h : aH), k168 l0 l1 l2 l3 l4 l5 l6 l7 l8 h = some (r, h') → Ev p l e { frames := 5, cells := mc, slots := ms, locals := 123 } s m args below meth c D B0 X ws0 r h' mc ms 11 mc ms 168 [some (.ref l0), some (.int l1), some (.int l2), some (.int l3), some (.int l4), some (.int l5), some (.int l6), some (.int l7), some (.int l8), none, none] [] h) {l0 : Nat} {l1 : Int32} {l2 : Int32} {l3 : Int32} {l4 : Int32} {l5 : Int32} {l6 : Int32} {l7 : Int32} {l8 : Int32} {h : aH} (hs : s_X14_goes_168_b k130 k168 l0 l1 l2 l3 l4 l5 l6 l7 l8 h = some (r, h')) : Ev p l e { frames := 5, cells := mc, slots := ms, locals := 123 } s m args below meth c D B0 X ws0 r h' mc ms 11 mc ms 168 [some (.ref l0), some (.int l1), some (.int l2), some (.int l3), some (.int l4), some (.int l5), some (.int l6), some (.int l7), some (.int l8), none, none] [] h := by
  unfold s_X14_goes_168_b at hs
  refine ev_iload C rfl dX14_goes_168 ?_
  refine ev_aload_n C (x := .ref l0) rfl trivial dX14_goes_170 ?_
  obtain ⟨x171, e171, hs⟩ := aB hs
  refine ev_get C (ci := 14) (k := 20) rfl wu_14 (by decide) wf_X14_379 (gI_F e171) dX14_goes_171 ?_
  refine ev_icmp_ge C (tgt := 284) (by decide) dX14_goes_174 (fun q174 => ?_) (fun q174 => ?_)
  · replace hs := (if_pos q174).symm.trans hs
    refine ev_iconst C (v := 0) dX14_goes_284 (by decide) ?_
    refine ev_istore C (by decide) dX14_goes_285 ?_
    exact (t_X14_goes_287 C K130 FU hs)
  · replace hs := (if_neg q174).symm.trans hs
    refine ev_iconst C (v := 0) dX14_goes_177 (by decide) ?_
    refine ev_istore C (by decide) dX14_goes_178 ?_
    exact (t_X14_goes_180 C K130 K168 FU hs)
theorem t_X14_goes_168 (C : Cx p l s m args meth c B0 X RX14 "goes" cX14_goes 11 (some .boolean) []) {k130 : Nat → Int32 → Int32 → Int32 → Int32 → Int32 → Int32 → Int32 → aH → aO} (K130 : ∀ (l0 : Nat) (l1 : Int32) (l2 : Int32) (l3 : Int32) (l4 : Int32) (l5 : Int32) (l6 : Int32) (l7 : Int32) (h : aH), k130 l0 l1 l2 l3 l4 l5 l6 l7 h = some (r, h') → Ev p l e { frames := 5, cells := mc, slots := ms, locals := 123 } s m args below meth c D B0 X ws0 r h' mc ms 11 mc ms 130 [some (.ref l0), some (.int l1), some (.int l2), some (.int l3), some (.int l4), some (.int l5), some (.int l6), some (.int l7), none, none, none] [] h) : ∀ (n : Nat) {l0 : Nat} {l1 : Int32} {l2 : Int32} {l3 : Int32} {l4 : Int32} {l5 : Int32} {l6 : Int32} {l7 : Int32} {l8 : Int32} {h : aH} (hs : s_X14_goes_168 k130 n l0 l1 l2 l3 l4 l5 l6 l7 l8 h = some (r, h')), Ev p l e { frames := 5, cells := mc, slots := ms, locals := 123 } s m args below meth c D B0 X ws0 r h' mc ms 11 mc ms 168 [some (.ref l0), some (.int l1), some (.int l2), some (.int l3), some (.int l4), some (.int l5), some (.int l6), some (.int l7), some (.int l8), none, none] [] h
  | 0, _, _, _, _, _, _, _, _, _, _, hs => nomatch hs
  | n + 1, _, _, _, _, _, _, _, _, _, _, hs => t_X14_goes_168_b C K130 (k168 := s_X14_goes_168 k130 n) (fun _ _ _ _ _ _ _ _ _ _ hs => t_X14_goes_168 C K130 n hs) hs
theorem t_X14_goes_142_b (C : Cx p l s m args meth c B0 X RX14 "goes" cX14_goes 11 (some .boolean) []) {k130 : Nat → Int32 → Int32 → Int32 → Int32 → Int32 → Int32 → Int32 → aH → aO} (K130 : ∀ (l0 : Nat) (l1 : Int32) (l2 : Int32) (l3 : Int32) (l4 : Int32) (l5 : Int32) (l6 : Int32) (l7 : Int32) (h : aH), k130 l0 l1 l2 l3 l4 l5 l6 l7 h = some (r, h') → Ev p l e { frames := 5, cells := mc, slots := ms, locals := 123 } s m args below meth c D B0 X ws0 r h' mc ms 11 mc ms 130 [some (.ref l0), some (.int l1), some (.int l2), some (.int l3), some (.int l4), some (.int l5), some (.int l6), some (.int l7), none, none, none] [] h) {k142 : Nat → Int32 → Int32 → Int32 → Int32 → Int32 → Int32 → Int32 → Int32 → aH → aO} (K142 : ∀ (l0 : Nat) (l1 : Int32) (l2 : Int32) (l3 : Int32) (l4 : Int32) (l5 : Int32) (l6 : Int32) (l7 : Int32) (l8 : Int32) (h : aH), k142 l0 l1 l2 l3 l4 l5 l6 l7 l8 h = some (r, h') → Ev p l e { frames := 5, cells := mc, slots := ms, locals := 123 } s m args below meth c D B0 X ws0 r h' mc ms 11 mc ms 142 [some (.ref l0), some (.int l1), some (.int l2), some (.int l3), some (.int l4), some (.int l5), some (.int l6), some (.int l7), some (.int l8), none, none] [] h) {l0 : Nat} {l1 : Int32} {l2 : Int32} {l3 : Int32} {l4 : Int32} {l5 : Int32} {l6 : Int32} {l7 : Int32} {l8 : Int32} {h : aH} (hs : s_X14_goes_142_b k130 k142 l0 l1 l2 l3 l4 l5 l6 l7 l8 h = some (r, h')) : Ev p l e { frames := 5, cells := mc, slots := ms, locals := 123 } s m args below meth c D B0 X ws0 r h' mc ms 11 mc ms 142 [some (.ref l0), some (.int l1), some (.int l2), some (.int l3), some (.int l4), some (.int l5), some (.int l6), some (.int l7), some (.int l8), none, none] [] h := by
  unfold s_X14_goes_142_b at hs
  refine ev_iload C rfl dX14_goes_142 ?_
  refine ev_aload_n C (x := .ref l0) rfl trivial dX14_goes_144 ?_
  obtain ⟨x145, e145, hs⟩ := aB hs
  refine ev_get C (ci := 14) (k := 20) rfl wu_14 (by decide) wf_X14_379 (gI_F e145) dX14_goes_145 ?_
  refine ev_icmp_ge C (tgt := 165) (by decide) dX14_goes_148 (fun q148 => ?_) (fun q148 => ?_)
  · replace hs := (if_pos q148).symm.trans hs
    refine ev_iconst C (v := 0) dX14_goes_165 (by decide) ?_
    refine ev_istore C (by decide) dX14_goes_166 ?_
    exact (t_X14_goes_168 C K130 FU hs)
  · replace hs := (if_neg q148).symm.trans hs
    refine ev_aload_n C (x := .ref l0) rfl trivial dX14_goes_151 ?_
    obtain ⟨x152, e152, hs⟩ := aB hs
    refine ev_get C (ci := 14) (k := 64) rfl wu_14 (by decide) wf_X14_142 (gO_F e152) dX14_goes_152 ?_
    refine ev_iload C rfl dX14_goes_155 ?_
    refine ev_iconst C (v := 0) dX14_goes_157 (by decide) ?_
    obtain ⟨h158, e158, hs⟩ := aB hs
    refine ev_zast C e158 dX14_goes_158 ?_
    refine ev_iinc C (i := 8) (n := 1) (x := l8) (v := l8 + 1) rfl (congrArg (fun z => l8 + z) (show Int32.ofInt 1 = 1 by decide)) (by decide) dX14_goes_159 ?_
    refine ev_goto C (tgt := 142) (by decide) dX14_goes_162 ?_
    exact (K142 _ _ _ _ _ _ _ _ _ _ hs)
theorem t_X14_goes_142 (C : Cx p l s m args meth c B0 X RX14 "goes" cX14_goes 11 (some .boolean) []) {k130 : Nat → Int32 → Int32 → Int32 → Int32 → Int32 → Int32 → Int32 → aH → aO} (K130 : ∀ (l0 : Nat) (l1 : Int32) (l2 : Int32) (l3 : Int32) (l4 : Int32) (l5 : Int32) (l6 : Int32) (l7 : Int32) (h : aH), k130 l0 l1 l2 l3 l4 l5 l6 l7 h = some (r, h') → Ev p l e { frames := 5, cells := mc, slots := ms, locals := 123 } s m args below meth c D B0 X ws0 r h' mc ms 11 mc ms 130 [some (.ref l0), some (.int l1), some (.int l2), some (.int l3), some (.int l4), some (.int l5), some (.int l6), some (.int l7), none, none, none] [] h) : ∀ (n : Nat) {l0 : Nat} {l1 : Int32} {l2 : Int32} {l3 : Int32} {l4 : Int32} {l5 : Int32} {l6 : Int32} {l7 : Int32} {l8 : Int32} {h : aH} (hs : s_X14_goes_142 k130 n l0 l1 l2 l3 l4 l5 l6 l7 l8 h = some (r, h')), Ev p l e { frames := 5, cells := mc, slots := ms, locals := 123 } s m args below meth c D B0 X ws0 r h' mc ms 11 mc ms 142 [some (.ref l0), some (.int l1), some (.int l2), some (.int l3), some (.int l4), some (.int l5), some (.int l6), some (.int l7), some (.int l8), none, none] [] h
  | 0, _, _, _, _, _, _, _, _, _, _, hs => nomatch hs
  | n + 1, _, _, _, _, _, _, _, _, _, _, hs => t_X14_goes_142_b C K130 (k142 := s_X14_goes_142 k130 n) (fun _ _ _ _ _ _ _ _ _ _ hs => t_X14_goes_142 C K130 n hs) hs
theorem t_X14_goes_130_b (C : Cx p l s m args meth c B0 X RX14 "goes" cX14_goes 11 (some .boolean) [])   {k130 : Nat → Int32 → Int32 → Int32 → Int32 → Int32 → Int32 → Int32 → aH → aO} (K130 : ∀ (l0 : Nat) (l1 : Int32) (l2 : Int32) (l3 : Int32) (l4 : Int32) (l5 : Int32) (l6 : Int32) (l7 : Int32) (h : aH), k130 l0 l1 l2 l3 l4 l5 l6 l7 h = some (r, h') → Ev p l e { frames := 5, cells := mc, slots := ms, locals := 123 } s m args below meth c D B0 X ws0 r h' mc ms 11 mc ms 130 [some (.ref l0), some (.int l1), some (.int l2), some (.int l3), some (.int l4), some (.int l5), some (.int l6), some (.int l7), none, none, none] [] h) {l0 : Nat} {l1 : Int32} {l2 : Int32} {l3 : Int32} {l4 : Int32} {l5 : Int32} {l6 : Int32} {l7 : Int32} {h : aH} (hs : s_X14_goes_130_b  k130 l0 l1 l2 l3 l4 l5 l6 l7 h = some (r, h')) : Ev p l e { frames := 5, cells := mc, slots := ms, locals := 123 } s m args below meth c D B0 X ws0 r h' mc ms 11 mc ms 130 [some (.ref l0), some (.int l1), some (.int l2), some (.int l3), some (.int l4), some (.int l5), some (.int l6), some (.int l7), none, none, none] [] h := by
  unfold s_X14_goes_130_b at hs
  refine ev_iload C rfl dX14_goes_130 ?_
  refine ev_iload_n C rfl dX14_goes_132 ?_
  refine ev_icmp_gt C (tgt := 322) (by decide) dX14_goes_133 (fun q133 => ?_) (fun q133 => ?_)
  · replace hs := (if_pos q133).symm.trans hs
    refine ev_iload C rfl dX14_goes_322 ?_
    obtain ⟨hz, rfl, rfl⟩ := rtZ_at hs
    exact ev_zret C rfl hz rfl (Nat.le_refl _) (Nat.le_refl _) rfl dX14_goes_324
  · replace hs := (if_neg q133).symm.trans hs
    refine ev_iconst C (v := 0) dX14_goes_136 (by decide) ?_
    refine ev_istore C (by decide) dX14_goes_137 ?_
    refine ev_iconst C (v := 0) dX14_goes_139 (by decide) ?_
    refine ev_istore C (by decide) dX14_goes_140 ?_
    exact (t_X14_goes_142 C K130 FU hs)
theorem t_X14_goes_130 (C : Cx p l s m args meth c B0 X RX14 "goes" cX14_goes 11 (some .boolean) [])   : ∀ (n : Nat) {l0 : Nat} {l1 : Int32} {l2 : Int32} {l3 : Int32} {l4 : Int32} {l5 : Int32} {l6 : Int32} {l7 : Int32} {h : aH} (hs : s_X14_goes_130  n l0 l1 l2 l3 l4 l5 l6 l7 h = some (r, h')), Ev p l e { frames := 5, cells := mc, slots := ms, locals := 123 } s m args below meth c D B0 X ws0 r h' mc ms 11 mc ms 130 [some (.ref l0), some (.int l1), some (.int l2), some (.int l3), some (.int l4), some (.int l5), some (.int l6), some (.int l7), none, none, none] [] h
  | 0, _, _, _, _, _, _, _, _, _, hs => nomatch hs
  | n + 1, _, _, _, _, _, _, _, _, _, hs => t_X14_goes_130_b C  (k130 := s_X14_goes_130  n) (fun _ _ _ _ _ _ _ _ _ hs => t_X14_goes_130 C  n hs) hs
theorem t_X14_goes_119 (C : Cx p l s m args meth c B0 X RX14 "goes" cX14_goes 11 (some .boolean) []) {k17 : Nat → Int32 → Int32 → Int32 → Int32 → Int32 → Int32 → Int32 → aH → aO} (K17 : ∀ (l0 : Nat) (l1 : Int32) (l2 : Int32) (l3 : Int32) (l4 : Int32) (l5 : Int32) (l6 : Int32) (l7 : Int32) (h : aH), k17 l0 l1 l2 l3 l4 l5 l6 l7 h = some (r, h') → Ev p l e { frames := 5, cells := mc, slots := ms, locals := 123 } s m args below meth c D B0 X ws0 r h' mc ms 11 mc ms 17 [some (.ref l0), some (.int l1), some (.int l2), some (.int l3), some (.int l4), some (.int l5), some (.int l6), some (.int l7), none, none, none] [] h) {l0 : Nat} {l1 : Int32} {l2 : Int32} {l3 : Int32} {l4 : Int32} {l6 : Int32} {l7 : Int32} {s0 : Int32} {h : aH} (hs : s_X14_goes_119 k17 l0 l1 l2 l3 l4 l6 l7 s0 h = some (r, h')) : Ev p l e { frames := 5, cells := mc, slots := ms, locals := 123 } s m args below meth c D B0 X ws0 r h' mc ms 11 mc ms 119 [some (.ref l0), some (.int l1), some (.int l2), some (.int l3), some (.int l4), none, some (.int l6), some (.int l7), none, none, none] [.int s0] h := by
  unfold s_X14_goes_119 at hs
  refine ev_istore C (by decide) dX14_goes_119 ?_
  refine ev_iinc C (i := 7) (n := 1) (x := l7) (v := l7 + 1) rfl (congrArg (fun z => l7 + z) (show Int32.ofInt 1 = 1 by decide)) (by decide) dX14_goes_121 ?_
  refine ev_goto C (tgt := 17) (by decide) dX14_goes_124 ?_
  exact (K17 _ _ _ _ _ _ _ _ _ hs)
theorem t_X14_goes_114 (C : Cx p l s m args meth c B0 X RX14 "goes" cX14_goes 11 (some .boolean) []) {k17 : Nat → Int32 → Int32 → Int32 → Int32 → Int32 → Int32 → Int32 → aH → aO} (K17 : ∀ (l0 : Nat) (l1 : Int32) (l2 : Int32) (l3 : Int32) (l4 : Int32) (l5 : Int32) (l6 : Int32) (l7 : Int32) (h : aH), k17 l0 l1 l2 l3 l4 l5 l6 l7 h = some (r, h') → Ev p l e { frames := 5, cells := mc, slots := ms, locals := 123 } s m args below meth c D B0 X ws0 r h' mc ms 11 mc ms 17 [some (.ref l0), some (.int l1), some (.int l2), some (.int l3), some (.int l4), some (.int l5), some (.int l6), some (.int l7), none, none, none] [] h) {l0 : Nat} {l1 : Int32} {l2 : Int32} {l3 : Int32} {l4 : Int32} {l6 : Int32} {l7 : Int32} {h : aH} (hs : s_X14_goes_114 k17 l0 l1 l2 l3 l4 l6 l7 h = some (r, h')) : Ev p l e { frames := 5, cells := mc, slots := ms, locals := 123 } s m args below meth c D B0 X ws0 r h' mc ms 11 mc ms 114 [some (.ref l0), some (.int l1), some (.int l2), some (.int l3), some (.int l4), none, some (.int l6), some (.int l7), none, none, none] [] h := by
  unfold s_X14_goes_114 at hs
  refine ev_iconst C (v := 1) dX14_goes_114 (by decide) ?_
  refine ev_goto C (tgt := 119) (by decide) dX14_goes_115 ?_
  exact (t_X14_goes_119 C K17 hs)
theorem t_X14_goes_98 (C : Cx p l s m args meth c B0 X RX14 "goes" cX14_goes 11 (some .boolean) []) {k17 : Nat → Int32 → Int32 → Int32 → Int32 → Int32 → Int32 → Int32 → aH → aO} (K17 : ∀ (l0 : Nat) (l1 : Int32) (l2 : Int32) (l3 : Int32) (l4 : Int32) (l5 : Int32) (l6 : Int32) (l7 : Int32) (h : aH), k17 l0 l1 l2 l3 l4 l5 l6 l7 h = some (r, h') → Ev p l e { frames := 5, cells := mc, slots := ms, locals := 123 } s m args below meth c D B0 X ws0 r h' mc ms 11 mc ms 17 [some (.ref l0), some (.int l1), some (.int l2), some (.int l3), some (.int l4), some (.int l5), some (.int l6), some (.int l7), none, none, none] [] h) {l0 : Nat} {l1 : Int32} {l2 : Int32} {l3 : Int32} {l4 : Int32} {l5 : Int32} {l6 : Int32} {l7 : Int32} {s0 : Int32} {s1 : Int32} {s2 : Nat} {h : aH} (hs : s_X14_goes_98 k17 l0 l1 l2 l3 l4 l5 l6 l7 s0 s1 s2 h = some (r, h')) : Ev p l e { frames := 5, cells := mc, slots := ms, locals := 123 } s m args below meth c D B0 X ws0 r h' mc ms 11 mc ms 98 [some (.ref l0), some (.int l1), some (.int l2), some (.int l3), some (.int l4), some (.int l5), some (.int l6), some (.int l7), none, none, none] [.int s0, .int s1, .ref s2] h := by
  unfold s_X14_goes_98 at hs
  obtain ⟨h98, e98, hs⟩ := aB hs
  refine ev_zast C e98 dX14_goes_98 ?_
  refine ev_iload C rfl dX14_goes_99 ?_
  refine ev_if_ne C (tgt := 114) (by decide) dX14_goes_101 (fun q101 => ?_) (fun q101 => ?_)
  · replace hs := (if_neg q101).symm.trans hs
    exact Ev.keep [true, true, true, true, true, false, true, true, true, true, true] (t_X14_goes_114 C K17 hs)
  · replace hs := (if_pos q101).symm.trans hs
    refine ev_aload_n C (x := .ref l0) rfl trivial dX14_goes_104 ?_
    obtain ⟨x105, e105, hs⟩ := aB hs
    refine ev_get C (ci := 14) (k := 63) rfl wu_14 (by decide) wf_X14_139 (gO_F e105) dX14_goes_105 ?_
    refine ev_iload C rfl dX14_goes_108 ?_
    obtain ⟨x110, e110, hs⟩ := aB hs
    refine ev_zald C e110 dX14_goes_110 ?_
    refine ev_if_eq C (tgt := 118) (by decide) dX14_goes_111 (fun q111 => ?_) (fun q111 => ?_)
    · replace hs := (if_pos q111).symm.trans hs
      refine ev_iconst C (v := 0) dX14_goes_118 (by decide) ?_
      exact Ev.keep [true, true, true, true, true, false, true, true, true, true, true] (t_X14_goes_119 C K17 hs)
    · replace hs := (if_neg q111).symm.trans hs
      exact Ev.keep [true, true, true, true, true, false, true, true, true, true, true] (t_X14_goes_114 C K17 hs)
theorem t_X14_goes_97 (C : Cx p l s m args meth c B0 X RX14 "goes" cX14_goes 11 (some .boolean) []) {k17 : Nat → Int32 → Int32 → Int32 → Int32 → Int32 → Int32 → Int32 → aH → aO} (K17 : ∀ (l0 : Nat) (l1 : Int32) (l2 : Int32) (l3 : Int32) (l4 : Int32) (l5 : Int32) (l6 : Int32) (l7 : Int32) (h : aH), k17 l0 l1 l2 l3 l4 l5 l6 l7 h = some (r, h') → Ev p l e { frames := 5, cells := mc, slots := ms, locals := 123 } s m args below meth c D B0 X ws0 r h' mc ms 11 mc ms 17 [some (.ref l0), some (.int l1), some (.int l2), some (.int l3), some (.int l4), some (.int l5), some (.int l6), some (.int l7), none, none, none] [] h) {l0 : Nat} {l1 : Int32} {l2 : Int32} {l3 : Int32} {l4 : Int32} {l5 : Int32} {l6 : Int32} {l7 : Int32} {s0 : Int32} {s1 : Nat} {h : aH} (hs : s_X14_goes_97 k17 l0 l1 l2 l3 l4 l5 l6 l7 s0 s1 h = some (r, h')) : Ev p l e { frames := 5, cells := mc, slots := ms, locals := 123 } s m args below meth c D B0 X ws0 r h' mc ms 11 mc ms 97 [some (.ref l0), some (.int l1), some (.int l2), some (.int l3), some (.int l4), some (.int l5), some (.int l6), some (.int l7), none, none, none] [.int s0, .ref s1] h := by
  unfold s_X14_goes_97 at hs
  refine ev_iconst C (v := 0) dX14_goes_97 (by decide) ?_
  exact (t_X14_goes_98 C K17 hs)
theorem t_X14_goes_38_b (C : Cx p l s m args meth c B0 X RX14 "goes" cX14_goes 11 (some .boolean) []) {k17 : Nat → Int32 → Int32 → Int32 → Int32 → Int32 → Int32 → Int32 → aH → aO} (K17 : ∀ (l0 : Nat) (l1 : Int32) (l2 : Int32) (l3 : Int32) (l4 : Int32) (l5 : Int32) (l6 : Int32) (l7 : Int32) (h : aH), k17 l0 l1 l2 l3 l4 l5 l6 l7 h = some (r, h') → Ev p l e { frames := 5, cells := mc, slots := ms, locals := 123 } s m args below meth c D B0 X ws0 r h' mc ms 11 mc ms 17 [some (.ref l0), some (.int l1), some (.int l2), some (.int l3), some (.int l4), some (.int l5), some (.int l6), some (.int l7), none, none, none] [] h) {k38 : Nat → Int32 → Int32 → Int32 → Int32 → Int32 → Int32 → Int32 → Int32 → aH → aO} (K38 : ∀ (l0 : Nat) (l1 : Int32) (l2 : Int32) (l3 : Int32) (l4 : Int32) (l5 : Int32) (l6 : Int32) (l7 : Int32) (l8 : Int32) (h : aH), k38 l0 l1 l2 l3 l4 l5 l6 l7 l8 h = some (r, h') → Ev p l e { frames := 5, cells := mc, slots := ms, locals := 123 } s m args below meth c D B0 X ws0 r h' mc ms 11 mc ms 38 [some (.ref l0), some (.int l1), some (.int l2), some (.int l3), some (.int l4), some (.int l5), some (.int l6), some (.int l7), some (.int l8), none, none] [] h) {l0 : Nat} {l1 : Int32} {l2 : Int32} {l3 : Int32} {l4 : Int32} {l5 : Int32} {l6 : Int32} {l7 : Int32} {l8 : Int32} {h : aH} (hs : s_X14_goes_38_b k17 k38 l0 l1 l2 l3 l4 l5 l6 l7 l8 h = some (r, h')) : Ev p l e { frames := 5, cells := mc, slots := ms, locals := 123 } s m args below meth c D B0 X ws0 r h' mc ms 11 mc ms 38 [some (.ref l0), some (.int l1), some (.int l2), some (.int l3), some (.int l4), some (.int l5), some (.int l6), some (.int l7), some (.int l8), none, none] [] h := by
  unfold s_X14_goes_38_b at hs
  refine ev_iload C rfl dX14_goes_38 ?_
  refine ev_iconst C (v := 2) dX14_goes_40 (by decide) ?_
  obtain ⟨x41, h41, e41, hs⟩ := cI_at hs
  refine ev_callS C (T_X14_slotOf _ _ _ _ e41) wc_X14_slotOf wm_X14_246 wt_X14_slotOf wz_X14 hy_X14_slotOf ⟨(Nat.le_of_ble_eq_true rfl), (Nat.le_of_ble_eq_true rfl)⟩ ⟨(Nat.le_refl _), (Nat.le_refl _)⟩ (Nat.le_of_ble_eq_true rfl) rfl dX14_goes_41 ?_
  refine ev_icmp_ge C (tgt := 61) (by decide) dX14_goes_44 (fun q44 => ?_) (fun q44 => ?_)
  · replace hs := (if_pos q44).symm.trans hs
    refine ev_aload_n C (x := .ref l0) rfl trivial dX14_goes_61 ?_
    refine ev_iload_n C rfl dX14_goes_62 ?_
    obtain ⟨eo63, hs⟩ := kO_at hs
    obtain ⟨h63, e63, hs⟩ := cN_at hs
    refine ev_callV C (T_X14_worlded _ _ _ _ _ e63) (ci := 14) rfl eo63 wc_X14_worlded wm_X14_462 wi_X14_worlded ws_X14_worlded wz_X14 hy_X14_worlded ⟨(Nat.le_of_ble_eq_true rfl), (Nat.le_of_ble_eq_true rfl)⟩ ⟨(Nat.le_refl _), (Nat.le_refl _)⟩ (Nat.le_of_ble_eq_true rfl) rfl dX14_goes_63 ?_
    refine ev_aload_n C (x := .ref l0) rfl trivial dX14_goes_66 ?_
    obtain ⟨x67, e67, hs⟩ := aB hs
    refine ev_get C (ci := 14) (k := 63) rfl wu_14 (by decide) wf_X14_139 (gO_F e67) dX14_goes_67 ?_
    refine ev_iload C rfl dX14_goes_70 ?_
    refine ev_aload_n C (x := .ref l0) rfl trivial dX14_goes_72 ?_
    obtain ⟨x73, e73, hs⟩ := aB hs
    refine ev_get C (ci := 14) (k := 27) rfl wu_14 (by decide) wf_X14_37 (gO_F e73) dX14_goes_73 ?_
    refine ev_iload C rfl dX14_goes_76 ?_
    obtain ⟨x78, e78, hs⟩ := aB hs
    refine ev_zald C e78 dX14_goes_78 ?_
    refine ev_if_eq C (tgt := 97) (by decide) dX14_goes_79 (fun q79 => ?_) (fun q79 => ?_)
    · replace hs := (if_pos q79).symm.trans hs
      exact Ev.keep [true, true, true, true, true, true, true, true, false, true, true] (t_X14_goes_97 C K17 hs)
    · replace hs := (if_neg q79).symm.trans hs
      refine ev_aload_n C (x := .ref l0) rfl trivial dX14_goes_82 ?_
      refine ev_iconst C (v := 0) dX14_goes_83 (by decide) ?_
      refine ev_iload_n C rfl dX14_goes_84 ?_
      refine ev_iload C rfl dX14_goes_85 ?_
      obtain ⟨eo87, hs⟩ := kO_at hs
      obtain ⟨x87, h87, e87, hs⟩ := cI_at hs
      refine ev_callV C (T_X14_fitsHere _ _ _ _ _ _ _ e87) (ci := 14) rfl eo87 wc_X14_fitsHere wm_X14_610 wi_X14_fitsHere ws_X14_fitsHere wz_X14 hy_X14_fitsHere ⟨(Nat.le_of_ble_eq_true rfl), (Nat.le_of_ble_eq_true rfl)⟩ ⟨(Nat.le_refl _), (Nat.le_refl _)⟩ (Nat.le_of_ble_eq_true rfl) rfl dX14_goes_87 ?_
      refine ev_if_eq C (tgt := 97) (by decide) dX14_goes_90 (fun q90 => ?_) (fun q90 => ?_)
      · replace hs := (if_pos q90).symm.trans hs
        exact Ev.keep [true, true, true, true, true, true, true, true, false, true, true] (t_X14_goes_97 C K17 hs)
      · replace hs := (if_neg q90).symm.trans hs
        refine ev_iconst C (v := 1) dX14_goes_93 (by decide) ?_
        refine ev_goto C (tgt := 98) (by decide) dX14_goes_94 ?_
        exact Ev.keep [true, true, true, true, true, true, true, true, false, true, true] (t_X14_goes_98 C K17 hs)
  · replace hs := (if_neg q44).symm.trans hs
    refine ev_aload_n C (x := .ref l0) rfl trivial dX14_goes_47 ?_
    obtain ⟨x48, e48, hs⟩ := aB hs
    refine ev_get C (ci := 14) (k := 29) rfl wu_14 (by decide) wf_X14_44 (gO_F e48) dX14_goes_48 ?_
    refine ev_iload C rfl dX14_goes_51 ?_
    refine ev_iconst C (v := 0) dX14_goes_53 (by decide) ?_
    obtain ⟨h54, e54, hs⟩ := aB hs
    refine ev_iast C e54 dX14_goes_54 ?_
    refine ev_iinc C (i := 8) (n := 1) (x := l8) (v := l8 + 1) rfl (congrArg (fun z => l8 + z) (show Int32.ofInt 1 = 1 by decide)) (by decide) dX14_goes_55 ?_
    refine ev_goto C (tgt := 38) (by decide) dX14_goes_58 ?_
    exact (K38 _ _ _ _ _ _ _ _ _ _ hs)
theorem t_X14_goes_38 (C : Cx p l s m args meth c B0 X RX14 "goes" cX14_goes 11 (some .boolean) []) {k17 : Nat → Int32 → Int32 → Int32 → Int32 → Int32 → Int32 → Int32 → aH → aO} (K17 : ∀ (l0 : Nat) (l1 : Int32) (l2 : Int32) (l3 : Int32) (l4 : Int32) (l5 : Int32) (l6 : Int32) (l7 : Int32) (h : aH), k17 l0 l1 l2 l3 l4 l5 l6 l7 h = some (r, h') → Ev p l e { frames := 5, cells := mc, slots := ms, locals := 123 } s m args below meth c D B0 X ws0 r h' mc ms 11 mc ms 17 [some (.ref l0), some (.int l1), some (.int l2), some (.int l3), some (.int l4), some (.int l5), some (.int l6), some (.int l7), none, none, none] [] h) : ∀ (n : Nat) {l0 : Nat} {l1 : Int32} {l2 : Int32} {l3 : Int32} {l4 : Int32} {l5 : Int32} {l6 : Int32} {l7 : Int32} {l8 : Int32} {h : aH} (hs : s_X14_goes_38 k17 n l0 l1 l2 l3 l4 l5 l6 l7 l8 h = some (r, h')), Ev p l e { frames := 5, cells := mc, slots := ms, locals := 123 } s m args below meth c D B0 X ws0 r h' mc ms 11 mc ms 38 [some (.ref l0), some (.int l1), some (.int l2), some (.int l3), some (.int l4), some (.int l5), some (.int l6), some (.int l7), some (.int l8), none, none] [] h
  | 0, _, _, _, _, _, _, _, _, _, _, hs => nomatch hs
  | n + 1, _, _, _, _, _, _, _, _, _, _, hs => t_X14_goes_38_b C K17 (k38 := s_X14_goes_38 k17 n) (fun _ _ _ _ _ _ _ _ _ _ hs => t_X14_goes_38 C K17 n hs) hs
theorem t_X14_goes_17_b (C : Cx p l s m args meth c B0 X RX14 "goes" cX14_goes 11 (some .boolean) [])   {k17 : Nat → Int32 → Int32 → Int32 → Int32 → Int32 → Int32 → Int32 → aH → aO} (K17 : ∀ (l0 : Nat) (l1 : Int32) (l2 : Int32) (l3 : Int32) (l4 : Int32) (l5 : Int32) (l6 : Int32) (l7 : Int32) (h : aH), k17 l0 l1 l2 l3 l4 l5 l6 l7 h = some (r, h') → Ev p l e { frames := 5, cells := mc, slots := ms, locals := 123 } s m args below meth c D B0 X ws0 r h' mc ms 11 mc ms 17 [some (.ref l0), some (.int l1), some (.int l2), some (.int l3), some (.int l4), some (.int l5), some (.int l6), some (.int l7), none, none, none] [] h) {l0 : Nat} {l1 : Int32} {l2 : Int32} {l3 : Int32} {l4 : Int32} {l5 : Int32} {l6 : Int32} {l7 : Int32} {h : aH} (hs : s_X14_goes_17_b  k17 l0 l1 l2 l3 l4 l5 l6 l7 h = some (r, h')) : Ev p l e { frames := 5, cells := mc, slots := ms, locals := 123 } s m args below meth c D B0 X ws0 r h' mc ms 11 mc ms 17 [some (.ref l0), some (.int l1), some (.int l2), some (.int l3), some (.int l4), some (.int l5), some (.int l6), some (.int l7), none, none, none] [] h := by
  unfold s_X14_goes_17_b at hs
  refine ev_iload C rfl dX14_goes_17 ?_
  refine ev_aload_n C (x := .ref l0) rfl trivial dX14_goes_19 ?_
  obtain ⟨x20, e20, hs⟩ := aB hs
  refine ev_get C (ci := 14) (k := 20) rfl wu_14 (by decide) wf_X14_379 (gI_F e20) dX14_goes_20 ?_
  refine ev_icmp_ge C (tgt := 127) (by decide) dX14_goes_23 (fun q23 => ?_) (fun q23 => ?_)
  · replace hs := (if_pos q23).symm.trans hs
    refine ev_iconst C (v := 1) dX14_goes_127 (by decide) ?_
    refine ev_istore C (by decide) dX14_goes_128 ?_
    exact (t_X14_goes_130 C  FU hs)
  · replace hs := (if_neg q23).symm.trans hs
    refine ev_aload_n C (x := .ref l0) rfl trivial dX14_goes_26 ?_
    refine ev_iload C rfl dX14_goes_27 ?_
    obtain ⟨eo29, hs⟩ := kO_at hs
    obtain ⟨h29, e29, hs⟩ := cN_at hs
    refine ev_callV C (T_X14_lays _ _ _ _ _ e29) (ci := 14) rfl eo29 wc_X14_lays wm_X14_416 wi_X14_lays ws_X14_lays wz_X14 hy_X14_lays ⟨(Nat.le_of_ble_eq_true rfl), (Nat.le_of_ble_eq_true rfl)⟩ ⟨(Nat.le_refl _), (Nat.le_refl _)⟩ (Nat.le_of_ble_eq_true rfl) rfl dX14_goes_29 ?_
    refine ev_iconst C (v := 1) dX14_goes_32 (by decide) ?_
    obtain ⟨x33, h33, e33, hs⟩ := cI_at hs
    refine ev_callS C (T_X14_slotOf _ _ _ _ e33) wc_X14_slotOf wm_X14_246 wt_X14_slotOf wz_X14 hy_X14_slotOf ⟨(Nat.le_of_ble_eq_true rfl), (Nat.le_of_ble_eq_true rfl)⟩ ⟨(Nat.le_refl _), (Nat.le_refl _)⟩ (Nat.le_of_ble_eq_true rfl) rfl dX14_goes_33 ?_
    refine ev_istore C (by decide) dX14_goes_36 ?_
    exact (t_X14_goes_38 C K17 FU hs)
theorem t_X14_goes_17 (C : Cx p l s m args meth c B0 X RX14 "goes" cX14_goes 11 (some .boolean) [])   : ∀ (n : Nat) {l0 : Nat} {l1 : Int32} {l2 : Int32} {l3 : Int32} {l4 : Int32} {l5 : Int32} {l6 : Int32} {l7 : Int32} {h : aH} (hs : s_X14_goes_17  n l0 l1 l2 l3 l4 l5 l6 l7 h = some (r, h')), Ev p l e { frames := 5, cells := mc, slots := ms, locals := 123 } s m args below meth c D B0 X ws0 r h' mc ms 11 mc ms 17 [some (.ref l0), some (.int l1), some (.int l2), some (.int l3), some (.int l4), some (.int l5), some (.int l6), some (.int l7), none, none, none] [] h
  | 0, _, _, _, _, _, _, _, _, _, hs => nomatch hs
  | n + 1, _, _, _, _, _, _, _, _, _, hs => t_X14_goes_17_b C  (k17 := s_X14_goes_17  n) (fun _ _ _ _ _ _ _ _ _ hs => t_X14_goes_17 C  n hs) hs
theorem hy_X14_goes : yX14_goes.cls ≠ "java/lang/invoke/MethodHandle" ∧ yX14_goes.cls ≠ "java/lang/invoke/VarHandle" ∧ (parseMethodDescriptor yX14_goes.desc).map (fun d => d.parameters.length) = some 4 := by decide +kernel
theorem T_X14_goes (o : Nat) (a1 : Int32) (a2 : Int32) (a3 : Int32) (a4 : Int32) (h : aH) (r : aR) (h' : aH) (hs : s_X14_goes o a1 a2 a3 a4 h = some (r, h')) : Mt yX14_goes (Cond.code yX14_goes cX14_goes 11 (some .boolean) :: aTB) 5 123 0 0 [.ref o, .int a1, .int a2, .int a3, .int a4] h r h' := by
  unfold s_X14_goes at hs
  refine Mt_of (k := 6) (by decide) rfl (fun p l e s m args below meth c D B0 X ws0 C => ?_)
  show Ev p l e { frames := 5, cells := 0, slots := 0, locals := 123 } s m args below meth c D B0 X ws0 r h' 0 0 11 0 0 0 [some (.ref o), some (.int a1), some (.int a2), some (.int a3), some (.int a4), none, none, none, none, none, none] [] h
  refine ev_iconst C (v := 0) dX14_goes_0 (by decide) ?_
  refine ev_istore C (by decide) dX14_goes_1 ?_
  refine ev_aload_n C (x := .ref o) rfl trivial dX14_goes_3 ?_
  obtain ⟨x4, e4, hs⟩ := aB hs
  refine ev_get C (ci := 14) (k := 22) rfl wu_14 (by decide) wf_X14_388 (gI_F e4) dX14_goes_4 ?_
  refine ev_aload_n C (x := .ref o) rfl trivial dX14_goes_7 ?_
  obtain ⟨x8, e8, hs⟩ := aB hs
  refine ev_get C (ci := 14) (k := 23) rfl wu_14 (by decide) wf_X14_385 (gI_F e8) dX14_goes_8 ?_
  obtain ⟨n11, hs⟩ := nz_at hs
  refine ev_idiv C n11 dX14_goes_11 ?_
  refine ev_istore C (by decide) dX14_goes_12 ?_
  refine ev_iconst C (v := 0) dX14_goes_14 (by decide) ?_
  refine ev_istore C (by decide) dX14_goes_15 ?_
  exact (t_X14_goes_17 C  FU hs)
end
