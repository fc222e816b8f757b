-- X11_coded
theorem dX11_coded_0 : decode cX11_coded 0 = .ok (.aload_n 0, 1) := by decide +kernel
theorem dX11_coded_1 : decode cX11_coded 1 = .ok (.iload_n 1, 1) := by decide +kernel
theorem dX11_coded_2 : decode cX11_coded 2 = .ok (.invokevirtual 199, 3) := by decide +kernel
theorem dX11_coded_5 : decode cX11_coded 5 = .ok (.ifCond .ne 9, 3) := by decide +kernel
theorem dX11_coded_8 : decode cX11_coded 8 = .ok (.aload_n 0, 1) := by decide +kernel
theorem dX11_coded_9 : decode cX11_coded 9 = .ok (.iconst 1, 1) := by decide +kernel
theorem dX11_coded_10 : decode cX11_coded 10 = .ok (.invokevirtual 105, 3) := by decide +kernel
theorem dX11_coded_13 : decode cX11_coded 13 = .ok (.ireturn, 1) := by decide +kernel
theorem dX11_coded_14 : decode cX11_coded 14 = .ok (.aload_n 0, 1) := by decide +kernel
theorem dX11_coded_15 : decode cX11_coded 15 = .ok (.getfield 19, 3) := by decide +kernel
theorem dX11_coded_18 : decode cX11_coded 18 = .ok (.getfield 173, 3) := by decide +kernel
theorem dX11_coded_21 : decode cX11_coded 21 = .ok (.iconst 1, 1) := by decide +kernel
theorem dX11_coded_22 : decode cX11_coded 22 = .ok (.iaload, 1) := by decide +kernel
theorem dX11_coded_23 : decode cX11_coded 23 = .ok (.iconst 1, 1) := by decide +kernel
theorem dX11_coded_24 : decode cX11_coded 24 = .ok (.if_icmp .eq 9, 3) := by decide +kernel
theorem dX11_coded_27 : decode cX11_coded 27 = .ok (.aload_n 0, 1) := by decide +kernel
theorem dX11_coded_28 : decode cX11_coded 28 = .ok (.iconst 5, 1) := by decide +kernel
theorem dX11_coded_29 : decode cX11_coded 29 = .ok (.invokevirtual 105, 3) := by decide +kernel
theorem dX11_coded_32 : decode cX11_coded 32 = .ok (.ireturn, 1) := by decide +kernel
theorem dX11_coded_33 : decode cX11_coded 33 = .ok (.aload_n 0, 1) := by decide +kernel
theorem dX11_coded_34 : decode cX11_coded 34 = .ok (.iconst 0, 1) := by decide +kernel
theorem dX11_coded_35 : decode cX11_coded 35 = .ok (.putfield 167, 3) := by decide +kernel
theorem dX11_coded_38 : decode cX11_coded 38 = .ok (.aload_n 0, 1) := by decide +kernel
theorem dX11_coded_39 : decode cX11_coded 39 = .ok (.getfield 93, 3) := by decide +kernel
theorem dX11_coded_42 : decode cX11_coded 42 = .ok (.iload_n 1, 1) := by decide +kernel
theorem dX11_coded_43 : decode cX11_coded 43 = .ok (.invokevirtual 359, 3) := by decide +kernel
theorem dX11_coded_46 : decode cX11_coded 46 = .ok (.ireturn, 1) := by decide +kernel
def s_X11_coded (o : Nat) (a1 : Int32) (h : aH) : aO :=
  kO h o 11 (cI (s_X11_hasCell o a1 h) fun x2 h2 => if x2 = 0 then (kO h2 o 11 (cI (s_X11_refused o 1 h2) fun x10 h10 => some (.inl (some (.int x10)), h10))) else ((gO h2 (.ref o) 11 7).bind fun x15 => (gO h2 (.ref x15) 2 0).bind fun x18 => (ldI .int h2 (.ref x18) 1).bind fun x22 => if x22 = 1 then ((pF h2 (.ref o) 11 3 (.int 0)).bind fun h35 => (gO h35 (.ref o) 11 17).bind fun x39 => kO h35 x39 5 (cI (s_X5_codePush x39 a1 h35) fun x43 h43 => some (.inl (some (.int x43)), h43))) else (kO h2 o 11 (cI (s_X11_refused o 5 h2) fun x29 h29 => some (.inl (some (.int x29)), h29)))))
section
variable {p : Program} {l : Launch} {e : Env} {s : State} {m : MethodId} {args : Array Value} {below : List Frame} {meth : Method} {c : Code} {D : va_G} {B0 : Nat} {X : Nat → Nat} {ws0 : va_W} {r : aR} {h' : aH} {mc ms : Nat}
theorem hy_X11_coded : yX11_coded.cls ≠ "java/lang/invoke/MethodHandle" ∧ yX11_coded.cls ≠ "java/lang/invoke/VarHandle" ∧ (parseMethodDescriptor yX11_coded.desc).map (fun d => d.parameters.length) = some 1 := by decide +kernel
theorem T_X11_coded (o : Nat) (a1 : Int32) (h : aH) (r : aR) (h' : aH) (hs : s_X11_coded o a1 h = some (r, h')) : Mt yX11_coded (Cond.code yX11_coded cX11_coded 2 (some .int) :: aTB) 3 73 0 0 [.ref o, .int a1] h r h' := by
  unfold s_X11_coded at hs
  refine Mt_of (k := 0) (by decide) rfl (fun p l e s m args below meth c D B0 X ws0 C => ?_)
  show Ev p l e { frames := 3, cells := 0, slots := 0, locals := 73 } s m args below meth c D B0 X ws0 r h' 0 0 2 0 0 0 [some (.ref o), some (.int a1)] [] h
  refine ev_aload_n C (x := .ref o) rfl trivial dX11_coded_0 ?_
  refine ev_iload_n C rfl dX11_coded_1 ?_
  obtain ⟨eo2, hs⟩ := kO_at hs
  obtain ⟨x2, h2, e2, hs⟩ := cI_at hs
  refine ev_callV C (T_X11_hasCell _ _ _ _ _ e2) (ci := 11) rfl eo2 wc_X11_hasCell wm_X11_199 wi_X11_hasCell ws_X11_hasCell wz_X11 hy_X11_hasCell ⟨(Nat.le_of_ble_eq_true rfl), (Nat.le_of_ble_eq_true rfl)⟩ ⟨(Nat.le_refl _), (Nat.le_refl _)⟩ (Nat.le_of_ble_eq_true rfl) rfl dX11_coded_2 ?_
  refine ev_if_ne C (tgt := 14) (by decide) dX11_coded_5 (fun q5 => ?_) (fun q5 => ?_)
  · replace hs := (if_neg q5).symm.trans hs
    refine ev_aload_n C (x := .ref o) rfl trivial dX11_coded_14 ?_
    obtain ⟨x15, e15, hs⟩ := aB hs
    refine ev_get C (ci := 11) (k := 7) rfl wu_11 (by decide) wf_X11_19 (gO_F e15) dX11_coded_15 ?_
    obtain ⟨x18, e18, hs⟩ := aB hs
    refine ev_getN C (ci := 2) (k := 0) rfl wu_2 (by decide) wg_X11_173 (gO_F e18) dX11_coded_18 ?_
    refine ev_iconst C (v := 1) dX11_coded_21 (by decide) ?_
    obtain ⟨x22, e22, hs⟩ := aB hs
    refine ev_iald C e22 dX11_coded_22 ?_
    refine ev_iconst C (v := 1) dX11_coded_23 (by decide) ?_
    refine ev_icmp_eq C (tgt := 33) (by decide) dX11_coded_24 (fun q24 => ?_) (fun q24 => ?_)
    · replace hs := (if_pos q24).symm.trans hs
      refine ev_aload_n C (x := .ref o) rfl trivial dX11_coded_33 ?_
      refine ev_iconst C (v := 0) dX11_coded_34 (by decide) ?_
      obtain ⟨h35, e35, hs⟩ := aB hs
      refine ev_put C (ci := 11) (k := 3) rfl wu_11 (by decide) tyX11 tyX11_ok nmX11 wf_X11_167 rfl trivial e35 dX11_coded_35 ?_
      refine ev_aload_n C (x := .ref o) rfl trivial dX11_coded_38 ?_
      obtain ⟨x39, e39, hs⟩ := aB hs
      refine ev_get C (ci := 11) (k := 17) rfl wu_11 (by decide) wf_X11_93 (gO_F e39) dX11_coded_39 ?_
      refine ev_iload_n C rfl dX11_coded_42 ?_
      obtain ⟨eo43, hs⟩ := kO_at hs
      obtain ⟨x43, h43, e43, hs⟩ := cI_at hs
      refine ev_callVN C (T_X5_codePush _ _ _ _ _ e43) (ci := 5) rfl eo43 wc_X5_codePush wn_X11_359 wi_X5_codePush ws_X5_codePush wz_X5 hy_X5_codePush ⟨(Nat.le_of_ble_eq_true rfl), (Nat.le_of_ble_eq_true rfl)⟩ ⟨(Nat.le_refl _), (Nat.le_refl _)⟩ (Nat.le_of_ble_eq_true rfl) rfl dX11_coded_43 ?_
      cases hs
      exact ev_iret C rfl rfl (Nat.le_refl _) (Nat.le_refl _) rfl dX11_coded_46
    · replace hs := (if_neg q24).symm.trans hs
      refine ev_aload_n C (x := .ref o) rfl trivial dX11_coded_27 ?_
      refine ev_iconst C (v := 5) dX11_coded_28 (by decide) ?_
      obtain ⟨eo29, hs⟩ := kO_at hs
      obtain ⟨x29, h29, e29, hs⟩ := cI_at hs
      refine ev_callV C (T_X11_refused _ _ _ _ _ e29) (ci := 11) rfl eo29 wc_X11_refused wm_X11_105 wi_X11_refused ws_X11_refused wz_X11 hy_X11_refused ⟨(Nat.le_of_ble_eq_true rfl), (Nat.le_of_ble_eq_true rfl)⟩ ⟨(Nat.le_refl _), (Nat.le_refl _)⟩ (Nat.le_of_ble_eq_true rfl) rfl dX11_coded_29 ?_
      cases hs
      exact ev_iret C rfl rfl (Nat.le_refl _) (Nat.le_refl _) rfl dX11_coded_32
  · replace hs := (if_pos q5).symm.trans hs
    refine ev_aload_n C (x := .ref o) rfl trivial dX11_coded_8 ?_
    refine ev_iconst C (v := 1) dX11_coded_9 (by decide) ?_
    obtain ⟨eo10, hs⟩ := kO_at hs
    obtain ⟨x10, h10, e10, hs⟩ := cI_at hs
    refine ev_callV C (T_X11_refused _ _ _ _ _ e10) (ci := 11) rfl eo10 wc_X11_refused wm_X11_105 wi_X11_refused ws_X11_refused wz_X11 hy_X11_refused ⟨(Nat.le_of_ble_eq_true rfl), (Nat.le_of_ble_eq_true rfl)⟩ ⟨(Nat.le_refl _), (Nat.le_refl _)⟩ (Nat.le_of_ble_eq_true rfl) rfl dX11_coded_10 ?_
    cases hs
    exact ev_iret C rfl rfl (Nat.le_refl _) (Nat.le_refl _) rfl dX11_coded_13
end
-- X11_strays
theorem dX11_strays_0 : decode cX11_strays 0 = .ok (.aload_n 0, 1) := by decide +kernel
theorem dX11_strays_1 : decode cX11_strays 1 = .ok (.getfield 120, 3) := by decide +kernel
theorem dX11_strays_4 : decode cX11_strays 4 = .ok (.ifCond .ne 9, 3) := by decide +kernel
theorem dX11_strays_7 : decode cX11_strays 7 = .ok (.aload_n 0, 1) := by decide +kernel
theorem dX11_strays_8 : decode cX11_strays 8 = .ok (.iconst 1, 1) := by decide +kernel
theorem dX11_strays_9 : decode cX11_strays 9 = .ok (.invokevirtual 105, 3) := by decide +kernel
theorem dX11_strays_12 : decode cX11_strays 12 = .ok (.ireturn, 1) := by decide +kernel
theorem dX11_strays_13 : decode cX11_strays 13 = .ok (.aload_n 0, 1) := by decide +kernel
theorem dX11_strays_14 : decode cX11_strays 14 = .ok (.getfield 19, 3) := by decide +kernel
theorem dX11_strays_17 : decode cX11_strays 17 = .ok (.getfield 173, 3) := by decide +kernel
theorem dX11_strays_20 : decode cX11_strays 20 = .ok (.iconst 1, 1) := by decide +kernel
theorem dX11_strays_21 : decode cX11_strays 21 = .ok (.iaload, 1) := by decide +kernel
theorem dX11_strays_22 : decode cX11_strays 22 = .ok (.iconst 1, 1) := by decide +kernel
theorem dX11_strays_23 : decode cX11_strays 23 = .ok (.if_icmp .eq 9, 3) := by decide +kernel
theorem dX11_strays_26 : decode cX11_strays 26 = .ok (.aload_n 0, 1) := by decide +kernel
theorem dX11_strays_27 : decode cX11_strays 27 = .ok (.iconst 5, 1) := by decide +kernel
theorem dX11_strays_28 : decode cX11_strays 28 = .ok (.invokevirtual 105, 3) := by decide +kernel
theorem dX11_strays_31 : decode cX11_strays 31 = .ok (.ireturn, 1) := by decide +kernel
theorem dX11_strays_32 : decode cX11_strays 32 = .ok (.aload_n 0, 1) := by decide +kernel
theorem dX11_strays_33 : decode cX11_strays 33 = .ok (.iconst 0, 1) := by decide +kernel
theorem dX11_strays_34 : decode cX11_strays 34 = .ok (.putfield 167, 3) := by decide +kernel
theorem dX11_strays_37 : decode cX11_strays 37 = .ok (.aload_n 0, 1) := by decide +kernel
theorem dX11_strays_38 : decode cX11_strays 38 = .ok (.invokevirtual 227, 3) := by decide +kernel
theorem dX11_strays_41 : decode cX11_strays 41 = .ok (.pop, 1) := by decide +kernel
theorem dX11_strays_42 : decode cX11_strays 42 = .ok (.aload_n 0, 1) := by decide +kernel
theorem dX11_strays_43 : decode cX11_strays 43 = .ok (.getfield 93, 3) := by decide +kernel
theorem dX11_strays_46 : decode cX11_strays 46 = .ok (.invokevirtual 362, 3) := by decide +kernel
theorem dX11_strays_49 : decode cX11_strays 49 = .ok (.ireturn, 1) := by decide +kernel
def s_X11_strays (o : Nat) (h : aH) : aP :=
  (gI h (.ref o) 11 2).bind fun x1 => if x1 = 0 then (wC 0 0 (kO h o 11 (cI (s_X11_refused o 1 h) fun x9 h9 => some (.inl (some (.int x9)), h9)))) else ((gO h (.ref o) 11 7).bind fun x14 => (gO h (.ref x14) 2 0).bind fun x17 => (ldI .int h (.ref x17) 1).bind fun x21 => if x21 = 1 then ((pF h (.ref o) 11 3 (.int 0)).bind fun h34 => kO h34 o 11 (dR (s_X11_readySafety o h34) fun x38 h38 n38 y38 => ck (0 + n38) (0 + y38) (wC (0 + n38) (0 + y38) ((gO h38 (.ref o) 11 17).bind fun x43 => kO h38 x43 5 (cI (s_X5_straying x43 h38) fun x46 h46 => some (.inl (some (.int x46)), h46)))))) else (wC 0 0 (kO h o 11 (cI (s_X11_refused o 5 h) fun x28 h28 => some (.inl (some (.int x28)), h28)))))
section
variable {p : Program} {l : Launch} {e : Env} {s : State} {m : MethodId} {args : Array Value} {below : List Frame} {meth : Method} {c : Code} {D : va_G} {B0 : Nat} {X : Nat → Nat} {ws0 : va_W} {r : aR} {h' : aH} {mc ms : Nat}
theorem hy_X11_strays : yX11_strays.cls ≠ "java/lang/invoke/MethodHandle" ∧ yX11_strays.cls ≠ "java/lang/invoke/VarHandle" ∧ (parseMethodDescriptor yX11_strays.desc).map (fun d => d.parameters.length) = some 0 := by decide +kernel
theorem T_X11_strays (o : Nat) (h : aH) (r : aR) (h' : aH) (mc ms : Nat) (hs : s_X11_strays o h = some (r, h', mc, ms)) : Mt yX11_strays (Cond.code yX11_strays cX11_strays 1 (some .int) :: aTB) 7 170 mc ms [.ref o] h r h' := by
  unfold s_X11_strays at hs
  refine Mt_of (k := 0) (by decide) rfl (fun p l e s m args below meth c D B0 X ws0 C => ?_)
  show Ev p l e { frames := 7, cells := mc, slots := ms, locals := 170 } s m args below meth c D B0 X ws0 r h' mc ms 1 0 0 0 [some (.ref o)] [] h
  refine ev_aload_n C (x := .ref o) rfl trivial dX11_strays_0 ?_
  obtain ⟨x1, e1, hs⟩ := aB hs
  refine ev_get C (ci := 11) (k := 2) rfl wu_11 (by decide) wf_X11_120 (gI_F e1) dX11_strays_1 ?_
  refine ev_if_ne C (tgt := 13) (by decide) dX11_strays_4 (fun q4 => ?_) (fun q4 => ?_)
  · replace hs := (if_neg q4).symm.trans hs
    refine ev_aload_n C (x := .ref o) rfl trivial dX11_strays_13 ?_
    obtain ⟨x14, e14, hs⟩ := aB hs
    refine ev_get C (ci := 11) (k := 7) rfl wu_11 (by decide) wf_X11_19 (gO_F e14) dX11_strays_14 ?_
    obtain ⟨x17, e17, hs⟩ := aB hs
    refine ev_getN C (ci := 2) (k := 0) rfl wu_2 (by decide) wg_X11_173 (gO_F e17) dX11_strays_17 ?_
    refine ev_iconst C (v := 1) dX11_strays_20 (by decide) ?_
    obtain ⟨x21, e21, hs⟩ := aB hs
    refine ev_iald C e21 dX11_strays_21 ?_
    refine ev_iconst C (v := 1) dX11_strays_22 (by decide) ?_
    refine ev_icmp_eq C (tgt := 32) (by decide) dX11_strays_23 (fun q23 => ?_) (fun q23 => ?_)
    · replace hs := (if_pos q23).symm.trans hs
      refine ev_aload_n C (x := .ref o) rfl trivial dX11_strays_32 ?_
      refine ev_iconst C (v := 0) dX11_strays_33 (by decide) ?_
      obtain ⟨h34, e34, hs⟩ := aB hs
      refine ev_put C (ci := 11) (k := 3) rfl wu_11 (by decide) tyX11 tyX11_ok nmX11 wf_X11_167 rfl trivial e34 dX11_strays_34 ?_
      refine ev_aload_n C (x := .ref o) rfl trivial dX11_strays_37 ?_
      obtain ⟨eo38, hs⟩ := kO_at hs
      obtain ⟨x38, h38, n38, y38, e38, hs⟩ := dR_at hs
      obtain ⟨c38, z38, hs⟩ := ck_at hs
      refine ev_callV C (T_X11_readySafety _ _ _ _ _ _ e38) (ci := 11) rfl eo38 wc_X11_readySafety wm_X11_227 wi_X11_readySafety ws_X11_readySafety wz_X11 hy_X11_readySafety ⟨(Nat.le_of_ble_eq_true rfl), (Nat.le_of_ble_eq_true rfl)⟩ ⟨c38, z38⟩ (Nat.le_of_ble_eq_true rfl) rfl dX11_strays_38 ?_
      obtain ⟨hw9, rfl, rfl⟩ := wC_at hs
      have hs := hw9
      refine ev_pop C rfl dX11_strays_41 ?_
      refine ev_aload_n C (x := .ref o) rfl trivial dX11_strays_42 ?_
      obtain ⟨x43, e43, hs⟩ := aB hs
      refine ev_get C (ci := 11) (k := 17) rfl wu_11 (by decide) wf_X11_93 (gO_F e43) dX11_strays_43 ?_
      obtain ⟨eo46, hs⟩ := kO_at hs
      obtain ⟨x46, h46, e46, hs⟩ := cI_at hs
      refine ev_callVN C (T_X5_straying _ _ _ _ e46) (ci := 5) rfl eo46 wc_X5_straying wn_X11_362 wi_X5_straying ws_X5_straying wz_X5 hy_X5_straying ⟨(Nat.le_of_ble_eq_true rfl), (Nat.le_of_ble_eq_true rfl)⟩ ⟨(Nat.le_refl _), (Nat.le_refl _)⟩ (Nat.le_of_ble_eq_true rfl) rfl dX11_strays_46 ?_
      cases hs
      exact ev_iret C rfl rfl (Nat.le_refl _) (Nat.le_refl _) rfl dX11_strays_49
    · replace hs := (if_neg q23).symm.trans hs
      obtain ⟨hw9, rfl, rfl⟩ := wC_at hs
      have hs := hw9
      refine ev_aload_n C (x := .ref o) rfl trivial dX11_strays_26 ?_
      refine ev_iconst C (v := 5) dX11_strays_27 (by decide) ?_
      obtain ⟨eo28, hs⟩ := kO_at hs
      obtain ⟨x28, h28, e28, hs⟩ := cI_at hs
      refine ev_callV C (T_X11_refused _ _ _ _ _ e28) (ci := 11) rfl eo28 wc_X11_refused wm_X11_105 wi_X11_refused ws_X11_refused wz_X11 hy_X11_refused ⟨(Nat.le_of_ble_eq_true rfl), (Nat.le_of_ble_eq_true rfl)⟩ ⟨(Nat.le_refl _), (Nat.le_refl _)⟩ (Nat.le_of_ble_eq_true rfl) rfl dX11_strays_28 ?_
      cases hs
      exact ev_iret C rfl rfl (Nat.le_refl _) (Nat.le_refl _) rfl dX11_strays_31
  · replace hs := (if_pos q4).symm.trans hs
    obtain ⟨hw9, rfl, rfl⟩ := wC_at hs
    have hs := hw9
    refine ev_aload_n C (x := .ref o) rfl trivial dX11_strays_7 ?_
    refine ev_iconst C (v := 1) dX11_strays_8 (by decide) ?_
    obtain ⟨eo9, hs⟩ := kO_at hs
    obtain ⟨x9, h9, e9, hs⟩ := cI_at hs
    refine ev_callV C (T_X11_refused _ _ _ _ _ e9) (ci := 11) rfl eo9 wc_X11_refused wm_X11_105 wi_X11_refused ws_X11_refused wz_X11 hy_X11_refused ⟨(Nat.le_of_ble_eq_true rfl), (Nat.le_of_ble_eq_true rfl)⟩ ⟨(Nat.le_refl _), (Nat.le_refl _)⟩ (Nat.le_of_ble_eq_true rfl) rfl dX11_strays_9 ?_
    cases hs
    exact ev_iret C rfl rfl (Nat.le_refl _) (Nat.le_refl _) rfl dX11_strays_12
end
-- X11_walk
theorem dX11_walk_0 : decode cX11_walk 0 = .ok (.aload_n 0, 1) := by decide +kernel
theorem dX11_walk_1 : decode cX11_walk 1 = .ok (.iload_n 1, 1) := by decide +kernel
theorem dX11_walk_2 : decode cX11_walk 2 = .ok (.invokevirtual 199, 3) := by decide +kernel
theorem dX11_walk_5 : decode cX11_walk 5 = .ok (.ifCond .ne 9, 3) := by decide +kernel
theorem dX11_walk_8 : decode cX11_walk 8 = .ok (.aload_n 0, 1) := by decide +kernel
theorem dX11_walk_9 : decode cX11_walk 9 = .ok (.iconst 1, 1) := by decide +kernel
theorem dX11_walk_10 : decode cX11_walk 10 = .ok (.invokevirtual 105, 3) := by decide +kernel
theorem dX11_walk_13 : decode cX11_walk 13 = .ok (.ireturn, 1) := by decide +kernel
theorem dX11_walk_14 : decode cX11_walk 14 = .ok (.aload_n 0, 1) := by decide +kernel
theorem dX11_walk_15 : decode cX11_walk 15 = .ok (.getfield 19, 3) := by decide +kernel
theorem dX11_walk_18 : decode cX11_walk 18 = .ok (.getfield 173, 3) := by decide +kernel
theorem dX11_walk_21 : decode cX11_walk 21 = .ok (.iconst 1, 1) := by decide +kernel
theorem dX11_walk_22 : decode cX11_walk 22 = .ok (.iaload, 1) := by decide +kernel
theorem dX11_walk_23 : decode cX11_walk 23 = .ok (.iconst 1, 1) := by decide +kernel
theorem dX11_walk_24 : decode cX11_walk 24 = .ok (.if_icmp .eq 9, 3) := by decide +kernel
theorem dX11_walk_27 : decode cX11_walk 27 = .ok (.aload_n 0, 1) := by decide +kernel
theorem dX11_walk_28 : decode cX11_walk 28 = .ok (.iconst 5, 1) := by decide +kernel
theorem dX11_walk_29 : decode cX11_walk 29 = .ok (.invokevirtual 105, 3) := by decide +kernel
theorem dX11_walk_32 : decode cX11_walk 32 = .ok (.ireturn, 1) := by decide +kernel
theorem dX11_walk_33 : decode cX11_walk 33 = .ok (.aload_n 0, 1) := by decide +kernel
theorem dX11_walk_34 : decode cX11_walk 34 = .ok (.iconst 0, 1) := by decide +kernel
theorem dX11_walk_35 : decode cX11_walk 35 = .ok (.putfield 167, 3) := by decide +kernel
theorem dX11_walk_38 : decode cX11_walk 38 = .ok (.aload_n 0, 1) := by decide +kernel
theorem dX11_walk_39 : decode cX11_walk 39 = .ok (.getfield 93, 3) := by decide +kernel
theorem dX11_walk_42 : decode cX11_walk 42 = .ok (.iload_n 1, 1) := by decide +kernel
theorem dX11_walk_43 : decode cX11_walk 43 = .ok (.invokevirtual 365, 3) := by decide +kernel
theorem dX11_walk_46 : decode cX11_walk 46 = .ok (.ireturn, 1) := by decide +kernel
def s_X11_walk (o : Nat) (a1 : Int32) (h : aH) : aO :=
  kO h o 11 (cI (s_X11_hasCell o a1 h) fun x2 h2 => if x2 = 0 then (kO h2 o 11 (cI (s_X11_refused o 1 h2) fun x10 h10 => some (.inl (some (.int x10)), h10))) else ((gO h2 (.ref o) 11 7).bind fun x15 => (gO h2 (.ref x15) 2 0).bind fun x18 => (ldI .int h2 (.ref x18) 1).bind fun x22 => if x22 = 1 then ((pF h2 (.ref o) 11 3 (.int 0)).bind fun h35 => (gO h35 (.ref o) 11 17).bind fun x39 => kO h35 x39 5 (cI (s_X5_round x39 a1 h35) fun x43 h43 => some (.inl (some (.int x43)), h43))) else (kO h2 o 11 (cI (s_X11_refused o 5 h2) fun x29 h29 => some (.inl (some (.int x29)), h29)))))
section
variable {p : Program} {l : Launch} {e : Env} {s : State} {m : MethodId} {args : Array Value} {below : List Frame} {meth : Method} {c : Code} {D : va_G} {B0 : Nat} {X : Nat → Nat} {ws0 : va_W} {r : aR} {h' : aH} {mc ms : Nat}
theorem hy_X11_walk : yX11_walk.cls ≠ "java/lang/invoke/MethodHandle" ∧ yX11_walk.cls ≠ "java/lang/invoke/VarHandle" ∧ (parseMethodDescriptor yX11_walk.desc).map (fun d => d.parameters.length) = some 1 := by decide +kernel
theorem T_X11_walk (o : Nat) (a1 : Int32) (h : aH) (r : aR) (h' : aH) (hs : s_X11_walk o a1 h = some (r, h')) : Mt yX11_walk (Cond.code yX11_walk cX11_walk 2 (some .int) :: aTB) 5 125 0 0 [.ref o, .int a1] h r h' := by
  unfold s_X11_walk at hs
  refine Mt_of (k := 0) (by decide) rfl (fun p l e s m args below meth c D B0 X ws0 C => ?_)
  show Ev p l e { frames := 5, cells := 0, slots := 0, locals := 125 } s m args below meth c D B0 X ws0 r h' 0 0 2 0 0 0 [some (.ref o), some (.int a1)] [] h
  refine ev_aload_n C (x := .ref o) rfl trivial dX11_walk_0 ?_
  refine ev_iload_n C rfl dX11_walk_1 ?_
  obtain ⟨eo2, hs⟩ := kO_at hs
  obtain ⟨x2, h2, e2, hs⟩ := cI_at hs
  refine ev_callV C (T_X11_hasCell _ _ _ _ _ e2) (ci := 11) rfl eo2 wc_X11_hasCell wm_X11_199 wi_X11_hasCell ws_X11_hasCell wz_X11 hy_X11_hasCell ⟨(Nat.le_of_ble_eq_true rfl), (Nat.le_of_ble_eq_true rfl)⟩ ⟨(Nat.le_refl _), (Nat.le_refl _)⟩ (Nat.le_of_ble_eq_true rfl) rfl dX11_walk_2 ?_
  refine ev_if_ne C (tgt := 14) (by decide) dX11_walk_5 (fun q5 => ?_) (fun q5 => ?_)
  · replace hs := (if_neg q5).symm.trans hs
    refine ev_aload_n C (x := .ref o) rfl trivial dX11_walk_14 ?_
    obtain ⟨x15, e15, hs⟩ := aB hs
    refine ev_get C (ci := 11) (k := 7) rfl wu_11 (by decide) wf_X11_19 (gO_F e15) dX11_walk_15 ?_
    obtain ⟨x18, e18, hs⟩ := aB hs
    refine ev_getN C (ci := 2) (k := 0) rfl wu_2 (by decide) wg_X11_173 (gO_F e18) dX11_walk_18 ?_
    refine ev_iconst C (v := 1) dX11_walk_21 (by decide) ?_
    obtain ⟨x22, e22, hs⟩ := aB hs
    refine ev_iald C e22 dX11_walk_22 ?_
    refine ev_iconst C (v := 1) dX11_walk_23 (by decide) ?_
    refine ev_icmp_eq C (tgt := 33) (by decide) dX11_walk_24 (fun q24 => ?_) (fun q24 => ?_)
    · replace hs := (if_pos q24).symm.trans hs
      refine ev_aload_n C (x := .ref o) rfl trivial dX11_walk_33 ?_
      refine ev_iconst C (v := 0) dX11_walk_34 (by decide) ?_
      obtain ⟨h35, e35, hs⟩ := aB hs
      refine ev_put C (ci := 11) (k := 3) rfl wu_11 (by decide) tyX11 tyX11_ok nmX11 wf_X11_167 rfl trivial e35 dX11_walk_35 ?_
      refine ev_aload_n C (x := .ref o) rfl trivial dX11_walk_38 ?_
      obtain ⟨x39, e39, hs⟩ := aB hs
      refine ev_get C (ci := 11) (k := 17) rfl wu_11 (by decide) wf_X11_93 (gO_F e39) dX11_walk_39 ?_
      refine ev_iload_n C rfl dX11_walk_42 ?_
      obtain ⟨eo43, hs⟩ := kO_at hs
      obtain ⟨x43, h43, e43, hs⟩ := cI_at hs
      refine ev_callVN C (T_X5_round _ _ _ _ _ e43) (ci := 5) rfl eo43 wc_X5_round wn_X11_365 wi_X5_round ws_X5_round wz_X5 hy_X5_round ⟨(Nat.le_of_ble_eq_true rfl), (Nat.le_of_ble_eq_true rfl)⟩ ⟨(Nat.le_refl _), (Nat.le_refl _)⟩ (Nat.le_of_ble_eq_true rfl) rfl dX11_walk_43 ?_
      cases hs
      exact ev_iret C rfl rfl (Nat.le_refl _) (Nat.le_refl _) rfl dX11_walk_46
    · replace hs := (if_neg q24).symm.trans hs
      refine ev_aload_n C (x := .ref o) rfl trivial dX11_walk_27 ?_
      refine ev_iconst C (v := 5) dX11_walk_28 (by decide) ?_
      obtain ⟨eo29, hs⟩ := kO_at hs
      obtain ⟨x29, h29, e29, hs⟩ := cI_at hs
      refine ev_callV C (T_X11_refused _ _ _ _ _ e29) (ci := 11) rfl eo29 wc_X11_refused wm_X11_105 wi_X11_refused ws_X11_refused wz_X11 hy_X11_refused ⟨(Nat.le_of_ble_eq_true rfl), (Nat.le_of_ble_eq_true rfl)⟩ ⟨(Nat.le_refl _), (Nat.le_refl _)⟩ (Nat.le_of_ble_eq_true rfl) rfl dX11_walk_29 ?_
      cases hs
      exact ev_iret C rfl rfl (Nat.le_refl _) (Nat.le_refl _) rfl dX11_walk_32
  · replace hs := (if_pos q5).symm.trans hs
    refine ev_aload_n C (x := .ref o) rfl trivial dX11_walk_8 ?_
    refine ev_iconst C (v := 1) dX11_walk_9 (by decide) ?_
    obtain ⟨eo10, hs⟩ := kO_at hs
    obtain ⟨x10, h10, e10, hs⟩ := cI_at hs
    refine ev_callV C (T_X11_refused _ _ _ _ _ e10) (ci := 11) rfl eo10 wc_X11_refused wm_X11_105 wi_X11_refused ws_X11_refused wz_X11 hy_X11_refused ⟨(Nat.le_of_ble_eq_true rfl), (Nat.le_of_ble_eq_true rfl)⟩ ⟨(Nat.le_refl _), (Nat.le_refl _)⟩ (Nat.le_of_ble_eq_true rfl) rfl dX11_walk_10 ?_
    cases hs
    exact ev_iret C rfl rfl (Nat.le_refl _) (Nat.le_refl _) rfl dX11_walk_13
end
-- X11_claim
theorem dX11_claim_0 : decode cX11_claim 0 = .ok (.aload_n 0, 1) := by decide +kernel
theorem dX11_claim_1 : decode cX11_claim 1 = .ok (.iload_n 1, 1) := by decide +kernel
theorem dX11_claim_2 : decode cX11_claim 2 = .ok (.invokevirtual 199, 3) := by decide +kernel
theorem dX11_claim_5 : decode cX11_claim 5 = .ok (.ifCond .ne 10, 3) := by decide +kernel
theorem dX11_claim_8 : decode cX11_claim 8 = .ok (.aload_n 0, 1) := by decide +kernel
theorem dX11_claim_9 : decode cX11_claim 9 = .ok (.iconst 1, 1) := by decide +kernel
theorem dX11_claim_10 : decode cX11_claim 10 = .ok (.putfield 167, 3) := by decide +kernel
theorem dX11_claim_13 : decode cX11_claim 13 = .ok (.iconst 0, 1) := by decide +kernel
theorem dX11_claim_14 : decode cX11_claim 14 = .ok (.ireturn, 1) := by decide +kernel
theorem dX11_claim_15 : decode cX11_claim 15 = .ok (.iload_n 2, 1) := by decide +kernel
theorem dX11_claim_16 : decode cX11_claim 16 = .ok (.iconst (-1), 1) := by decide +kernel
theorem dX11_claim_17 : decode cX11_claim 17 = .ok (.if_icmp .lt 10, 3) := by decide +kernel
theorem dX11_claim_20 : decode cX11_claim 20 = .ok (.iload_n 2, 1) := by decide +kernel
theorem dX11_claim_21 : decode cX11_claim 21 = .ok (.sipush 999, 3) := by decide +kernel
theorem dX11_claim_24 : decode cX11_claim 24 = .ok (.if_icmp .le 10, 3) := by decide +kernel
theorem dX11_claim_27 : decode cX11_claim 27 = .ok (.aload_n 0, 1) := by decide +kernel
theorem dX11_claim_28 : decode cX11_claim 28 = .ok (.iconst 2, 1) := by decide +kernel
theorem dX11_claim_29 : decode cX11_claim 29 = .ok (.putfield 167, 3) := by decide +kernel
theorem dX11_claim_32 : decode cX11_claim 32 = .ok (.iconst 0, 1) := by decide +kernel
theorem dX11_claim_33 : decode cX11_claim 33 = .ok (.ireturn, 1) := by decide +kernel
theorem dX11_claim_34 : decode cX11_claim 34 = .ok (.aload_n 0, 1) := by decide +kernel
theorem dX11_claim_35 : decode cX11_claim 35 = .ok (.iconst 0, 1) := by decide +kernel
theorem dX11_claim_36 : decode cX11_claim 36 = .ok (.putfield 167, 3) := by decide +kernel
theorem dX11_claim_39 : decode cX11_claim 39 = .ok (.aload_n 0, 1) := by decide +kernel
theorem dX11_claim_40 : decode cX11_claim 40 = .ok (.getfield 93, 3) := by decide +kernel
theorem dX11_claim_43 : decode cX11_claim 43 = .ok (.iload_n 1, 1) := by decide +kernel
theorem dX11_claim_44 : decode cX11_claim 44 = .ok (.iload_n 2, 1) := by decide +kernel
theorem dX11_claim_45 : decode cX11_claim 45 = .ok (.invokevirtual 368, 3) := by decide +kernel
theorem dX11_claim_48 : decode cX11_claim 48 = .ok (.iconst 1, 1) := by decide +kernel
theorem dX11_claim_49 : decode cX11_claim 49 = .ok (.ireturn, 1) := by decide +kernel
def s_X11_claim_27  (l0 : Nat) (h : aH) : aO :=
  (pF h (.ref l0) 11 3 (.int 2)).bind fun h29 => rtZ 0 h29
def s_X11_claim (o : Nat) (a1 : Int32) (a2 : Int32) (h : aH) : aO :=
  kO h o 11 (cI (s_X11_hasCell o a1 h) fun x2 h2 => if x2 = 0 then ((pF h2 (.ref o) 11 3 (.int 1)).bind fun h10 => rtZ 0 h10) else (if a2 < (-1) then (s_X11_claim_27 o h2) else (if a2 ≤ 999 then ((pF h2 (.ref o) 11 3 (.int 0)).bind fun h36 => (gO h36 (.ref o) 11 17).bind fun x40 => kO h36 x40 5 (cN (s_X5_setClaim x40 a1 a2 h36) fun h45 => rtZ 1 h45)) else (s_X11_claim_27 o h2))))
section
variable {p : Program} {l : Launch} {e : Env} {s : State} {m : MethodId} {args : Array Value} {below : List Frame} {meth : Method} {c : Code} {D : va_G} {B0 : Nat} {X : Nat → Nat} {ws0 : va_W} {r : aR} {h' : aH} {mc ms : Nat}
theorem t_X11_claim_27 (C : Cx p l s m args meth c B0 X RX11 "claim" cX11_claim 3 (some .boolean) [])   {l0 : Nat} {h : aH} (hs : s_X11_claim_27  l0 h = some (r, h')) : Ev p l e { frames := 1, cells := mc, slots := ms, locals := 22 } s m args below meth c D B0 X ws0 r h' mc ms 3 mc ms 27 [some (.ref l0), none, none] [] h := by
  unfold s_X11_claim_27 at hs
  refine ev_aload_n C (x := .ref l0) rfl trivial dX11_claim_27 ?_
  refine ev_iconst C (v := 2) dX11_claim_28 (by decide) ?_
  obtain ⟨h29, e29, hs⟩ := aB hs
  refine ev_put C (ci := 11) (k := 3) rfl wu_11 (by decide) tyX11 tyX11_ok nmX11 wf_X11_167 rfl trivial e29 dX11_claim_29 ?_
  refine ev_iconst C (v := 0) dX11_claim_32 (by decide) ?_
  obtain ⟨hz, rfl, rfl⟩ := rtZ_at hs
  exact ev_zret C rfl hz rfl (Nat.le_refl _) (Nat.le_refl _) rfl dX11_claim_33
theorem hy_X11_claim : yX11_claim.cls ≠ "java/lang/invoke/MethodHandle" ∧ yX11_claim.cls ≠ "java/lang/invoke/VarHandle" ∧ (parseMethodDescriptor yX11_claim.desc).map (fun d => d.parameters.length) = some 2 := by decide +kernel
theorem T_X11_claim (o : Nat) (a1 : Int32) (a2 : Int32) (h : aH) (r : aR) (h' : aH) (hs : s_X11_claim o a1 a2 h = some (r, h')) : Mt yX11_claim (Cond.code yX11_claim cX11_claim 3 (some .boolean) :: aTB) 1 22 0 0 [.ref o, .int a1, .int a2] h r h' := by
  unfold s_X11_claim at hs
  refine Mt_of (k := 0) (by decide) rfl (fun p l e s m args below meth c D B0 X ws0 C => ?_)
  show Ev p l e { frames := 1, cells := 0, slots := 0, locals := 22 } s m args below meth c D B0 X ws0 r h' 0 0 3 0 0 0 [some (.ref o), some (.int a1), some (.int a2)] [] h
  refine ev_aload_n C (x := .ref o) rfl trivial dX11_claim_0 ?_
  refine ev_iload_n C rfl dX11_claim_1 ?_
  obtain ⟨eo2, hs⟩ := kO_at hs
  obtain ⟨x2, h2, e2, hs⟩ := cI_at hs
  refine ev_callV C (T_X11_hasCell _ _ _ _ _ e2) (ci := 11) rfl eo2 wc_X11_hasCell wm_X11_199 wi_X11_hasCell ws_X11_hasCell wz_X11 hy_X11_hasCell ⟨(Nat.le_of_ble_eq_true rfl), (Nat.le_of_ble_eq_true rfl)⟩ ⟨(Nat.le_refl _), (Nat.le_refl _)⟩ (Nat.le_of_ble_eq_true rfl) rfl dX11_claim_2 ?_
  refine ev_if_ne C (tgt := 15) (by decide) dX11_claim_5 (fun q5 => ?_) (fun q5 => ?_)
  · replace hs := (if_neg q5).symm.trans hs
    refine ev_iload_n C rfl dX11_claim_15 ?_
    refine ev_iconst C (v := (-1)) dX11_claim_16 (by decide) ?_
    refine ev_icmp_lt C (tgt := 27) (by decide) dX11_claim_17 (fun q17 => ?_) (fun q17 => ?_)
    · replace hs := (if_pos q17).symm.trans hs
      exact Ev.keep [true, false, false] (t_X11_claim_27 C  hs)
    · replace hs := (if_neg q17).symm.trans hs
      refine ev_iload_n C rfl dX11_claim_20 ?_
      refine ev_sipush C (v := 999) dX11_claim_21 (by decide) ?_
      refine ev_icmp_le C (tgt := 34) (by decide) dX11_claim_24 (fun q24 => ?_) (fun q24 => ?_)
      · replace hs := (if_pos q24).symm.trans hs
        refine ev_aload_n C (x := .ref o) rfl trivial dX11_claim_34 ?_
        refine ev_iconst C (v := 0) dX11_claim_35 (by decide) ?_
        obtain ⟨h36, e36, hs⟩ := aB hs
        refine ev_put C (ci := 11) (k := 3) rfl wu_11 (by decide) tyX11 tyX11_ok nmX11 wf_X11_167 rfl trivial e36 dX11_claim_36 ?_
        refine ev_aload_n C (x := .ref o) rfl trivial dX11_claim_39 ?_
        obtain ⟨x40, e40, hs⟩ := aB hs
        refine ev_get C (ci := 11) (k := 17) rfl wu_11 (by decide) wf_X11_93 (gO_F e40) dX11_claim_40 ?_
        refine ev_iload_n C rfl dX11_claim_43 ?_
        refine ev_iload_n C rfl dX11_claim_44 ?_
        obtain ⟨eo45, hs⟩ := kO_at hs
        obtain ⟨h45, e45, hs⟩ := cN_at hs
        refine ev_callVN C (T_X5_setClaim _ _ _ _ _ _ e45) (ci := 5) rfl eo45 wc_X5_setClaim wn_X11_368 wi_X5_setClaim ws_X5_setClaim wz_X5 hy_X5_setClaim ⟨(Nat.le_of_ble_eq_true rfl), (Nat.le_of_ble_eq_true rfl)⟩ ⟨(Nat.le_refl _), (Nat.le_refl _)⟩ (Nat.le_of_ble_eq_true rfl) rfl dX11_claim_45 ?_
        refine ev_iconst C (v := 1) dX11_claim_48 (by decide) ?_
        obtain ⟨hz, rfl, rfl⟩ := rtZ_at hs
        exact ev_zret C rfl hz rfl (Nat.le_refl _) (Nat.le_refl _) rfl dX11_claim_49
      · replace hs := (if_neg q24).symm.trans hs
        exact Ev.keep [true, false, false] (t_X11_claim_27 C  hs)
  · replace hs := (if_pos q5).symm.trans hs
    refine ev_aload_n C (x := .ref o) rfl trivial dX11_claim_8 ?_
    refine ev_iconst C (v := 1) dX11_claim_9 (by decide) ?_
    obtain ⟨h10, e10, hs⟩ := aB hs
    refine ev_put C (ci := 11) (k := 3) rfl wu_11 (by decide) tyX11 tyX11_ok nmX11 wf_X11_167 rfl trivial e10 dX11_claim_10 ?_
    refine ev_iconst C (v := 0) dX11_claim_13 (by decide) ?_
    obtain ⟨hz, rfl, rfl⟩ := rtZ_at hs
    exact ev_zret C rfl hz rfl (Nat.le_refl _) (Nat.le_refl _) rfl dX11_claim_14
end
-- X11_proved
theorem dX11_proved_0 : decode cX11_proved 0 = .ok (.aload_n 0, 1) := by decide +kernel
theorem dX11_proved_1 : decode cX11_proved 1 = .ok (.iload_n 1, 1) := by decide +kernel
theorem dX11_proved_2 : decode cX11_proved 2 = .ok (.invokevirtual 199, 3) := by decide +kernel
theorem dX11_proved_5 : decode cX11_proved 5 = .ok (.ifCond .ne 9, 3) := by decide +kernel
theorem dX11_proved_8 : decode cX11_proved 8 = .ok (.aload_n 0, 1) := by decide +kernel
theorem dX11_proved_9 : decode cX11_proved 9 = .ok (.iconst 1, 1) := by decide +kernel
theorem dX11_proved_10 : decode cX11_proved 10 = .ok (.invokevirtual 105, 3) := by decide +kernel
theorem dX11_proved_13 : decode cX11_proved 13 = .ok (.ireturn, 1) := by decide +kernel
theorem dX11_proved_14 : decode cX11_proved 14 = .ok (.aload_n 0, 1) := by decide +kernel
theorem dX11_proved_15 : decode cX11_proved 15 = .ok (.iconst 0, 1) := by decide +kernel
theorem dX11_proved_16 : decode cX11_proved 16 = .ok (.putfield 167, 3) := by decide +kernel
theorem dX11_proved_19 : decode cX11_proved 19 = .ok (.aload_n 0, 1) := by decide +kernel
theorem dX11_proved_20 : decode cX11_proved 20 = .ok (.getfield 45, 3) := by decide +kernel
theorem dX11_proved_23 : decode cX11_proved 23 = .ok (.invokevirtual 372, 3) := by decide +kernel
theorem dX11_proved_26 : decode cX11_proved 26 = .ok (.aload_n 0, 1) := by decide +kernel
theorem dX11_proved_27 : decode cX11_proved 27 = .ok (.getfield 93, 3) := by decide +kernel
theorem dX11_proved_30 : decode cX11_proved 30 = .ok (.iload_n 1, 1) := by decide +kernel
theorem dX11_proved_31 : decode cX11_proved 31 = .ok (.invokevirtual 375, 3) := by decide +kernel
theorem dX11_proved_34 : decode cX11_proved 34 = .ok (.ifCond .eq 17, 3) := by decide +kernel
theorem dX11_proved_37 : decode cX11_proved 37 = .ok (.aload_n 0, 1) := by decide +kernel
theorem dX11_proved_38 : decode cX11_proved 38 = .ok (.getfield 93, 3) := by decide +kernel
theorem dX11_proved_41 : decode cX11_proved 41 = .ok (.invokevirtual 378, 3) := by decide +kernel
theorem dX11_proved_44 : decode cX11_proved 44 = .ok (.ifCond .ge 7, 3) := by decide +kernel
theorem dX11_proved_47 : decode cX11_proved 47 = .ok (.iconst 1, 1) := by decide +kernel
theorem dX11_proved_48 : decode cX11_proved 48 = .ok (.goto 4, 3) := by decide +kernel
theorem dX11_proved_51 : decode cX11_proved 51 = .ok (.iconst 0, 1) := by decide +kernel
theorem dX11_proved_52 : decode cX11_proved 52 = .ok (.ireturn, 1) := by decide +kernel
def s_X11_proved (o : Nat) (a1 : Int32) (h : aH) : aP :=
  kO h o 11 (cI (s_X11_hasCell o a1 h) fun x2 h2 => ck 0 0 (if x2 = 0 then (wC 0 0 (kO h2 o 11 (cI (s_X11_refused o 1 h2) fun x10 h10 => some (.inl (some (.int x10)), h10)))) else ((pF h2 (.ref o) 11 3 (.int 0)).bind fun h16 => (gO h16 (.ref o) 11 11).bind fun x20 => kO h16 x20 3 (dN (s_X3_fill x20 h16) fun h23 n23 y23 => ck (0 + n23) (0 + y23) (wC (0 + n23) (0 + y23) ((gO h23 (.ref o) 11 17).bind fun x27 => kO h23 x27 5 (cI (s_X5_isClaimed x27 a1 h23) fun x31 h31 => if x31 = 0 then (some (.inl (some (.int 0)), h31)) else ((gO h31 (.ref o) 11 17).bind fun x38 => kO h31 x38 5 (cI (s_X5_firstBreak x38 h31) fun x41 h41 => if 0 ≤ x41 then (some (.inl (some (.int 0)), h41)) else (some (.inl (some (.int 1)), h41)))))))))))
section
variable {p : Program} {l : Launch} {e : Env} {s : State} {m : MethodId} {args : Array Value} {below : List Frame} {meth : Method} {c : Code} {D : va_G} {B0 : Nat} {X : Nat → Nat} {ws0 : va_W} {r : aR} {h' : aH} {mc ms : Nat}
theorem hy_X11_proved : yX11_proved.cls ≠ "java/lang/invoke/MethodHandle" ∧ yX11_proved.cls ≠ "java/lang/invoke/VarHandle" ∧ (parseMethodDescriptor yX11_proved.desc).map (fun d => d.parameters.length) = some 1 := by decide +kernel
theorem T_X11_proved (o : Nat) (a1 : Int32) (h : aH) (r : aR) (h' : aH) (mc ms : Nat) (hs : s_X11_proved o a1 h = some (r, h', mc, ms)) : Mt yX11_proved (Cond.code yX11_proved cX11_proved 2 (some .int) :: aTB) 6 150 mc ms [.ref o, .int a1] h r h' := by
  unfold s_X11_proved at hs
  refine Mt_of (k := 0) (by decide) rfl (fun p l e s m args below meth c D B0 X ws0 C => ?_)
  show Ev p l e { frames := 6, cells := mc, slots := ms, locals := 150 } s m args below meth c D B0 X ws0 r h' mc ms 2 0 0 0 [some (.ref o), some (.int a1)] [] h
  refine ev_aload_n C (x := .ref o) rfl trivial dX11_proved_0 ?_
  refine ev_iload_n C rfl dX11_proved_1 ?_
  obtain ⟨eo2, hs⟩ := kO_at hs
  obtain ⟨x2, h2, e2, hs⟩ := cI_at hs
  obtain ⟨c2, z2, hs⟩ := ck_at hs
  refine ev_callV C (T_X11_hasCell _ _ _ _ _ e2) (ci := 11) rfl eo2 wc_X11_hasCell wm_X11_199 wi_X11_hasCell ws_X11_hasCell wz_X11 hy_X11_hasCell ⟨(Nat.le_of_ble_eq_true rfl), (Nat.le_of_ble_eq_true rfl)⟩ ⟨c2, z2⟩ (Nat.le_of_ble_eq_true rfl) rfl dX11_proved_2 ?_
  refine ev_if_ne C (tgt := 14) (by decide) dX11_proved_5 (fun q5 => ?_) (fun q5 => ?_)
  · replace hs := (if_neg q5).symm.trans hs
    refine ev_aload_n C (x := .ref o) rfl trivial dX11_proved_14 ?_
    refine ev_iconst C (v := 0) dX11_proved_15 (by decide) ?_
    obtain ⟨h16, e16, hs⟩ := aB hs
    refine ev_put C (ci := 11) (k := 3) rfl wu_11 (by decide) tyX11 tyX11_ok nmX11 wf_X11_167 rfl trivial e16 dX11_proved_16 ?_
    refine ev_aload_n C (x := .ref o) rfl trivial dX11_proved_19 ?_
    obtain ⟨x20, e20, hs⟩ := aB hs
    refine ev_get C (ci := 11) (k := 11) rfl wu_11 (by decide) wf_X11_45 (gO_F e20) dX11_proved_20 ?_
    obtain ⟨eo23, hs⟩ := kO_at hs
    obtain ⟨h23, n23, y23, e23, hs⟩ := dN_at hs
    obtain ⟨c23, z23, hs⟩ := ck_at hs
    refine ev_callVN C (T_X3_fill _ _ _ _ _ _ e23) (ci := 3) rfl eo23 wc_X3_fill wn_X11_372 wi_X3_fill ws_X3_fill wz_X3 hy_X3_fill ⟨(Nat.le_of_ble_eq_true rfl), (Nat.le_of_ble_eq_true rfl)⟩ ⟨c23, z23⟩ (Nat.le_of_ble_eq_true rfl) rfl dX11_proved_23 ?_
    obtain ⟨hw9, rfl, rfl⟩ := wC_at hs
    have hs := hw9
    refine ev_aload_n C (x := .ref o) rfl trivial dX11_proved_26 ?_
    obtain ⟨x27, e27, hs⟩ := aB hs
    refine ev_get C (ci := 11) (k := 17) rfl wu_11 (by decide) wf_X11_93 (gO_F e27) dX11_proved_27 ?_
    refine ev_iload_n C rfl dX11_proved_30 ?_
    obtain ⟨eo31, hs⟩ := kO_at hs
    obtain ⟨x31, h31, e31, hs⟩ := cI_at hs
    refine ev_callVN C (T_X5_isClaimed _ _ _ _ _ e31) (ci := 5) rfl eo31 wc_X5_isClaimed wn_X11_375 wi_X5_isClaimed ws_X5_isClaimed wz_X5 hy_X5_isClaimed ⟨(Nat.le_of_ble_eq_true rfl), (Nat.le_of_ble_eq_true rfl)⟩ ⟨(Nat.le_refl _), (Nat.le_refl _)⟩ (Nat.le_of_ble_eq_true rfl) rfl dX11_proved_31 ?_
    refine ev_if_eq C (tgt := 51) (by decide) dX11_proved_34 (fun q34 => ?_) (fun q34 => ?_)
    · replace hs := (if_pos q34).symm.trans hs
      refine ev_iconst C (v := 0) dX11_proved_51 (by decide) ?_
      cases hs
      exact ev_iret C rfl rfl (Nat.le_refl _) (Nat.le_refl _) rfl dX11_proved_52
    · replace hs := (if_neg q34).symm.trans hs
      refine ev_aload_n C (x := .ref o) rfl trivial dX11_proved_37 ?_
      obtain ⟨x38, e38, hs⟩ := aB hs
      refine ev_get C (ci := 11) (k := 17) rfl wu_11 (by decide) wf_X11_93 (gO_F e38) dX11_proved_38 ?_
      obtain ⟨eo41, hs⟩ := kO_at hs
      obtain ⟨x41, h41, e41, hs⟩ := cI_at hs
      refine ev_callVN C (T_X5_firstBreak _ _ _ _ e41) (ci := 5) rfl eo41 wc_X5_firstBreak wn_X11_378 wi_X5_firstBreak ws_X5_firstBreak wz_X5 hy_X5_firstBreak ⟨(Nat.le_of_ble_eq_true rfl), (Nat.le_of_ble_eq_true rfl)⟩ ⟨(Nat.le_refl _), (Nat.le_refl _)⟩ (Nat.le_of_ble_eq_true rfl) rfl dX11_proved_41 ?_
      refine ev_if_ge C (tgt := 51) (by decide) dX11_proved_44 (fun q44 => ?_) (fun q44 => ?_)
      · replace hs := (if_pos q44).symm.trans hs
        refine ev_iconst C (v := 0) dX11_proved_51 (by decide) ?_
        cases hs
        exact ev_iret C rfl rfl (Nat.le_refl _) (Nat.le_refl _) rfl dX11_proved_52
      · replace hs := (if_neg q44).symm.trans hs
        refine ev_iconst C (v := 1) dX11_proved_47 (by decide) ?_
        refine ev_goto C (tgt := 52) (by decide) dX11_proved_48 ?_
        cases hs
        exact ev_iret C rfl rfl (Nat.le_refl _) (Nat.le_refl _) rfl dX11_proved_52
  · replace hs := (if_pos q5).symm.trans hs
    obtain ⟨hw9, rfl, rfl⟩ := wC_at hs
    have hs := hw9
    refine ev_aload_n C (x := .ref o) rfl trivial dX11_proved_8 ?_
    refine ev_iconst C (v := 1) dX11_proved_9 (by decide) ?_
    obtain ⟨eo10, hs⟩ := kO_at hs
    obtain ⟨x10, h10, e10, hs⟩ := cI_at hs
    refine ev_callV C (T_X11_refused _ _ _ _ _ e10) (ci := 11) rfl eo10 wc_X11_refused wm_X11_105 wi_X11_refused ws_X11_refused wz_X11 hy_X11_refused ⟨(Nat.le_of_ble_eq_true rfl), (Nat.le_of_ble_eq_true rfl)⟩ ⟨(Nat.le_refl _), (Nat.le_refl _)⟩ (Nat.le_of_ble_eq_true rfl) rfl dX11_proved_10 ?_
    cases hs
    exact ev_iret C rfl rfl (Nat.le_refl _) (Nat.le_refl _) rfl dX11_proved_13
end
-- X11_breaks
theorem dX11_breaks_0 : decode cX11_breaks 0 = .ok (.aload_n 0, 1) := by decide +kernel
theorem dX11_breaks_1 : decode cX11_breaks 1 = .ok (.getfield 120, 3) := by decide +kernel
theorem dX11_breaks_4 : decode cX11_breaks 4 = .ok (.ifCond .ne 9, 3) := by decide +kernel
theorem dX11_breaks_7 : decode cX11_breaks 7 = .ok (.aload_n 0, 1) := by decide +kernel
theorem dX11_breaks_8 : decode cX11_breaks 8 = .ok (.iconst 1, 1) := by decide +kernel
theorem dX11_breaks_9 : decode cX11_breaks 9 = .ok (.invokevirtual 105, 3) := by decide +kernel
theorem dX11_breaks_12 : decode cX11_breaks 12 = .ok (.ireturn, 1) := by decide +kernel
theorem dX11_breaks_13 : decode cX11_breaks 13 = .ok (.aload_n 0, 1) := by decide +kernel
theorem dX11_breaks_14 : decode cX11_breaks 14 = .ok (.iconst 0, 1) := by decide +kernel
theorem dX11_breaks_15 : decode cX11_breaks 15 = .ok (.putfield 167, 3) := by decide +kernel
theorem dX11_breaks_18 : decode cX11_breaks 18 = .ok (.aload_n 0, 1) := by decide +kernel
theorem dX11_breaks_19 : decode cX11_breaks 19 = .ok (.getfield 45, 3) := by decide +kernel
theorem dX11_breaks_22 : decode cX11_breaks 22 = .ok (.invokevirtual 372, 3) := by decide +kernel
theorem dX11_breaks_25 : decode cX11_breaks 25 = .ok (.aload_n 0, 1) := by decide +kernel
theorem dX11_breaks_26 : decode cX11_breaks 26 = .ok (.getfield 93, 3) := by decide +kernel
theorem dX11_breaks_29 : decode cX11_breaks 29 = .ok (.invokevirtual 378, 3) := by decide +kernel
theorem dX11_breaks_32 : decode cX11_breaks 32 = .ok (.ireturn, 1) := by decide +kernel
def s_X11_breaks (o : Nat) (h : aH) : aP :=
  (gI h (.ref o) 11 2).bind fun x1 => if x1 = 0 then (wC 0 0 (kO h o 11 (cI (s_X11_refused o 1 h) fun x9 h9 => some (.inl (some (.int x9)), h9)))) else ((pF h (.ref o) 11 3 (.int 0)).bind fun h15 => (gO h15 (.ref o) 11 11).bind fun x19 => kO h15 x19 3 (dN (s_X3_fill x19 h15) fun h22 n22 y22 => ck (0 + n22) (0 + y22) (wC (0 + n22) (0 + y22) ((gO h22 (.ref o) 11 17).bind fun x26 => kO h22 x26 5 (cI (s_X5_firstBreak x26 h22) fun x29 h29 => some (.inl (some (.int x29)), h29))))))
section
variable {p : Program} {l : Launch} {e : Env} {s : State} {m : MethodId} {args : Array Value} {below : List Frame} {meth : Method} {c : Code} {D : va_G} {B0 : Nat} {X : Nat → Nat} {ws0 : va_W} {r : aR} {h' : aH} {mc ms : Nat}
theorem hy_X11_breaks : yX11_breaks.cls ≠ "java/lang/invoke/MethodHandle" ∧ yX11_breaks.cls ≠ "java/lang/invoke/VarHandle" ∧ (parseMethodDescriptor yX11_breaks.desc).map (fun d => d.parameters.length) = some 0 := by decide +kernel
theorem T_X11_breaks (o : Nat) (h : aH) (r : aR) (h' : aH) (mc ms : Nat) (hs : s_X11_breaks o h = some (r, h', mc, ms)) : Mt yX11_breaks (Cond.code yX11_breaks cX11_breaks 1 (some .int) :: aTB) 6 150 mc ms [.ref o] h r h' := by
  unfold s_X11_breaks at hs
  refine Mt_of (k := 0) (by decide) rfl (fun p l e s m args below meth c D B0 X ws0 C => ?_)
  show Ev p l e { frames := 6, cells := mc, slots := ms, locals := 150 } s m args below meth c D B0 X ws0 r h' mc ms 1 0 0 0 [some (.ref o)] [] h
  refine ev_aload_n C (x := .ref o) rfl trivial dX11_breaks_0 ?_
  obtain ⟨x1, e1, hs⟩ := aB hs
  refine ev_get C (ci := 11) (k := 2) rfl wu_11 (by decide) wf_X11_120 (gI_F e1) dX11_breaks_1 ?_
  refine ev_if_ne C (tgt := 13) (by decide) dX11_breaks_4 (fun q4 => ?_) (fun q4 => ?_)
  · replace hs := (if_neg q4).symm.trans hs
    refine ev_aload_n C (x := .ref o) rfl trivial dX11_breaks_13 ?_
    refine ev_iconst C (v := 0) dX11_breaks_14 (by decide) ?_
    obtain ⟨h15, e15, hs⟩ := aB hs
    refine ev_put C (ci := 11) (k := 3) rfl wu_11 (by decide) tyX11 tyX11_ok nmX11 wf_X11_167 rfl trivial e15 dX11_breaks_15 ?_
    refine ev_aload_n C (x := .ref o) rfl trivial dX11_breaks_18 ?_
    obtain ⟨x19, e19, hs⟩ := aB hs
    refine ev_get C (ci := 11) (k := 11) rfl wu_11 (by decide) wf_X11_45 (gO_F e19) dX11_breaks_19 ?_
    obtain ⟨eo22, hs⟩ := kO_at hs
    obtain ⟨h22, n22, y22, e22, hs⟩ := dN_at hs
    obtain ⟨c22, z22, hs⟩ := ck_at hs
    refine ev_callVN C (T_X3_fill _ _ _ _ _ _ e22) (ci := 3) rfl eo22 wc_X3_fill wn_X11_372 wi_X3_fill ws_X3_fill wz_X3 hy_X3_fill ⟨(Nat.le_of_ble_eq_true rfl), (Nat.le_of_ble_eq_true rfl)⟩ ⟨c22, z22⟩ (Nat.le_of_ble_eq_true rfl) rfl dX11_breaks_22 ?_
    obtain ⟨hw9, rfl, rfl⟩ := wC_at hs
    have hs := hw9
    refine ev_aload_n C (x := .ref o) rfl trivial dX11_breaks_25 ?_
    obtain ⟨x26, e26, hs⟩ := aB hs
    refine ev_get C (ci := 11) (k := 17) rfl wu_11 (by decide) wf_X11_93 (gO_F e26) dX11_breaks_26 ?_
    obtain ⟨eo29, hs⟩ := kO_at hs
    obtain ⟨x29, h29, e29, hs⟩ := cI_at hs
    refine ev_callVN C (T_X5_firstBreak _ _ _ _ e29) (ci := 5) rfl eo29 wc_X5_firstBreak wn_X11_378 wi_X5_firstBreak ws_X5_firstBreak wz_X5 hy_X5_firstBreak ⟨(Nat.le_of_ble_eq_true rfl), (Nat.le_of_ble_eq_true rfl)⟩ ⟨(Nat.le_refl _), (Nat.le_refl _)⟩ (Nat.le_of_ble_eq_true rfl) rfl dX11_breaks_29 ?_
    cases hs
    exact ev_iret C rfl rfl (Nat.le_refl _) (Nat.le_refl _) rfl dX11_breaks_32
  · replace hs := (if_pos q4).symm.trans hs
    obtain ⟨hw9, rfl, rfl⟩ := wC_at hs
    have hs := hw9
    refine ev_aload_n C (x := .ref o) rfl trivial dX11_breaks_7 ?_
    refine ev_iconst C (v := 1) dX11_breaks_8 (by decide) ?_
    obtain ⟨eo9, hs⟩ := kO_at hs
    obtain ⟨x9, h9, e9, hs⟩ := cI_at hs
    refine ev_callV C (T_X11_refused _ _ _ _ _ e9) (ci := 11) rfl eo9 wc_X11_refused wm_X11_105 wi_X11_refused ws_X11_refused wz_X11 hy_X11_refused ⟨(Nat.le_of_ble_eq_true rfl), (Nat.le_of_ble_eq_true rfl)⟩ ⟨(Nat.le_refl _), (Nat.le_refl _)⟩ (Nat.le_of_ble_eq_true rfl) rfl dX11_breaks_9 ?_
    cases hs
    exact ev_iret C rfl rfl (Nat.le_refl _) (Nat.le_refl _) rfl dX11_breaks_12
end
-- X11_trouble
theorem dX11_trouble_0 : decode cX11_trouble 0 = .ok (.aload_n 0, 1) := by decide +kernel
theorem dX11_trouble_1 : decode cX11_trouble 1 = .ok (.getfield 167, 3) := by decide +kernel
theorem dX11_trouble_4 : decode cX11_trouble 4 = .ok (.ireturn, 1) := by decide +kernel
def s_X11_trouble (o : Nat) (h : aH) : aO :=
  (gI h (.ref o) 11 3).bind fun x1 => some (.inl (some (.int x1)), h)
section
variable {p : Program} {l : Launch} {e : Env} {s : State} {m : MethodId} {args : Array Value} {below : List Frame} {meth : Method} {c : Code} {D : va_G} {B0 : Nat} {X : Nat → Nat} {ws0 : va_W} {r : aR} {h' : aH} {mc ms : Nat}
theorem hy_X11_trouble : yX11_trouble.cls ≠ "java/lang/invoke/MethodHandle" ∧ yX11_trouble.cls ≠ "java/lang/invoke/VarHandle" ∧ (parseMethodDescriptor yX11_trouble.desc).map (fun d => d.parameters.length) = some 0 := by decide +kernel
theorem T_X11_trouble (o : Nat) (h : aH) (r : aR) (h' : aH) (hs : s_X11_trouble o h = some (r, h')) : Mt yX11_trouble (Cond.code yX11_trouble cX11_trouble 1 (some .int) :: aTB) 0 0 0 0 [.ref o] h r h' := by
  unfold s_X11_trouble at hs
  refine Mt_of (k := 0) (by decide) rfl (fun p l e s m args below meth c D B0 X ws0 C => ?_)
  show Ev p l e { frames := 0, cells := 0, slots := 0, locals := 0 } s m args below meth c D B0 X ws0 r h' 0 0 1 0 0 0 [some (.ref o)] [] h
  refine ev_aload_n C (x := .ref o) rfl trivial dX11_trouble_0 ?_
  obtain ⟨x1, e1, hs⟩ := aB hs
  refine ev_get C (ci := 11) (k := 3) rfl wu_11 (by decide) wf_X11_167 (gI_F e1) dX11_trouble_1 ?_
  cases hs
  exact ev_iret C rfl rfl (Nat.le_refl _) (Nat.le_refl _) rfl dX11_trouble_4
end
-- X13_init
theorem dX13_init_0 : decode cX13_init 0 = .ok (.aload_n 0, 1) := by decide +kernel
theorem dX13_init_1 : decode cX13_init 1 = .ok (.invokespecial 3, 3) := by decide +kernel
theorem dX13_init_4 : decode cX13_init 4 = .ok (.aload_n 0, 1) := by decide +kernel
theorem dX13_init_5 : decode cX13_init 5 = .ok (.iconst 5, 1) := by decide +kernel
theorem dX13_init_6 : decode cX13_init 6 = .ok (.newarray .int, 2) := by decide +kernel
theorem dX13_init_8 : decode cX13_init 8 = .ok (.putfield 9, 3) := by decide +kernel
theorem dX13_init_11 : decode cX13_init 11 = .ok (.aload_n 0, 1) := by decide +kernel
theorem dX13_init_12 : decode cX13_init 12 = .ok (.bipush 11, 2) := by decide +kernel
theorem dX13_init_14 : decode cX13_init 14 = .ok (.newarray .int, 2) := by decide +kernel
theorem dX13_init_16 : decode cX13_init 16 = .ok (.putfield 15, 3) := by decide +kernel
theorem dX13_init_19 : decode cX13_init 19 = .ok (.aload_n 0, 1) := by decide +kernel
theorem dX13_init_20 : decode cX13_init 20 = .ok (.bipush 11, 2) := by decide +kernel
theorem dX13_init_22 : decode cX13_init 22 = .ok (.newarray .int, 2) := by decide +kernel
theorem dX13_init_24 : decode cX13_init 24 = .ok (.putfield 18, 3) := by decide +kernel
theorem dX13_init_27 : decode cX13_init 27 = .ok (.aload_n 0, 1) := by decide +kernel
theorem dX13_init_28 : decode cX13_init 28 = .ok (.bipush 11, 2) := by decide +kernel
theorem dX13_init_30 : decode cX13_init 30 = .ok (.newarray .int, 2) := by decide +kernel
theorem dX13_init_32 : decode cX13_init 32 = .ok (.putfield 21, 3) := by decide +kernel
theorem dX13_init_35 : decode cX13_init 35 = .ok (.aload_n 0, 1) := by decide +kernel
theorem dX13_init_36 : decode cX13_init 36 = .ok (.bipush 11, 2) := by decide +kernel
theorem dX13_init_38 : decode cX13_init 38 = .ok (.newarray .int, 2) := by decide +kernel
theorem dX13_init_40 : decode cX13_init 40 = .ok (.putfield 24, 3) := by decide +kernel
theorem dX13_init_43 : decode cX13_init 43 = .ok (.aload_n 0, 1) := by decide +kernel
theorem dX13_init_44 : decode cX13_init 44 = .ok (.bipush 11, 2) := by decide +kernel
theorem dX13_init_46 : decode cX13_init 46 = .ok (.newarray .long, 2) := by decide +kernel
theorem dX13_init_48 : decode cX13_init 48 = .ok (.putfield 27, 3) := by decide +kernel
theorem dX13_init_51 : decode cX13_init 51 = .ok (.aload_n 0, 1) := by decide +kernel
theorem dX13_init_52 : decode cX13_init 52 = .ok (.bipush 8, 2) := by decide +kernel
theorem dX13_init_54 : decode cX13_init 54 = .ok (.newarray .int, 2) := by decide +kernel
theorem dX13_init_56 : decode cX13_init 56 = .ok (.putfield 31, 3) := by decide +kernel
theorem dX13_init_59 : decode cX13_init 59 = .ok (.aload_n 0, 1) := by decide +kernel
theorem dX13_init_60 : decode cX13_init 60 = .ok (.bipush 8, 2) := by decide +kernel
theorem dX13_init_62 : decode cX13_init 62 = .ok (.newarray .int, 2) := by decide +kernel
theorem dX13_init_64 : decode cX13_init 64 = .ok (.putfield 34, 3) := by decide +kernel
theorem dX13_init_67 : decode cX13_init 67 = .ok (.aload_n 0, 1) := by decide +kernel
theorem dX13_init_68 : decode cX13_init 68 = .ok (.bipush 8, 2) := by decide +kernel
theorem dX13_init_70 : decode cX13_init 70 = .ok (.newarray .int, 2) := by decide +kernel
theorem dX13_init_72 : decode cX13_init 72 = .ok (.putfield 37, 3) := by decide +kernel
theorem dX13_init_75 : decode cX13_init 75 = .ok (.aload_n 0, 1) := by decide +kernel
theorem dX13_init_76 : decode cX13_init 76 = .ok (.bipush 8, 2) := by decide +kernel
theorem dX13_init_78 : decode cX13_init 78 = .ok (.newarray .int, 2) := by decide +kernel
theorem dX13_init_80 : decode cX13_init 80 = .ok (.putfield 40, 3) := by decide +kernel
theorem dX13_init_83 : decode cX13_init 83 = .ok (.aload_n 0, 1) := by decide +kernel
theorem dX13_init_84 : decode cX13_init 84 = .ok (.sipush 400, 3) := by decide +kernel
theorem dX13_init_87 : decode cX13_init 87 = .ok (.newarray .int, 2) := by decide +kernel
theorem dX13_init_89 : decode cX13_init 89 = .ok (.putfield 43, 3) := by decide +kernel
theorem dX13_init_92 : decode cX13_init 92 = .ok (.aload_n 0, 1) := by decide +kernel
theorem dX13_init_93 : decode cX13_init 93 = .ok (.sipush 400, 3) := by decide +kernel
theorem dX13_init_96 : decode cX13_init 96 = .ok (.newarray .int, 2) := by decide +kernel
theorem dX13_init_98 : decode cX13_init 98 = .ok (.putfield 46, 3) := by decide +kernel
theorem dX13_init_101 : decode cX13_init 101 = .ok (.return_, 1) := by decide +kernel
def s_X13_init (o : Nat) (h : aH) : aP :=
  bP (nwA .int h 5) fun o6 h6 => ck (0 + 1) (0 + Int32.toNatClampNeg 5) ((pF h6 (.ref o) 13 0 (.ref o6)).bind fun h8 => bP (nwA .int h8 11) fun o14 h14 => ck (0 + 1 + 1) (0 + Int32.toNatClampNeg 5 + Int32.toNatClampNeg 11) ((pF h14 (.ref o) 13 1 (.ref o14)).bind fun h16 => bP (nwA .int h16 11) fun o22 h22 => ck (0 + 1 + 1 + 1) (0 + Int32.toNatClampNeg 5 + Int32.toNatClampNeg 11 + Int32.toNatClampNeg 11) ((pF h22 (.ref o) 13 2 (.ref o22)).bind fun h24 => bP (nwA .int h24 11) fun o30 h30 => ck (0 + 1 + 1 + 1 + 1) (0 + Int32.toNatClampNeg 5 + Int32.toNatClampNeg 11 + Int32.toNatClampNeg 11 + Int32.toNatClampNeg 11) ((pF h30 (.ref o) 13 3 (.ref o30)).bind fun h32 => bP (nwA .int h32 11) fun o38 h38 => ck (0 + 1 + 1 + 1 + 1 + 1) (0 + Int32.toNatClampNeg 5 + Int32.toNatClampNeg 11 + Int32.toNatClampNeg 11 + Int32.toNatClampNeg 11 + Int32.toNatClampNeg 11) ((pF h38 (.ref o) 13 4 (.ref o38)).bind fun h40 => bP (nwA .long h40 11) fun o46 h46 => ck (0 + 1 + 1 + 1 + 1 + 1 + 1) (0 + Int32.toNatClampNeg 5 + Int32.toNatClampNeg 11 + Int32.toNatClampNeg 11 + Int32.toNatClampNeg 11 + Int32.toNatClampNeg 11 + Int32.toNatClampNeg 11) ((pF h46 (.ref o) 13 5 (.ref o46)).bind fun h48 => bP (nwA .int h48 8) fun o54 h54 => ck (0 + 1 + 1 + 1 + 1 + 1 + 1 + 1) (0 + Int32.toNatClampNeg 5 + Int32.toNatClampNeg 11 + Int32.toNatClampNeg 11 + Int32.toNatClampNeg 11 + Int32.toNatClampNeg 11 + Int32.toNatClampNeg 11 + Int32.toNatClampNeg 8) ((pF h54 (.ref o) 13 8 (.ref o54)).bind fun h56 => bP (nwA .int h56 8) fun o62 h62 => ck (0 + 1 + 1 + 1 + 1 + 1 + 1 + 1 + 1) (0 + Int32.toNatClampNeg 5 + Int32.toNatClampNeg 11 + Int32.toNatClampNeg 11 + Int32.toNatClampNeg 11 + Int32.toNatClampNeg 11 + Int32.toNatClampNeg 11 + Int32.toNatClampNeg 8 + Int32.toNatClampNeg 8) ((pF h62 (.ref o) 13 9 (.ref o62)).bind fun h64 => bP (nwA .int h64 8) fun o70 h70 => ck (0 + 1 + 1 + 1 + 1 + 1 + 1 + 1 + 1 + 1) (0 + Int32.toNatClampNeg 5 + Int32.toNatClampNeg 11 + Int32.toNatClampNeg 11 + Int32.toNatClampNeg 11 + Int32.toNatClampNeg 11 + Int32.toNatClampNeg 11 + Int32.toNatClampNeg 8 + Int32.toNatClampNeg 8 + Int32.toNatClampNeg 8) ((pF h70 (.ref o) 13 10 (.ref o70)).bind fun h72 => bP (nwA .int h72 8) fun o78 h78 => ck (0 + 1 + 1 + 1 + 1 + 1 + 1 + 1 + 1 + 1 + 1) (0 + Int32.toNatClampNeg 5 + Int32.toNatClampNeg 11 + Int32.toNatClampNeg 11 + Int32.toNatClampNeg 11 + Int32.toNatClampNeg 11 + Int32.toNatClampNeg 11 + Int32.toNatClampNeg 8 + Int32.toNatClampNeg 8 + Int32.toNatClampNeg 8 + Int32.toNatClampNeg 8) ((pF h78 (.ref o) 13 11 (.ref o78)).bind fun h80 => bP (nwA .int h80 400) fun o87 h87 => ck (0 + 1 + 1 + 1 + 1 + 1 + 1 + 1 + 1 + 1 + 1 + 1) (0 + Int32.toNatClampNeg 5 + Int32.toNatClampNeg 11 + Int32.toNatClampNeg 11 + Int32.toNatClampNeg 11 + Int32.toNatClampNeg 11 + Int32.toNatClampNeg 11 + Int32.toNatClampNeg 8 + Int32.toNatClampNeg 8 + Int32.toNatClampNeg 8 + Int32.toNatClampNeg 8 + Int32.toNatClampNeg 400) ((pF h87 (.ref o) 13 12 (.ref o87)).bind fun h89 => bP (nwA .int h89 400) fun o96 h96 => ck (0 + 1 + 1 + 1 + 1 + 1 + 1 + 1 + 1 + 1 + 1 + 1 + 1) (0 + Int32.toNatClampNeg 5 + Int32.toNatClampNeg 11 + Int32.toNatClampNeg 11 + Int32.toNatClampNeg 11 + Int32.toNatClampNeg 11 + Int32.toNatClampNeg 11 + Int32.toNatClampNeg 8 + Int32.toNatClampNeg 8 + Int32.toNatClampNeg 8 + Int32.toNatClampNeg 8 + Int32.toNatClampNeg 400 + Int32.toNatClampNeg 400) (wC (0 + 1 + 1 + 1 + 1 + 1 + 1 + 1 + 1 + 1 + 1 + 1 + 1) (0 + Int32.toNatClampNeg 5 + Int32.toNatClampNeg 11 + Int32.toNatClampNeg 11 + Int32.toNatClampNeg 11 + Int32.toNatClampNeg 11 + Int32.toNatClampNeg 11 + Int32.toNatClampNeg 8 + Int32.toNatClampNeg 8 + Int32.toNatClampNeg 8 + Int32.toNatClampNeg 8 + Int32.toNatClampNeg 400 + Int32.toNatClampNeg 400) ((pF h96 (.ref o) 13 13 (.ref o96)).bind fun h98 => some (.inl none, h98))))))))))))))
section
variable {p : Program} {l : Launch} {e : Env} {s : State} {m : MethodId} {args : Array Value} {below : List Frame} {meth : Method} {c : Code} {D : va_G} {B0 : Nat} {X : Nat → Nat} {ws0 : va_W} {r : aR} {h' : aH} {mc ms : Nat}
theorem hy_X13_init : yX13_init.cls ≠ "java/lang/invoke/MethodHandle" ∧ yX13_init.cls ≠ "java/lang/invoke/VarHandle" ∧ (parseMethodDescriptor yX13_init.desc).map (fun d => d.parameters.length) = some 0 := by decide +kernel
theorem T_X13_init (o : Nat) (h : aH) (r : aR) (h' : aH) (mc ms : Nat) (hs : s_X13_init o h = some (r, h', mc, ms)) : Mt yX13_init (Cond.code yX13_init cX13_init 1 none :: aTB) 1 20 mc ms [.ref o] h r h' := by
  unfold s_X13_init at hs
  refine Mt_of (k := 0) (by decide) rfl (fun p l e s m args below meth c D B0 X ws0 C => ?_)
  show Ev p l e { frames := 1, cells := mc, slots := ms, locals := 20 } s m args below meth c D B0 X ws0 r h' mc ms 1 0 0 0 [some (.ref o)] [] h
  refine ev_aload_n C (x := .ref o) rfl trivial dX13_init_0 ?_
  refine ev_objInit C wm_X13_3 wi_oinit wc_oinit (Nat.le_of_ble_eq_true rfl) (Nat.le_of_ble_eq_true rfl) dX13_init_1 ?_
  refine ev_aload_n C (x := .ref o) rfl trivial dX13_init_4 ?_
  refine ev_iconst C (v := 5) dX13_init_5 (by decide) ?_
  obtain ⟨o6, h6, e6, hs⟩ := bP_at hs
  obtain ⟨c6, z6, hs⟩ := ck_at hs
  refine ev_newa C (atype := .int) (ty := .int) rfl wa_int (fun _ _ => rfl) e6 c6 z6 dX13_init_6 ?_
  obtain ⟨h8, e8, hs⟩ := aB hs
  refine ev_putF C (ci := 13) (k := 0) rfl wu_13 (by decide) tyX13 tyX13_ok nmX13 wf_X13_9 rfl rfl rfl trivial e8 dX13_init_8 ?_
  refine ev_aload_n C (x := .ref o) rfl trivial dX13_init_11 ?_
  refine ev_bipush C (v := 11) dX13_init_12 (by decide) ?_
  obtain ⟨o14, h14, e14, hs⟩ := bP_at hs
  obtain ⟨c14, z14, hs⟩ := ck_at hs
  refine ev_newa C (atype := .int) (ty := .int) rfl wa_int (fun _ _ => rfl) e14 c14 z14 dX13_init_14 ?_
  obtain ⟨h16, e16, hs⟩ := aB hs
  refine ev_putF C (ci := 13) (k := 1) rfl wu_13 (by decide) tyX13 tyX13_ok nmX13 wf_X13_15 rfl rfl rfl trivial e16 dX13_init_16 ?_
  refine ev_aload_n C (x := .ref o) rfl trivial dX13_init_19 ?_
  refine ev_bipush C (v := 11) dX13_init_20 (by decide) ?_
  obtain ⟨o22, h22, e22, hs⟩ := bP_at hs
  obtain ⟨c22, z22, hs⟩ := ck_at hs
  refine ev_newa C (atype := .int) (ty := .int) rfl wa_int (fun _ _ => rfl) e22 c22 z22 dX13_init_22 ?_
  obtain ⟨h24, e24, hs⟩ := aB hs
  refine ev_putF C (ci := 13) (k := 2) rfl wu_13 (by decide) tyX13 tyX13_ok nmX13 wf_X13_18 rfl rfl rfl trivial e24 dX13_init_24 ?_
  refine ev_aload_n C (x := .ref o) rfl trivial dX13_init_27 ?_
  refine ev_bipush C (v := 11) dX13_init_28 (by decide) ?_
  obtain ⟨o30, h30, e30, hs⟩ := bP_at hs
  obtain ⟨c30, z30, hs⟩ := ck_at hs
  refine ev_newa C (atype := .int) (ty := .int) rfl wa_int (fun _ _ => rfl) e30 c30 z30 dX13_init_30 ?_
  obtain ⟨h32, e32, hs⟩ := aB hs
  refine ev_putF C (ci := 13) (k := 3) rfl wu_13 (by decide) tyX13 tyX13_ok nmX13 wf_X13_21 rfl rfl rfl trivial e32 dX13_init_32 ?_
  refine ev_aload_n C (x := .ref o) rfl trivial dX13_init_35 ?_
  refine ev_bipush C (v := 11) dX13_init_36 (by decide) ?_
  obtain ⟨o38, h38, e38, hs⟩ := bP_at hs
  obtain ⟨c38, z38, hs⟩ := ck_at hs
  refine ev_newa C (atype := .int) (ty := .int) rfl wa_int (fun _ _ => rfl) e38 c38 z38 dX13_init_38 ?_
  obtain ⟨h40, e40, hs⟩ := aB hs
  refine ev_putF C (ci := 13) (k := 4) rfl wu_13 (by decide) tyX13 tyX13_ok nmX13 wf_X13_24 rfl rfl rfl trivial e40 dX13_init_40 ?_
  refine ev_aload_n C (x := .ref o) rfl trivial dX13_init_43 ?_
  refine ev_bipush C (v := 11) dX13_init_44 (by decide) ?_
  obtain ⟨o46, h46, e46, hs⟩ := bP_at hs
  obtain ⟨c46, z46, hs⟩ := ck_at hs
  refine ev_newa C (atype := .long) (ty := .long) rfl wa_long (fun _ _ => rfl) e46 c46 z46 dX13_init_46 ?_
  obtain ⟨h48, e48, hs⟩ := aB hs
  refine ev_putF C (ci := 13) (k := 5) rfl wu_13 (by decide) tyX13 tyX13_ok nmX13 wf_X13_27 rfl rfl rfl trivial e48 dX13_init_48 ?_
  refine ev_aload_n C (x := .ref o) rfl trivial dX13_init_51 ?_
  refine ev_bipush C (v := 8) dX13_init_52 (by decide) ?_
  obtain ⟨o54, h54, e54, hs⟩ := bP_at hs
  obtain ⟨c54, z54, hs⟩ := ck_at hs
  refine ev_newa C (atype := .int) (ty := .int) rfl wa_int (fun _ _ => rfl) e54 c54 z54 dX13_init_54 ?_
  obtain ⟨h56, e56, hs⟩ := aB hs
  refine ev_putF C (ci := 13) (k := 8) rfl wu_13 (by decide) tyX13 tyX13_ok nmX13 wf_X13_31 rfl rfl rfl trivial e56 dX13_init_56 ?_
  refine ev_aload_n C (x := .ref o) rfl trivial dX13_init_59 ?_
  refine ev_bipush C (v := 8) dX13_init_60 (by decide) ?_
  obtain ⟨o62, h62, e62, hs⟩ := bP_at hs
  obtain ⟨c62, z62, hs⟩ := ck_at hs
  refine ev_newa C (atype := .int) (ty := .int) rfl wa_int (fun _ _ => rfl) e62 c62 z62 dX13_init_62 ?_
  obtain ⟨h64, e64, hs⟩ := aB hs
  refine ev_putF C (ci := 13) (k := 9) rfl wu_13 (by decide) tyX13 tyX13_ok nmX13 wf_X13_34 rfl rfl rfl trivial e64 dX13_init_64 ?_
  refine ev_aload_n C (x := .ref o) rfl trivial dX13_init_67 ?_
  refine ev_bipush C (v := 8) dX13_init_68 (by decide) ?_
  obtain ⟨o70, h70, e70, hs⟩ := bP_at hs
  obtain ⟨c70, z70, hs⟩ := ck_at hs
  refine ev_newa C (atype := .int) (ty := .int) rfl wa_int (fun _ _ => rfl) e70 c70 z70 dX13_init_70 ?_
  obtain ⟨h72, e72, hs⟩ := aB hs
  refine ev_putF C (ci := 13) (k := 10) rfl wu_13 (by decide) tyX13 tyX13_ok nmX13 wf_X13_37 rfl rfl rfl trivial e72 dX13_init_72 ?_
  refine ev_aload_n C (x := .ref o) rfl trivial dX13_init_75 ?_
  refine ev_bipush C (v := 8) dX13_init_76 (by decide) ?_
  obtain ⟨o78, h78, e78, hs⟩ := bP_at hs
  obtain ⟨c78, z78, hs⟩ := ck_at hs
  refine ev_newa C (atype := .int) (ty := .int) rfl wa_int (fun _ _ => rfl) e78 c78 z78 dX13_init_78 ?_
  obtain ⟨h80, e80, hs⟩ := aB hs
  refine ev_putF C (ci := 13) (k := 11) rfl wu_13 (by decide) tyX13 tyX13_ok nmX13 wf_X13_40 rfl rfl rfl trivial e80 dX13_init_80 ?_
  refine ev_aload_n C (x := .ref o) rfl trivial dX13_init_83 ?_
  refine ev_sipush C (v := 400) dX13_init_84 (by decide) ?_
  obtain ⟨o87, h87, e87, hs⟩ := bP_at hs
  obtain ⟨c87, z87, hs⟩ := ck_at hs
  refine ev_newa C (atype := .int) (ty := .int) rfl wa_int (fun _ _ => rfl) e87 c87 z87 dX13_init_87 ?_
  obtain ⟨h89, e89, hs⟩ := aB hs
  refine ev_putF C (ci := 13) (k := 12) rfl wu_13 (by decide) tyX13 tyX13_ok nmX13 wf_X13_43 rfl rfl rfl trivial e89 dX13_init_89 ?_
  refine ev_aload_n C (x := .ref o) rfl trivial dX13_init_92 ?_
  refine ev_sipush C (v := 400) dX13_init_93 (by decide) ?_
  obtain ⟨o96, h96, e96, hs⟩ := bP_at hs
  obtain ⟨c96, z96, hs⟩ := ck_at hs
  refine ev_newa C (atype := .int) (ty := .int) rfl wa_int (fun _ _ => rfl) e96 c96 z96 dX13_init_96 ?_
  obtain ⟨hw9, rfl, rfl⟩ := wC_at hs
  have hs := hw9
  obtain ⟨h98, e98, hs⟩ := aB hs
  refine ev_putF C (ci := 13) (k := 13) rfl wu_13 (by decide) tyX13 tyX13_ok nmX13 wf_X13_46 rfl rfl rfl trivial e98 dX13_init_98 ?_
  cases hs
  exact ev_vret C rfl rfl (Nat.le_refl _) (Nat.le_refl _) rfl dX13_init_101
end
-- X13_clear
theorem dX13_clear_0 : decode cX13_clear 0 = .ok (.iconst 0, 1) := by decide +kernel
theorem dX13_clear_1 : decode cX13_clear 1 = .ok (.istore_n 1, 1) := by decide +kernel
theorem dX13_clear_2 : decode cX13_clear 2 = .ok (.iload_n 1, 1) := by decide +kernel
theorem dX13_clear_3 : decode cX13_clear 3 = .ok (.iconst 5, 1) := by decide +kernel
theorem dX13_clear_4 : decode cX13_clear 4 = .ok (.if_icmp .ge 16, 3) := by decide +kernel
theorem dX13_clear_7 : decode cX13_clear 7 = .ok (.aload_n 0, 1) := by decide +kernel
theorem dX13_clear_8 : decode cX13_clear 8 = .ok (.getfield 9, 3) := by decide +kernel
theorem dX13_clear_11 : decode cX13_clear 11 = .ok (.iload_n 1, 1) := by decide +kernel
theorem dX13_clear_12 : decode cX13_clear 12 = .ok (.iconst 0, 1) := by decide +kernel
theorem dX13_clear_13 : decode cX13_clear 13 = .ok (.iastore, 1) := by decide +kernel
theorem dX13_clear_14 : decode cX13_clear 14 = .ok (.iinc 1 1, 3) := by decide +kernel
theorem dX13_clear_17 : decode cX13_clear 17 = .ok (.goto (-15), 3) := by decide +kernel
theorem dX13_clear_20 : decode cX13_clear 20 = .ok (.aload_n 0, 1) := by decide +kernel
theorem dX13_clear_21 : decode cX13_clear 21 = .ok (.iconst 0, 1) := by decide +kernel
theorem dX13_clear_22 : decode cX13_clear 22 = .ok (.putfield 49, 3) := by decide +kernel
theorem dX13_clear_25 : decode cX13_clear 25 = .ok (.aload_n 0, 1) := by decide +kernel
theorem dX13_clear_26 : decode cX13_clear 26 = .ok (.iconst 0, 1) := by decide +kernel
theorem dX13_clear_27 : decode cX13_clear 27 = .ok (.putfield 53, 3) := by decide +kernel
theorem dX13_clear_30 : decode cX13_clear 30 = .ok (.return_, 1) := by decide +kernel
def s_X13_clear_2_b  (k2 : Nat → Int32 → aH → aO) (l0 : Nat) (l1 : Int32) (h : aH) : aO :=
  if 5 ≤ l1 then ((pF h (.ref l0) 13 6 (.int 0)).bind fun h22 => (pF h22 (.ref l0) 13 7 (.int 0)).bind fun h27 => some (.inl none, h27)) else ((gO h (.ref l0) 13 0).bind fun x8 => (stI h (.ref x8) l1 0).bind fun h13 => k2 l0 (l1 + 1) h13)
def s_X13_clear_2  (n : Nat) : Nat → Int32 → aH → aO := lpF (fun _ _ _ => none) (s_X13_clear_2_b ) n
def s_X13_clear (o : Nat) (h : aH) : aO :=
  s_X13_clear_2 FU o 0 h
section
variable {p : Program} {l : Launch} {e : Env} {s : State} {m : MethodId} {args : Array Value} {below : List Frame} {meth : Method} {c : Code} {D : va_G} {B0 : Nat} {X : Nat → Nat} {ws0 : va_W} {r : aR} {h' : aH} {mc ms : Nat}
theorem t_X13_clear_2_b (C : Cx p l s m args meth c B0 X RX13 "clear" cX13_clear 2 none [])   {k2 : Nat → Int32 → aH → aO} (K2 : ∀ (l0 : Nat) (l1 : Int32) (h : aH), k2 l0 l1 h = some (r, h') → Ev p l e { frames := 0, cells := mc, slots := ms, locals := 0 } s m args below meth c D B0 X ws0 r h' mc ms 2 mc ms 2 [some (.ref l0), some (.int l1)] [] h) {l0 : Nat} {l1 : Int32} {h : aH} (hs : s_X13_clear_2_b  k2 l0 l1 h = some (r, h')) : Ev p l e { frames := 0, cells := mc, slots := ms, locals := 0 } s m args below meth c D B0 X ws0 r h' mc ms 2 mc ms 2 [some (.ref l0), some (.int l1)] [] h := by
  unfold s_X13_clear_2_b at hs
  refine ev_iload_n C rfl dX13_clear_2 ?_
  refine ev_iconst C (v := 5) dX13_clear_3 (by decide) ?_
  refine ev_icmp_ge C (tgt := 20) (by decide) dX13_clear_4 (fun q4 => ?_) (fun q4 => ?_)
  · replace hs := (if_pos q4).symm.trans hs
    refine ev_aload_n C (x := .ref l0) rfl trivial dX13_clear_20 ?_
    refine ev_iconst C (v := 0) dX13_clear_21 (by decide) ?_
    obtain ⟨h22, e22, hs⟩ := aB hs
    refine ev_put C (ci := 13) (k := 6) rfl wu_13 (by decide) tyX13 tyX13_ok nmX13 wf_X13_49 rfl trivial e22 dX13_clear_22 ?_
    refine ev_aload_n C (x := .ref l0) rfl trivial dX13_clear_25 ?_
    refine ev_iconst C (v := 0) dX13_clear_26 (by decide) ?_
    obtain ⟨h27, e27, hs⟩ := aB hs
    refine ev_put C (ci := 13) (k := 7) rfl wu_13 (by decide) tyX13 tyX13_ok nmX13 wf_X13_53 rfl trivial e27 dX13_clear_27 ?_
    cases hs
    exact ev_vret C rfl rfl (Nat.le_refl _) (Nat.le_refl _) rfl dX13_clear_30
  · replace hs := (if_neg q4).symm.trans hs
    refine ev_aload_n C (x := .ref l0) rfl trivial dX13_clear_7 ?_
    obtain ⟨x8, e8, hs⟩ := aB hs
    refine ev_get C (ci := 13) (k := 0) rfl wu_13 (by decide) wf_X13_9 (gO_F e8) dX13_clear_8 ?_
    refine ev_iload_n C rfl dX13_clear_11 ?_
    refine ev_iconst C (v := 0) dX13_clear_12 (by decide) ?_
    obtain ⟨h13, e13, hs⟩ := aB hs
    refine ev_iast C e13 dX13_clear_13 ?_
    refine ev_iinc C (i := 1) (n := 1) (x := l1) (v := l1 + 1) rfl (congrArg (fun z => l1 + z) (show Int32.ofInt 1 = 1 by decide)) (by decide) dX13_clear_14 ?_
    refine ev_goto C (tgt := 2) (by decide) dX13_clear_17 ?_
    exact (K2 _ _ _ hs)
theorem t_X13_clear_2 (C : Cx p l s m args meth c B0 X RX13 "clear" cX13_clear 2 none [])   : ∀ (n : Nat) {l0 : Nat} {l1 : Int32} {h : aH} (hs : s_X13_clear_2  n l0 l1 h = some (r, h')), Ev p l e { frames := 0, cells := mc, slots := ms, locals := 0 } s m args below meth c D B0 X ws0 r h' mc ms 2 mc ms 2 [some (.ref l0), some (.int l1)] [] h
  | 0, _, _, _, hs => nomatch hs
  | n + 1, _, _, _, hs => t_X13_clear_2_b C  (k2 := s_X13_clear_2  n) (fun _ _ _ hs => t_X13_clear_2 C  n hs) hs
theorem hy_X13_clear : yX13_clear.cls ≠ "java/lang/invoke/MethodHandle" ∧ yX13_clear.cls ≠ "java/lang/invoke/VarHandle" ∧ (parseMethodDescriptor yX13_clear.desc).map (fun d => d.parameters.length) = some 0 := by decide +kernel
theorem T_X13_clear (o : Nat) (h : aH) (r : aR) (h' : aH) (hs : s_X13_clear o h = some (r, h')) : Mt yX13_clear (Cond.code yX13_clear cX13_clear 2 none :: aTB) 0 0 0 0 [.ref o] h r h' := by
  unfold s_X13_clear at hs
  refine Mt_of (k := 1) (by decide) rfl (fun p l e s m args below meth c D B0 X ws0 C => ?_)
  show Ev p l e { frames := 0, cells := 0, slots := 0, locals := 0 } s m args below meth c D B0 X ws0 r h' 0 0 2 0 0 0 [some (.ref o), none] [] h
  refine ev_iconst C (v := 0) dX13_clear_0 (by decide) ?_
  refine ev_istore_n C (by decide) dX13_clear_1 ?_
  exact (t_X13_clear_2 C  FU hs)
end
-- X13_put
theorem dX13_put_0 : decode cX13_put 0 = .ok (.aload_n 0, 1) := by decide +kernel
theorem dX13_put_1 : decode cX13_put 1 = .ok (.getfield 43, 3) := by decide +kernel
theorem dX13_put_4 : decode cX13_put 4 = .ok (.aload_n 0, 1) := by decide +kernel
theorem dX13_put_5 : decode cX13_put 5 = .ok (.getfield 53, 3) := by decide +kernel
theorem dX13_put_8 : decode cX13_put 8 = .ok (.iload_n 1, 1) := by decide +kernel
theorem dX13_put_9 : decode cX13_put 9 = .ok (.iastore, 1) := by decide +kernel
theorem dX13_put_10 : decode cX13_put 10 = .ok (.aload_n 0, 1) := by decide +kernel
theorem dX13_put_11 : decode cX13_put 11 = .ok (.getfield 46, 3) := by decide +kernel
theorem dX13_put_14 : decode cX13_put 14 = .ok (.aload_n 0, 1) := by decide +kernel
theorem dX13_put_15 : decode cX13_put 15 = .ok (.getfield 53, 3) := by decide +kernel
theorem dX13_put_18 : decode cX13_put 18 = .ok (.iload_n 2, 1) := by decide +kernel
theorem dX13_put_19 : decode cX13_put 19 = .ok (.iastore, 1) := by decide +kernel
theorem dX13_put_20 : decode cX13_put 20 = .ok (.aload_n 0, 1) := by decide +kernel
theorem dX13_put_21 : decode cX13_put 21 = .ok (.dup, 1) := by decide +kernel
theorem dX13_put_22 : decode cX13_put 22 = .ok (.getfield 53, 3) := by decide +kernel
theorem dX13_put_25 : decode cX13_put 25 = .ok (.iconst 1, 1) := by decide +kernel
theorem dX13_put_26 : decode cX13_put 26 = .ok (.iadd, 1) := by decide +kernel
theorem dX13_put_27 : decode cX13_put 27 = .ok (.putfield 53, 3) := by decide +kernel
theorem dX13_put_30 : decode cX13_put 30 = .ok (.return_, 1) := by decide +kernel
def s_X13_put (o : Nat) (a1 : Int32) (a2 : Int32) (h : aH) : aO :=
  (gO h (.ref o) 13 12).bind fun x1 => (gI h (.ref o) 13 7).bind fun x5 => (stI h (.ref x1) x5 a1).bind fun h9 => (gO h9 (.ref o) 13 13).bind fun x11 => (gI h9 (.ref o) 13 7).bind fun x15 => (stI h9 (.ref x11) x15 a2).bind fun h19 => (gI h19 (.ref o) 13 7).bind fun x22 => (pF h19 (.ref o) 13 7 (.int (x22 + 1))).bind fun h27 => some (.inl none, h27)
section
variable {p : Program} {l : Launch} {e : Env} {s : State} {m : MethodId} {args : Array Value} {below : List Frame} {meth : Method} {c : Code} {D : va_G} {B0 : Nat} {X : Nat → Nat} {ws0 : va_W} {r : aR} {h' : aH} {mc ms : Nat}
theorem hy_X13_put : yX13_put.cls ≠ "java/lang/invoke/MethodHandle" ∧ yX13_put.cls ≠ "java/lang/invoke/VarHandle" ∧ (parseMethodDescriptor yX13_put.desc).map (fun d => d.parameters.length) = some 2 := by decide +kernel
theorem T_X13_put (o : Nat) (a1 : Int32) (a2 : Int32) (h : aH) (r : aR) (h' : aH) (hs : s_X13_put o a1 a2 h = some (r, h')) : Mt yX13_put (Cond.code yX13_put cX13_put 3 none :: aTB) 0 0 0 0 [.ref o, .int a1, .int a2] h r h' := by
  unfold s_X13_put at hs
  refine Mt_of (k := 0) (by decide) rfl (fun p l e s m args below meth c D B0 X ws0 C => ?_)
  show Ev p l e { frames := 0, cells := 0, slots := 0, locals := 0 } s m args below meth c D B0 X ws0 r h' 0 0 3 0 0 0 [some (.ref o), some (.int a1), some (.int a2)] [] h
  refine ev_aload_n C (x := .ref o) rfl trivial dX13_put_0 ?_
  obtain ⟨x1, e1, hs⟩ := aB hs
  refine ev_get C (ci := 13) (k := 12) rfl wu_13 (by decide) wf_X13_43 (gO_F e1) dX13_put_1 ?_
  refine ev_aload_n C (x := .ref o) rfl trivial dX13_put_4 ?_
  obtain ⟨x5, e5, hs⟩ := aB hs
  refine ev_get C (ci := 13) (k := 7) rfl wu_13 (by decide) wf_X13_53 (gI_F e5) dX13_put_5 ?_
  refine ev_iload_n C rfl dX13_put_8 ?_
  obtain ⟨h9, e9, hs⟩ := aB hs
  refine ev_iast C e9 dX13_put_9 ?_
  refine ev_aload_n C (x := .ref o) rfl trivial dX13_put_10 ?_
  obtain ⟨x11, e11, hs⟩ := aB hs
  refine ev_get C (ci := 13) (k := 13) rfl wu_13 (by decide) wf_X13_46 (gO_F e11) dX13_put_11 ?_
  refine ev_aload_n C (x := .ref o) rfl trivial dX13_put_14 ?_
  obtain ⟨x15, e15, hs⟩ := aB hs
  refine ev_get C (ci := 13) (k := 7) rfl wu_13 (by decide) wf_X13_53 (gI_F e15) dX13_put_15 ?_
  refine ev_iload_n C rfl dX13_put_18 ?_
  obtain ⟨h19, e19, hs⟩ := aB hs
  refine ev_iast C e19 dX13_put_19 ?_
  refine ev_aload_n C (x := .ref o) rfl trivial dX13_put_20 ?_
  refine ev_dup C rfl dX13_put_21 ?_
  obtain ⟨x22, e22, hs⟩ := aB hs
  refine ev_get C (ci := 13) (k := 7) rfl wu_13 (by decide) wf_X13_53 (gI_F e22) dX13_put_22 ?_
  refine ev_iconst C (v := 1) dX13_put_25 (by decide) ?_
  refine ev_iadd C dX13_put_26 ?_
  obtain ⟨h27, e27, hs⟩ := aB hs
  refine ev_put C (ci := 13) (k := 7) rfl wu_13 (by decide) tyX13 tyX13_ok nmX13 wf_X13_53 rfl trivial e27 dX13_put_27 ?_
  cases hs
  exact ev_vret C rfl rfl (Nat.le_refl _) (Nat.le_refl _) rfl dX13_put_30
end
-- X13_size
theorem dX13_size_0 : decode cX13_size 0 = .ok (.aload_n 0, 1) := by decide +kernel
theorem dX13_size_1 : decode cX13_size 1 = .ok (.getfield 18, 3) := by decide +kernel
theorem dX13_size_4 : decode cX13_size 4 = .ok (.iload_n 1, 1) := by decide +kernel
theorem dX13_size_5 : decode cX13_size 5 = .ok (.iaload, 1) := by decide +kernel
theorem dX13_size_6 : decode cX13_size 6 = .ok (.aload_n 0, 1) := by decide +kernel
theorem dX13_size_7 : decode cX13_size 7 = .ok (.getfield 15, 3) := by decide +kernel
theorem dX13_size_10 : decode cX13_size 10 = .ok (.iload_n 1, 1) := by decide +kernel
theorem dX13_size_11 : decode cX13_size 11 = .ok (.iaload, 1) := by decide +kernel
theorem dX13_size_12 : decode cX13_size 12 = .ok (.isub, 1) := by decide +kernel
theorem dX13_size_13 : decode cX13_size 13 = .ok (.iconst 1, 1) := by decide +kernel
theorem dX13_size_14 : decode cX13_size 14 = .ok (.iadd, 1) := by decide +kernel
theorem dX13_size_15 : decode cX13_size 15 = .ok (.ireturn, 1) := by decide +kernel
def s_X13_size (o : Nat) (a1 : Int32) (h : aH) : aO :=
  (gO h (.ref o) 13 2).bind fun x1 => (ldI .int h (.ref x1) a1).bind fun x5 => (gO h (.ref o) 13 1).bind fun x7 => (ldI .int h (.ref x7) a1).bind fun x11 => some (.inl (some (.int ((x5 - x11) + 1))), h)
section
variable {p : Program} {l : Launch} {e : Env} {s : State} {m : MethodId} {args : Array Value} {below : List Frame} {meth : Method} {c : Code} {D : va_G} {B0 : Nat} {X : Nat → Nat} {ws0 : va_W} {r : aR} {h' : aH} {mc ms : Nat}
theorem hy_X13_size : yX13_size.cls ≠ "java/lang/invoke/MethodHandle" ∧ yX13_size.cls ≠ "java/lang/invoke/VarHandle" ∧ (parseMethodDescriptor yX13_size.desc).map (fun d => d.parameters.length) = some 1 := by decide +kernel
theorem T_X13_size (o : Nat) (a1 : Int32) (h : aH) (r : aR) (h' : aH) (hs : s_X13_size o a1 h = some (r, h')) : Mt yX13_size (Cond.code yX13_size cX13_size 2 (some .int) :: aTB) 0 0 0 0 [.ref o, .int a1] h r h' := by
  unfold s_X13_size at hs
  refine Mt_of (k := 0) (by decide) rfl (fun p l e s m args below meth c D B0 X ws0 C => ?_)
  show Ev p l e { frames := 0, cells := 0, slots := 0, locals := 0 } s m args below meth c D B0 X ws0 r h' 0 0 2 0 0 0 [some (.ref o), some (.int a1)] [] h
  refine ev_aload_n C (x := .ref o) rfl trivial dX13_size_0 ?_
  obtain ⟨x1, e1, hs⟩ := aB hs
  refine ev_get C (ci := 13) (k := 2) rfl wu_13 (by decide) wf_X13_18 (gO_F e1) dX13_size_1 ?_
  refine ev_iload_n C rfl dX13_size_4 ?_
  obtain ⟨x5, e5, hs⟩ := aB hs
  refine ev_iald C e5 dX13_size_5 ?_
  refine ev_aload_n C (x := .ref o) rfl trivial dX13_size_6 ?_
  obtain ⟨x7, e7, hs⟩ := aB hs
  refine ev_get C (ci := 13) (k := 1) rfl wu_13 (by decide) wf_X13_15 (gO_F e7) dX13_size_7 ?_
  refine ev_iload_n C rfl dX13_size_10 ?_
  obtain ⟨x11, e11, hs⟩ := aB hs
  refine ev_iald C e11 dX13_size_11 ?_
  refine ev_isub C dX13_size_12 ?_
  refine ev_iconst C (v := 1) dX13_size_13 (by decide) ?_
  refine ev_iadd C dX13_size_14 ?_
  cases hs
  exact ev_iret C rfl rfl (Nat.le_refl _) (Nat.le_refl _) rfl dX13_size_15
end
-- X14_init
theorem dX14_init_0 : decode cX14_init 0 = .ok (.aload_n 0, 1) := by decide +kernel
theorem dX14_init_1 : decode cX14_init 1 = .ok (.invokespecial 1, 3) := by decide +kernel
theorem dX14_init_4 : decode cX14_init 4 = .ok (.aload_n 0, 1) := by decide +kernel
theorem dX14_init_5 : decode cX14_init 5 = .ok (.iconst (-1), 1) := by decide +kernel
theorem dX14_init_6 : decode cX14_init 6 = .ok (.putfield 9, 3) := by decide +kernel
theorem dX14_init_9 : decode cX14_init 9 = .ok (.aload_n 0, 1) := by decide +kernel
theorem dX14_init_10 : decode cX14_init 10 = .ok (.new 13, 3) := by decide +kernel
theorem dX14_init_13 : decode cX14_init 13 = .ok (.dup, 1) := by decide +kernel
theorem dX14_init_14 : decode cX14_init 14 = .ok (.invokespecial 15, 3) := by decide +kernel
theorem dX14_init_17 : decode cX14_init 17 = .ok (.putfield 16, 3) := by decide +kernel
theorem dX14_init_20 : decode cX14_init 20 = .ok (.aload_n 0, 1) := by decide +kernel
theorem dX14_init_21 : decode cX14_init 21 = .ok (.new 20, 3) := by decide +kernel
theorem dX14_init_24 : decode cX14_init 24 = .ok (.dup, 1) := by decide +kernel
theorem dX14_init_25 : decode cX14_init 25 = .ok (.invokespecial 22, 3) := by decide +kernel
theorem dX14_init_28 : decode cX14_init 28 = .ok (.putfield 23, 3) := by decide +kernel
theorem dX14_init_31 : decode cX14_init 31 = .ok (.aload_n 0, 1) := by decide +kernel
theorem dX14_init_32 : decode cX14_init 32 = .ok (.sipush 400, 3) := by decide +kernel
theorem dX14_init_35 : decode cX14_init 35 = .ok (.newarray .byte, 2) := by decide +kernel
theorem dX14_init_37 : decode cX14_init 37 = .ok (.putfield 27, 3) := by decide +kernel
theorem dX14_init_40 : decode cX14_init 40 = .ok (.aload_n 0, 1) := by decide +kernel
theorem dX14_init_41 : decode cX14_init 41 = .ok (.new 13, 3) := by decide +kernel
theorem dX14_init_44 : decode cX14_init 44 = .ok (.dup, 1) := by decide +kernel
theorem dX14_init_45 : decode cX14_init 45 = .ok (.invokespecial 15, 3) := by decide +kernel
theorem dX14_init_48 : decode cX14_init 48 = .ok (.putfield 31, 3) := by decide +kernel
theorem dX14_init_51 : decode cX14_init 51 = .ok (.aload_n 0, 1) := by decide +kernel
theorem dX14_init_52 : decode cX14_init 52 = .ok (.new 13, 3) := by decide +kernel
theorem dX14_init_55 : decode cX14_init 55 = .ok (.dup, 1) := by decide +kernel
theorem dX14_init_56 : decode cX14_init 56 = .ok (.invokespecial 15, 3) := by decide +kernel
theorem dX14_init_59 : decode cX14_init 59 = .ok (.putfield 34, 3) := by decide +kernel
theorem dX14_init_62 : decode cX14_init 62 = .ok (.aload_n 0, 1) := by decide +kernel
theorem dX14_init_63 : decode cX14_init 63 = .ok (.sipush 400, 3) := by decide +kernel
theorem dX14_init_66 : decode cX14_init 66 = .ok (.newarray .boolean, 2) := by decide +kernel
theorem dX14_init_68 : decode cX14_init 68 = .ok (.putfield 37, 3) := by decide +kernel
theorem dX14_init_71 : decode cX14_init 71 = .ok (.aload_n 0, 1) := by decide +kernel
theorem dX14_init_72 : decode cX14_init 72 = .ok (.sipush 400, 3) := by decide +kernel
theorem dX14_init_75 : decode cX14_init 75 = .ok (.newarray .boolean, 2) := by decide +kernel
theorem dX14_init_77 : decode cX14_init 77 = .ok (.putfield 41, 3) := by decide +kernel
theorem dX14_init_80 : decode cX14_init 80 = .ok (.aload_n 0, 1) := by decide +kernel
theorem dX14_init_81 : decode cX14_init 81 = .ok (.bipush 11, 2) := by decide +kernel
theorem dX14_init_83 : decode cX14_init 83 = .ok (.newarray .int, 2) := by decide +kernel
theorem dX14_init_85 : decode cX14_init 85 = .ok (.putfield 44, 3) := by decide +kernel
theorem dX14_init_88 : decode cX14_init 88 = .ok (.aload_n 0, 1) := by decide +kernel
theorem dX14_init_89 : decode cX14_init 89 = .ok (.sipush 400, 3) := by decide +kernel
theorem dX14_init_92 : decode cX14_init 92 = .ok (.newarray .int, 2) := by decide +kernel
theorem dX14_init_94 : decode cX14_init 94 = .ok (.putfield 48, 3) := by decide +kernel
theorem dX14_init_97 : decode cX14_init 97 = .ok (.aload_n 0, 1) := by decide +kernel
theorem dX14_init_98 : decode cX14_init 98 = .ok (.sipush 400, 3) := by decide +kernel
theorem dX14_init_101 : decode cX14_init 101 = .ok (.newarray .int, 2) := by decide +kernel
theorem dX14_init_103 : decode cX14_init 103 = .ok (.putfield 51, 3) := by decide +kernel
theorem dX14_init_106 : decode cX14_init 106 = .ok (.aload_n 0, 1) := by decide +kernel
theorem dX14_init_107 : decode cX14_init 107 = .ok (.ldc 54, 2) := by decide +kernel
theorem dX14_init_109 : decode cX14_init 109 = .ok (.newarray .short, 2) := by decide +kernel
theorem dX14_init_111 : decode cX14_init 111 = .ok (.putfield 55, 3) := by decide +kernel
theorem dX14_init_114 : decode cX14_init 114 = .ok (.aload_n 0, 1) := by decide +kernel
theorem dX14_init_115 : decode cX14_init 115 = .ok (.ldc 59, 2) := by decide +kernel
theorem dX14_init_117 : decode cX14_init 117 = .ok (.newarray .int, 2) := by decide +kernel
theorem dX14_init_119 : decode cX14_init 119 = .ok (.putfield 60, 3) := by decide +kernel
theorem dX14_init_122 : decode cX14_init 122 = .ok (.aload_n 0, 1) := by decide +kernel
theorem dX14_init_123 : decode cX14_init 123 = .ok (.bipush 13, 2) := by decide +kernel
theorem dX14_init_125 : decode cX14_init 125 = .ok (.newarray .int, 2) := by decide +kernel
theorem dX14_init_127 : decode cX14_init 127 = .ok (.putfield 63, 3) := by decide +kernel
theorem dX14_init_130 : decode cX14_init 130 = .ok (.aload_n 0, 1) := by decide +kernel
theorem dX14_init_131 : decode cX14_init 131 = .ok (.bipush 13, 2) := by decide +kernel
theorem dX14_init_133 : decode cX14_init 133 = .ok (.newarray .int, 2) := by decide +kernel
theorem dX14_init_135 : decode cX14_init 135 = .ok (.putfield 66, 3) := by decide +kernel
theorem dX14_init_138 : decode cX14_init 138 = .ok (.aload_n 0, 1) := by decide +kernel
theorem dX14_init_139 : decode cX14_init 139 = .ok (.sipush 400, 3) := by decide +kernel
theorem dX14_init_142 : decode cX14_init 142 = .ok (.newarray .int, 2) := by decide +kernel
theorem dX14_init_144 : decode cX14_init 144 = .ok (.putfield 69, 3) := by decide +kernel
theorem dX14_init_147 : decode cX14_init 147 = .ok (.aload_n 0, 1) := by decide +kernel
theorem dX14_init_148 : decode cX14_init 148 = .ok (.bipush 39, 2) := by decide +kernel
theorem dX14_init_150 : decode cX14_init 150 = .ok (.newarray .int, 2) := by decide +kernel
theorem dX14_init_152 : decode cX14_init 152 = .ok (.putfield 72, 3) := by decide +kernel
theorem dX14_init_155 : decode cX14_init 155 = .ok (.aload_n 0, 1) := by decide +kernel
theorem dX14_init_156 : decode cX14_init 156 = .ok (.sipush 400, 3) := by decide +kernel
theorem dX14_init_159 : decode cX14_init 159 = .ok (.newarray .int, 2) := by decide +kernel
theorem dX14_init_161 : decode cX14_init 161 = .ok (.putfield 75, 3) := by decide +kernel
theorem dX14_init_164 : decode cX14_init 164 = .ok (.aload_n 0, 1) := by decide +kernel
theorem dX14_init_165 : decode cX14_init 165 = .ok (.sipush 400, 3) := by decide +kernel
theorem dX14_init_168 : decode cX14_init 168 = .ok (.newarray .int, 2) := by decide +kernel
theorem dX14_init_170 : decode cX14_init 170 = .ok (.putfield 78, 3) := by decide +kernel
theorem dX14_init_173 : decode cX14_init 173 = .ok (.aload_n 0, 1) := by decide +kernel
theorem dX14_init_174 : decode cX14_init 174 = .ok (.sipush 8400, 3) := by decide +kernel
theorem dX14_init_177 : decode cX14_init 177 = .ok (.newarray .int, 2) := by decide +kernel
theorem dX14_init_179 : decode cX14_init 179 = .ok (.putfield 81, 3) := by decide +kernel
theorem dX14_init_182 : decode cX14_init 182 = .ok (.aload_n 0, 1) := by decide +kernel
theorem dX14_init_183 : decode cX14_init 183 = .ok (.sipush 8400, 3) := by decide +kernel
theorem dX14_init_186 : decode cX14_init 186 = .ok (.newarray .int, 2) := by decide +kernel
theorem dX14_init_188 : decode cX14_init 188 = .ok (.putfield 84, 3) := by decide +kernel
theorem dX14_init_191 : decode cX14_init 191 = .ok (.aload_n 0, 1) := by decide +kernel
theorem dX14_init_192 : decode cX14_init 192 = .ok (.sipush 3600, 3) := by decide +kernel
theorem dX14_init_195 : decode cX14_init 195 = .ok (.newarray .boolean, 2) := by decide +kernel
theorem dX14_init_197 : decode cX14_init 197 = .ok (.putfield 87, 3) := by decide +kernel
theorem dX14_init_200 : decode cX14_init 200 = .ok (.aload_n 0, 1) := by decide +kernel
theorem dX14_init_201 : decode cX14_init 201 = .ok (.bipush 7, 2) := by decide +kernel
theorem dX14_init_203 : decode cX14_init 203 = .ok (.newarray .long, 2) := by decide +kernel
theorem dX14_init_205 : decode cX14_init 205 = .ok (.putfield 90, 3) := by decide +kernel
theorem dX14_init_208 : decode cX14_init 208 = .ok (.aload_n 0, 1) := by decide +kernel
theorem dX14_init_209 : decode cX14_init 209 = .ok (.bipush 9, 2) := by decide +kernel
theorem dX14_init_211 : decode cX14_init 211 = .ok (.newarray .int, 2) := by decide +kernel
theorem dX14_init_213 : decode cX14_init 213 = .ok (.putfield 94, 3) := by decide +kernel
theorem dX14_init_216 : decode cX14_init 216 = .ok (.aload_n 0, 1) := by decide +kernel
theorem dX14_init_217 : decode cX14_init 217 = .ok (.bipush 6, 2) := by decide +kernel
theorem dX14_init_219 : decode cX14_init 219 = .ok (.newarray .int, 2) := by decide +kernel
theorem dX14_init_221 : decode cX14_init 221 = .ok (.putfield 97, 3) := by decide +kernel
theorem dX14_init_224 : decode cX14_init 224 = .ok (.aload_n 0, 1) := by decide +kernel
theorem dX14_init_225 : decode cX14_init 225 = .ok (.bipush 6, 2) := by decide +kernel
theorem dX14_init_227 : decode cX14_init 227 = .ok (.newarray .int, 2) := by decide +kernel
theorem dX14_init_229 : decode cX14_init 229 = .ok (.putfield 100, 3) := by decide +kernel
theorem dX14_init_232 : decode cX14_init 232 = .ok (.aload_n 0, 1) := by decide +kernel
theorem dX14_init_233 : decode cX14_init 233 = .ok (.sipush 400, 3) := by decide +kernel
theorem dX14_init_236 : decode cX14_init 236 = .ok (.newarray .int, 2) := by decide +kernel
theorem dX14_init_238 : decode cX14_init 238 = .ok (.putfield 103, 3) := by decide +kernel
theorem dX14_init_241 : decode cX14_init 241 = .ok (.aload_n 0, 1) := by decide +kernel
theorem dX14_init_242 : decode cX14_init 242 = .ok (.sipush 400, 3) := by decide +kernel
theorem dX14_init_245 : decode cX14_init 245 = .ok (.newarray .long, 2) := by decide +kernel
theorem dX14_init_247 : decode cX14_init 247 = .ok (.putfield 106, 3) := by decide +kernel
theorem dX14_init_250 : decode cX14_init 250 = .ok (.aload_n 0, 1) := by decide +kernel
theorem dX14_init_251 : decode cX14_init 251 = .ok (.bipush 18, 2) := by decide +kernel
theorem dX14_init_253 : decode cX14_init 253 = .ok (.newarray .long, 2) := by decide +kernel
theorem dX14_init_255 : decode cX14_init 255 = .ok (.putfield 109, 3) := by decide +kernel
theorem dX14_init_258 : decode cX14_init 258 = .ok (.aload_n 0, 1) := by decide +kernel
theorem dX14_init_259 : decode cX14_init 259 = .ok (.iconst 3, 1) := by decide +kernel
theorem dX14_init_260 : decode cX14_init 260 = .ok (.newarray .long, 2) := by decide +kernel
theorem dX14_init_262 : decode cX14_init 262 = .ok (.putfield 112, 3) := by decide +kernel
theorem dX14_init_265 : decode cX14_init 265 = .ok (.aload_n 0, 1) := by decide +kernel
theorem dX14_init_266 : decode cX14_init 266 = .ok (.iconst 3, 1) := by decide +kernel
theorem dX14_init_267 : decode cX14_init 267 = .ok (.newarray .long, 2) := by decide +kernel
theorem dX14_init_269 : decode cX14_init 269 = .ok (.putfield 115, 3) := by decide +kernel
theorem dX14_init_272 : decode cX14_init 272 = .ok (.aload_n 0, 1) := by decide +kernel
theorem dX14_init_273 : decode cX14_init 273 = .ok (.bipush 9, 2) := by decide +kernel
theorem dX14_init_275 : decode cX14_init 275 = .ok (.newarray .long, 2) := by decide +kernel
theorem dX14_init_277 : decode cX14_init 277 = .ok (.putfield 118, 3) := by decide +kernel
theorem dX14_init_280 : decode cX14_init 280 = .ok (.aload_n 0, 1) := by decide +kernel
theorem dX14_init_281 : decode cX14_init 281 = .ok (.bipush 9, 2) := by decide +kernel
theorem dX14_init_283 : decode cX14_init 283 = .ok (.newarray .long, 2) := by decide +kernel
theorem dX14_init_285 : decode cX14_init 285 = .ok (.putfield 121, 3) := by decide +kernel
theorem dX14_init_288 : decode cX14_init 288 = .ok (.aload_n 0, 1) := by decide +kernel
theorem dX14_init_289 : decode cX14_init 289 = .ok (.bipush 9, 2) := by decide +kernel
theorem dX14_init_291 : decode cX14_init 291 = .ok (.newarray .long, 2) := by decide +kernel
theorem dX14_init_293 : decode cX14_init 293 = .ok (.putfield 124, 3) := by decide +kernel
theorem dX14_init_296 : decode cX14_init 296 = .ok (.aload_n 0, 1) := by decide +kernel
theorem dX14_init_297 : decode cX14_init 297 = .ok (.iconst 4, 1) := by decide +kernel
theorem dX14_init_298 : decode cX14_init 298 = .ok (.newarray .long, 2) := by decide +kernel
theorem dX14_init_300 : decode cX14_init 300 = .ok (.putfield 127, 3) := by decide +kernel
theorem dX14_init_303 : decode cX14_init 303 = .ok (.aload_n 0, 1) := by decide +kernel
theorem dX14_init_304 : decode cX14_init 304 = .ok (.bipush 31, 2) := by decide +kernel
theorem dX14_init_306 : decode cX14_init 306 = .ok (.newarray .int, 2) := by decide +kernel
theorem dX14_init_308 : decode cX14_init 308 = .ok (.putfield 130, 3) := by decide +kernel
theorem dX14_init_311 : decode cX14_init 311 = .ok (.aload_n 0, 1) := by decide +kernel
theorem dX14_init_312 : decode cX14_init 312 = .ok (.bipush 62, 2) := by decide +kernel
theorem dX14_init_314 : decode cX14_init 314 = .ok (.newarray .int, 2) := by decide +kernel
theorem dX14_init_316 : decode cX14_init 316 = .ok (.putfield 133, 3) := by decide +kernel
theorem dX14_init_319 : decode cX14_init 319 = .ok (.aload_n 0, 1) := by decide +kernel
theorem dX14_init_320 : decode cX14_init 320 = .ok (.bipush 62, 2) := by decide +kernel
theorem dX14_init_322 : decode cX14_init 322 = .ok (.newarray .int, 2) := by decide +kernel
theorem dX14_init_324 : decode cX14_init 324 = .ok (.putfield 136, 3) := by decide +kernel
theorem dX14_init_327 : decode cX14_init 327 = .ok (.aload_n 0, 1) := by decide +kernel
theorem dX14_init_328 : decode cX14_init 328 = .ok (.sipush 400, 3) := by decide +kernel
theorem dX14_init_331 : decode cX14_init 331 = .ok (.newarray .boolean, 2) := by decide +kernel
theorem dX14_init_333 : decode cX14_init 333 = .ok (.putfield 139, 3) := by decide +kernel
theorem dX14_init_336 : decode cX14_init 336 = .ok (.aload_n 0, 1) := by decide +kernel
theorem dX14_init_337 : decode cX14_init 337 = .ok (.sipush 400, 3) := by decide +kernel
theorem dX14_init_340 : decode cX14_init 340 = .ok (.newarray .boolean, 2) := by decide +kernel
theorem dX14_init_342 : decode cX14_init 342 = .ok (.putfield 142, 3) := by decide +kernel
theorem dX14_init_345 : decode cX14_init 345 = .ok (.aload_n 0, 1) := by decide +kernel
theorem dX14_init_346 : decode cX14_init 346 = .ok (.sipush 400, 3) := by decide +kernel
theorem dX14_init_349 : decode cX14_init 349 = .ok (.newarray .boolean, 2) := by decide +kernel
theorem dX14_init_351 : decode cX14_init 351 = .ok (.putfield 145, 3) := by decide +kernel
theorem dX14_init_354 : decode cX14_init 354 = .ok (.aload_n 0, 1) := by decide +kernel
theorem dX14_init_355 : decode cX14_init 355 = .ok (.iconst 3, 1) := by decide +kernel
theorem dX14_init_356 : decode cX14_init 356 = .ok (.newarray .int, 2) := by decide +kernel
theorem dX14_init_358 : decode cX14_init 358 = .ok (.putfield 148, 3) := by decide +kernel
theorem dX14_init_361 : decode cX14_init 361 = .ok (.aload_n 0, 1) := by decide +kernel
theorem dX14_init_362 : decode cX14_init 362 = .ok (.sipush 400, 3) := by decide +kernel
theorem dX14_init_365 : decode cX14_init 365 = .ok (.newarray .int, 2) := by decide +kernel
theorem dX14_init_367 : decode cX14_init 367 = .ok (.putfield 151, 3) := by decide +kernel
theorem dX14_init_370 : decode cX14_init 370 = .ok (.return_, 1) := by decide +kernel
def s_X14_init (o : Nat) (h : aH) : aP :=
  (pF h (.ref o) 14 2 (.int (-1))).bind fun h6 => bP (nwO dfX13 13 h6) fun o10 h10 => ck (0 + 1) (0 + 14) (dN (s_X13_init o10 h10) fun h14 n14 y14 => ck (0 + 1 + n14) (0 + 14 + y14) ((pF h14 (.ref o) 14 5 (.ref o10)).bind fun h17 => bP (nwO dfX12 12 h17) fun o21 h21 => ck (0 + 1 + n14 + 1) (0 + 14 + y14 + 8) (cN (s_X12_init o21 h21) fun h25 => ck (0 + 1 + n14 + 1) (0 + 14 + y14 + 8) ((pF h25 (.ref o) 14 7 (.ref o21)).bind fun h28 => bP (nwA .byte h28 400) fun o35 h35 => ck (0 + 1 + n14 + 1 + 1) (0 + 14 + y14 + 8 + Int32.toNatClampNeg 400) ((pF h35 (.ref o) 14 8 (.ref o35)).bind fun h37 => bP (nwO dfX13 13 h37) fun o41 h41 => ck (0 + 1 + n14 + 1 + 1 + 1) (0 + 14 + y14 + 8 + Int32.toNatClampNeg 400 + 14) (dN (s_X13_init o41 h41) fun h45 n45 y45 => ck (0 + 1 + n14 + 1 + 1 + 1 + n45) (0 + 14 + y14 + 8 + Int32.toNatClampNeg 400 + 14 + y45) ((pF h45 (.ref o) 14 19 (.ref o41)).bind fun h48 => bP (nwO dfX13 13 h48) fun o52 h52 => ck (0 + 1 + n14 + 1 + 1 + 1 + n45 + 1) (0 + 14 + y14 + 8 + Int32.toNatClampNeg 400 + 14 + y45 + 14) (dN (s_X13_init o52 h52) fun h56 n56 y56 => ck (0 + 1 + n14 + 1 + 1 + 1 + n45 + 1 + n56) (0 + 14 + y14 + 8 + Int32.toNatClampNeg 400 + 14 + y45 + 14 + y56) ((pF h56 (.ref o) 14 26 (.ref o52)).bind fun h59 => bP (nwA .boolean h59 400) fun o66 h66 => ck (0 + 1 + n14 + 1 + 1 + 1 + n45 + 1 + n56 + 1) (0 + 14 + y14 + 8 + Int32.toNatClampNeg 400 + 14 + y45 + 14 + y56 + Int32.toNatClampNeg 400) ((pF h66 (.ref o) 14 27 (.ref o66)).bind fun h68 => bP (nwA .boolean h68 400) fun o75 h75 => ck (0 + 1 + n14 + 1 + 1 + 1 + n45 + 1 + n56 + 1 + 1) (0 + 14 + y14 + 8 + Int32.toNatClampNeg 400 + 14 + y45 + 14 + y56 + Int32.toNatClampNeg 400 + Int32.toNatClampNeg 400) ((pF h75 (.ref o) 14 28 (.ref o75)).bind fun h77 => bP (nwA .int h77 11) fun o83 h83 => ck (0 + 1 + n14 + 1 + 1 + 1 + n45 + 1 + n56 + 1 + 1 + 1) (0 + 14 + y14 + 8 + Int32.toNatClampNeg 400 + 14 + y45 + 14 + y56 + Int32.toNatClampNeg 400 + Int32.toNatClampNeg 400 + Int32.toNatClampNeg 11) ((pF h83 (.ref o) 14 29 (.ref o83)).bind fun h85 => bP (nwA .int h85 400) fun o92 h92 => ck (0 + 1 + n14 + 1 + 1 + 1 + n45 + 1 + n56 + 1 + 1 + 1 + 1) (0 + 14 + y14 + 8 + Int32.toNatClampNeg 400 + 14 + y45 + 14 + y56 + Int32.toNatClampNeg 400 + Int32.toNatClampNeg 400 + Int32.toNatClampNeg 11 + Int32.toNatClampNeg 400) ((pF h92 (.ref o) 14 30 (.ref o92)).bind fun h94 => bP (nwA .int h94 400) fun o101 h101 => ck (0 + 1 + n14 + 1 + 1 + 1 + n45 + 1 + n56 + 1 + 1 + 1 + 1 + 1) (0 + 14 + y14 + 8 + Int32.toNatClampNeg 400 + 14 + y45 + 14 + y56 + Int32.toNatClampNeg 400 + Int32.toNatClampNeg 400 + Int32.toNatClampNeg 11 + Int32.toNatClampNeg 400 + Int32.toNatClampNeg 400) ((pF h101 (.ref o) 14 31 (.ref o101)).bind fun h103 => bP (nwA .short h103 97200) fun o109 h109 => ck (0 + 1 + n14 + 1 + 1 + 1 + n45 + 1 + n56 + 1 + 1 + 1 + 1 + 1 + 1) (0 + 14 + y14 + 8 + Int32.toNatClampNeg 400 + 14 + y45 + 14 + y56 + Int32.toNatClampNeg 400 + Int32.toNatClampNeg 400 + Int32.toNatClampNeg 11 + Int32.toNatClampNeg 400 + Int32.toNatClampNeg 400 + Int32.toNatClampNeg 97200) ((pF h109 (.ref o) 14 33 (.ref o109)).bind fun h111 => bP (nwA .int h111 46800) fun o117 h117 => ck (0 + 1 + n14 + 1 + 1 + 1 + n45 + 1 + n56 + 1 + 1 + 1 + 1 + 1 + 1 + 1) (0 + 14 + y14 + 8 + Int32.toNatClampNeg 400 + 14 + y45 + 14 + y56 + Int32.toNatClampNeg 400 + Int32.toNatClampNeg 400 + Int32.toNatClampNeg 11 + Int32.toNatClampNeg 400 + Int32.toNatClampNeg 400 + Int32.toNatClampNeg 97200 + Int32.toNatClampNeg 46800) ((pF h117 (.ref o) 14 34 (.ref o117)).bind fun h119 => bP (nwA .int h119 13) fun o125 h125 => ck (0 + 1 + n14 + 1 + 1 + 1 + n45 + 1 + n56 + 1 + 1 + 1 + 1 + 1 + 1 + 1 + 1) (0 + 14 + y14 + 8 + Int32.toNatClampNeg 400 + 14 + y45 + 14 + y56 + Int32.toNatClampNeg 400 + Int32.toNatClampNeg 400 + Int32.toNatClampNeg 11 + Int32.toNatClampNeg 400 + Int32.toNatClampNeg 400 + Int32.toNatClampNeg 97200 + Int32.toNatClampNeg 46800 + Int32.toNatClampNeg 13) ((pF h125 (.ref o) 14 35 (.ref o125)).bind fun h127 => bP (nwA .int h127 13) fun o133 h133 => ck (0 + 1 + n14 + 1 + 1 + 1 + n45 + 1 + n56 + 1 + 1 + 1 + 1 + 1 + 1 + 1 + 1 + 1) (0 + 14 + y14 + 8 + Int32.toNatClampNeg 400 + 14 + y45 + 14 + y56 + Int32.toNatClampNeg 400 + Int32.toNatClampNeg 400 + Int32.toNatClampNeg 11 + Int32.toNatClampNeg 400 + Int32.toNatClampNeg 400 + Int32.toNatClampNeg 97200 + Int32.toNatClampNeg 46800 + Int32.toNatClampNeg 13 + Int32.toNatClampNeg 13) ((pF h133 (.ref o) 14 36 (.ref o133)).bind fun h135 => bP (nwA .int h135 400) fun o142 h142 => ck (0 + 1 + n14 + 1 + 1 + 1 + n45 + 1 + n56 + 1 + 1 + 1 + 1 + 1 + 1 + 1 + 1 + 1 + 1) (0 + 14 + y14 + 8 + Int32.toNatClampNeg 400 + 14 + y45 + 14 + y56 + Int32.toNatClampNeg 400 + Int32.toNatClampNeg 400 + Int32.toNatClampNeg 11 + Int32.toNatClampNeg 400 + Int32.toNatClampNeg 400 + Int32.toNatClampNeg 97200 + Int32.toNatClampNeg 46800 + Int32.toNatClampNeg 13 + Int32.toNatClampNeg 13 + Int32.toNatClampNeg 400) ((pF h142 (.ref o) 14 37 (.ref o142)).bind fun h144 => bP (nwA .int h144 39) fun o150 h150 => ck (0 + 1 + n14 + 1 + 1 + 1 + n45 + 1 + n56 + 1 + 1 + 1 + 1 + 1 + 1 + 1 + 1 + 1 + 1 + 1) (0 + 14 + y14 + 8 + Int32.toNatClampNeg 400 + 14 + y45 + 14 + y56 + Int32.toNatClampNeg 400 + Int32.toNatClampNeg 400 + Int32.toNatClampNeg 11 + Int32.toNatClampNeg 400 + Int32.toNatClampNeg 400 + Int32.toNatClampNeg 97200 + Int32.toNatClampNeg 46800 + Int32.toNatClampNeg 13 + Int32.toNatClampNeg 13 + Int32.toNatClampNeg 400 + Int32.toNatClampNeg 39) ((pF h150 (.ref o) 14 38 (.ref o150)).bind fun h152 => bP (nwA .int h152 400) fun o159 h159 => ck (0 + 1 + n14 + 1 + 1 + 1 + n45 + 1 + n56 + 1 + 1 + 1 + 1 + 1 + 1 + 1 + 1 + 1 + 1 + 1 + 1) (0 + 14 + y14 + 8 + Int32.toNatClampNeg 400 + 14 + y45 + 14 + y56 + Int32.toNatClampNeg 400 + Int32.toNatClampNeg 400 + Int32.toNatClampNeg 11 + Int32.toNatClampNeg 400 + Int32.toNatClampNeg 400 + Int32.toNatClampNeg 97200 + Int32.toNatClampNeg 46800 + Int32.toNatClampNeg 13 + Int32.toNatClampNeg 13 + Int32.toNatClampNeg 400 + Int32.toNatClampNeg 39 + Int32.toNatClampNeg 400) ((pF h159 (.ref o) 14 39 (.ref o159)).bind fun h161 => bP (nwA .int h161 400) fun o168 h168 => ck (0 + 1 + n14 + 1 + 1 + 1 + n45 + 1 + n56 + 1 + 1 + 1 + 1 + 1 + 1 + 1 + 1 + 1 + 1 + 1 + 1 + 1) (0 + 14 + y14 + 8 + Int32.toNatClampNeg 400 + 14 + y45 + 14 + y56 + Int32.toNatClampNeg 400 + Int32.toNatClampNeg 400 + Int32.toNatClampNeg 11 + Int32.toNatClampNeg 400 + Int32.toNatClampNeg 400 + Int32.toNatClampNeg 97200 + Int32.toNatClampNeg 46800 + Int32.toNatClampNeg 13 + Int32.toNatClampNeg 13 + Int32.toNatClampNeg 400 + Int32.toNatClampNeg 39 + Int32.toNatClampNeg 400 + Int32.toNatClampNeg 400) ((pF h168 (.ref o) 14 40 (.ref o168)).bind fun h170 => bP (nwA .int h170 8400) fun o177 h177 => ck (0 + 1 + n14 + 1 + 1 + 1 + n45 + 1 + n56 + 1 + 1 + 1 + 1 + 1 + 1 + 1 + 1 + 1 + 1 + 1 + 1 + 1 + 1) (0 + 14 + y14 + 8 + Int32.toNatClampNeg 400 + 14 + y45 + 14 + y56 + Int32.toNatClampNeg 400 + Int32.toNatClampNeg 400 + Int32.toNatClampNeg 11 + Int32.toNatClampNeg 400 + Int32.toNatClampNeg 400 + Int32.toNatClampNeg 97200 + Int32.toNatClampNeg 46800 + Int32.toNatClampNeg 13 + Int32.toNatClampNeg 13 + Int32.toNatClampNeg 400 + Int32.toNatClampNeg 39 + Int32.toNatClampNeg 400 + Int32.toNatClampNeg 400 + Int32.toNatClampNeg 8400) ((pF h177 (.ref o) 14 41 (.ref o177)).bind fun h179 => bP (nwA .int h179 8400) fun o186 h186 => ck (0 + 1 + n14 + 1 + 1 + 1 + n45 + 1 + n56 + 1 + 1 + 1 + 1 + 1 + 1 + 1 + 1 + 1 + 1 + 1 + 1 + 1 + 1 + 1) (0 + 14 + y14 + 8 + Int32.toNatClampNeg 400 + 14 + y45 + 14 + y56 + Int32.toNatClampNeg 400 + Int32.toNatClampNeg 400 + Int32.toNatClampNeg 11 + Int32.toNatClampNeg 400 + Int32.toNatClampNeg 400 + Int32.toNatClampNeg 97200 + Int32.toNatClampNeg 46800 + Int32.toNatClampNeg 13 + Int32.toNatClampNeg 13 + Int32.toNatClampNeg 400 + Int32.toNatClampNeg 39 + Int32.toNatClampNeg 400 + Int32.toNatClampNeg 400 + Int32.toNatClampNeg 8400 + Int32.toNatClampNeg 8400) ((pF h186 (.ref o) 14 42 (.ref o186)).bind fun h188 => bP (nwA .boolean h188 3600) fun o195 h195 => ck (0 + 1 + n14 + 1 + 1 + 1 + n45 + 1 + n56 + 1 + 1 + 1 + 1 + 1 + 1 + 1 + 1 + 1 + 1 + 1 + 1 + 1 + 1 + 1 + 1) (0 + 14 + y14 + 8 + Int32.toNatClampNeg 400 + 14 + y45 + 14 + y56 + Int32.toNatClampNeg 400 + Int32.toNatClampNeg 400 + Int32.toNatClampNeg 11 + Int32.toNatClampNeg 400 + Int32.toNatClampNeg 400 + Int32.toNatClampNeg 97200 + Int32.toNatClampNeg 46800 + Int32.toNatClampNeg 13 + Int32.toNatClampNeg 13 + Int32.toNatClampNeg 400 + Int32.toNatClampNeg 39 + Int32.toNatClampNeg 400 + Int32.toNatClampNeg 400 + Int32.toNatClampNeg 8400 + Int32.toNatClampNeg 8400 + Int32.toNatClampNeg 3600) ((pF h195 (.ref o) 14 43 (.ref o195)).bind fun h197 => bP (nwA .long h197 7) fun o203 h203 => ck (0 + 1 + n14 + 1 + 1 + 1 + n45 + 1 + n56 + 1 + 1 + 1 + 1 + 1 + 1 + 1 + 1 + 1 + 1 + 1 + 1 + 1 + 1 + 1 + 1 + 1) (0 + 14 + y14 + 8 + Int32.toNatClampNeg 400 + 14 + y45 + 14 + y56 + Int32.toNatClampNeg 400 + Int32.toNatClampNeg 400 + Int32.toNatClampNeg 11 + Int32.toNatClampNeg 400 + Int32.toNatClampNeg 400 + Int32.toNatClampNeg 97200 + Int32.toNatClampNeg 46800 + Int32.toNatClampNeg 13 + Int32.toNatClampNeg 13 + Int32.toNatClampNeg 400 + Int32.toNatClampNeg 39 + Int32.toNatClampNeg 400 + Int32.toNatClampNeg 400 + Int32.toNatClampNeg 8400 + Int32.toNatClampNeg 8400 + Int32.toNatClampNeg 3600 + Int32.toNatClampNeg 7) ((pF h203 (.ref o) 14 44 (.ref o203)).bind fun h205 => bP (nwA .int h205 9) fun o211 h211 => ck (0 + 1 + n14 + 1 + 1 + 1 + n45 + 1 + n56 + 1 + 1 + 1 + 1 + 1 + 1 + 1 + 1 + 1 + 1 + 1 + 1 + 1 + 1 + 1 + 1 + 1 + 1) (0 + 14 + y14 + 8 + Int32.toNatClampNeg 400 + 14 + y45 + 14 + y56 + Int32.toNatClampNeg 400 + Int32.toNatClampNeg 400 + Int32.toNatClampNeg 11 + Int32.toNatClampNeg 400 + Int32.toNatClampNeg 400 + Int32.toNatClampNeg 97200 + Int32.toNatClampNeg 46800 + Int32.toNatClampNeg 13 + Int32.toNatClampNeg 13 + Int32.toNatClampNeg 400 + Int32.toNatClampNeg 39 + Int32.toNatClampNeg 400 + Int32.toNatClampNeg 400 + Int32.toNatClampNeg 8400 + Int32.toNatClampNeg 8400 + Int32.toNatClampNeg 3600 + Int32.toNatClampNeg 7 + Int32.toNatClampNeg 9) ((pF h211 (.ref o) 14 45 (.ref o211)).bind fun h213 => bP (nwA .int h213 6) fun o219 h219 => ck (0 + 1 + n14 + 1 + 1 + 1 + n45 + 1 + n56 + 1 + 1 + 1 + 1 + 1 + 1 + 1 + 1 + 1 + 1 + 1 + 1 + 1 + 1 + 1 + 1 + 1 + 1 + 1) (0 + 14 + y14 + 8 + Int32.toNatClampNeg 400 + 14 + y45 + 14 + y56 + Int32.toNatClampNeg 400 + Int32.toNatClampNeg 400 + Int32.toNatClampNeg 11 + Int32.toNatClampNeg 400 + Int32.toNatClampNeg 400 + Int32.toNatClampNeg 97200 + Int32.toNatClampNeg 46800 + Int32.toNatClampNeg 13 + Int32.toNatClampNeg 13 + Int32.toNatClampNeg 400 + Int32.toNatClampNeg 39 + Int32.toNatClampNeg 400 + Int32.toNatClampNeg 400 + Int32.toNatClampNeg 8400 + Int32.toNatClampNeg 8400 + Int32.toNatClampNeg 3600 + Int32.toNatClampNeg 7 + Int32.toNatClampNeg 9 + Int32.toNatClampNeg 6) ((pF h219 (.ref o) 14 46 (.ref o219)).bind fun h221 => bP (nwA .int h221 6) fun o227 h227 => ck (0 + 1 + n14 + 1 + 1 + 1 + n45 + 1 + n56 + 1 + 1 + 1 + 1 + 1 + 1 + 1 + 1 + 1 + 1 + 1 + 1 + 1 + 1 + 1 + 1 + 1 + 1 + 1 + 1) (0 + 14 + y14 + 8 + Int32.toNatClampNeg 400 + 14 + y45 + 14 + y56 + Int32.toNatClampNeg 400 + Int32.toNatClampNeg 400 + Int32.toNatClampNeg 11 + Int32.toNatClampNeg 400 + Int32.toNatClampNeg 400 + Int32.toNatClampNeg 97200 + Int32.toNatClampNeg 46800 + Int32.toNatClampNeg 13 + Int32.toNatClampNeg 13 + Int32.toNatClampNeg 400 + Int32.toNatClampNeg 39 + Int32.toNatClampNeg 400 + Int32.toNatClampNeg 400 + Int32.toNatClampNeg 8400 + Int32.toNatClampNeg 8400 + Int32.toNatClampNeg 3600 + Int32.toNatClampNeg 7 + Int32.toNatClampNeg 9 + Int32.toNatClampNeg 6 + Int32.toNatClampNeg 6) ((pF h227 (.ref o) 14 47 (.ref o227)).bind fun h229 => bP (nwA .int h229 400) fun o236 h236 => ck (0 + 1 + n14 + 1 + 1 + 1 + n45 + 1 + n56 + 1 + 1 + 1 + 1 + 1 + 1 + 1 + 1 + 1 + 1 + 1 + 1 + 1 + 1 + 1 + 1 + 1 + 1 + 1 + 1 + 1) (0 + 14 + y14 + 8 + Int32.toNatClampNeg 400 + 14 + y45 + 14 + y56 + Int32.toNatClampNeg 400 + Int32.toNatClampNeg 400 + Int32.toNatClampNeg 11 + Int32.toNatClampNeg 400 + Int32.toNatClampNeg 400 + Int32.toNatClampNeg 97200 + Int32.toNatClampNeg 46800 + Int32.toNatClampNeg 13 + Int32.toNatClampNeg 13 + Int32.toNatClampNeg 400 + Int32.toNatClampNeg 39 + Int32.toNatClampNeg 400 + Int32.toNatClampNeg 400 + Int32.toNatClampNeg 8400 + Int32.toNatClampNeg 8400 + Int32.toNatClampNeg 3600 + Int32.toNatClampNeg 7 + Int32.toNatClampNeg 9 + Int32.toNatClampNeg 6 + Int32.toNatClampNeg 6 + Int32.toNatClampNeg 400) ((pF h236 (.ref o) 14 48 (.ref o236)).bind fun h238 => bP (nwA .long h238 400) fun o245 h245 => ck (0 + 1 + n14 + 1 + 1 + 1 + n45 + 1 + n56 + 1 + 1 + 1 + 1 + 1 + 1 + 1 + 1 + 1 + 1 + 1 + 1 + 1 + 1 + 1 + 1 + 1 + 1 + 1 + 1 + 1 + 1) (0 + 14 + y14 + 8 + Int32.toNatClampNeg 400 + 14 + y45 + 14 + y56 + Int32.toNatClampNeg 400 + Int32.toNatClampNeg 400 + Int32.toNatClampNeg 11 + Int32.toNatClampNeg 400 + Int32.toNatClampNeg 400 + Int32.toNatClampNeg 97200 + Int32.toNatClampNeg 46800 + Int32.toNatClampNeg 13 + Int32.toNatClampNeg 13 + Int32.toNatClampNeg 400 + Int32.toNatClampNeg 39 + Int32.toNatClampNeg 400 + Int32.toNatClampNeg 400 + Int32.toNatClampNeg 8400 + Int32.toNatClampNeg 8400 + Int32.toNatClampNeg 3600 + Int32.toNatClampNeg 7 + Int32.toNatClampNeg 9 + Int32.toNatClampNeg 6 + Int32.toNatClampNeg 6 + Int32.toNatClampNeg 400 + Int32.toNatClampNeg 400) ((pF h245 (.ref o) 14 49 (.ref o245)).bind fun h247 => bP (nwA .long h247 18) fun o253 h253 => ck (0 + 1 + n14 + 1 + 1 + 1 + n45 + 1 + n56 + 1 + 1 + 1 + 1 + 1 + 1 + 1 + 1 + 1 + 1 + 1 + 1 + 1 + 1 + 1 + 1 + 1 + 1 + 1 + 1 + 1 + 1 + 1) (0 + 14 + y14 + 8 + Int32.toNatClampNeg 400 + 14 + y45 + 14 + y56 + Int32.toNatClampNeg 400 + Int32.toNatClampNeg 400 + Int32.toNatClampNeg 11 + Int32.toNatClampNeg 400 + Int32.toNatClampNeg 400 + Int32.toNatClampNeg 97200 + Int32.toNatClampNeg 46800 + Int32.toNatClampNeg 13 + Int32.toNatClampNeg 13 + Int32.toNatClampNeg 400 + Int32.toNatClampNeg 39 + Int32.toNatClampNeg 400 + Int32.toNatClampNeg 400 + Int32.toNatClampNeg 8400 + Int32.toNatClampNeg 8400 + Int32.toNatClampNeg 3600 + Int32.toNatClampNeg 7 + Int32.toNatClampNeg 9 + Int32.toNatClampNeg 6 + Int32.toNatClampNeg 6 + Int32.toNatClampNeg 400 + Int32.toNatClampNeg 400 + Int32.toNatClampNeg 18) ((pF h253 (.ref o) 14 51 (.ref o253)).bind fun h255 => bP (nwA .long h255 3) fun o260 h260 => ck (0 + 1 + n14 + 1 + 1 + 1 + n45 + 1 + n56 + 1 + 1 + 1 + 1 + 1 + 1 + 1 + 1 + 1 + 1 + 1 + 1 + 1 + 1 + 1 + 1 + 1 + 1 + 1 + 1 + 1 + 1 + 1 + 1) (0 + 14 + y14 + 8 + Int32.toNatClampNeg 400 + 14 + y45 + 14 + y56 + Int32.toNatClampNeg 400 + Int32.toNatClampNeg 400 + Int32.toNatClampNeg 11 + Int32.toNatClampNeg 400 + Int32.toNatClampNeg 400 + Int32.toNatClampNeg 97200 + Int32.toNatClampNeg 46800 + Int32.toNatClampNeg 13 + Int32.toNatClampNeg 13 + Int32.toNatClampNeg 400 + Int32.toNatClampNeg 39 + Int32.toNatClampNeg 400 + Int32.toNatClampNeg 400 + Int32.toNatClampNeg 8400 + Int32.toNatClampNeg 8400 + Int32.toNatClampNeg 3600 + Int32.toNatClampNeg 7 + Int32.toNatClampNeg 9 + Int32.toNatClampNeg 6 + Int32.toNatClampNeg 6 + Int32.toNatClampNeg 400 + Int32.toNatClampNeg 400 + Int32.toNatClampNeg 18 + Int32.toNatClampNeg 3) ((pF h260 (.ref o) 14 52 (.ref o260)).bind fun h262 => bP (nwA .long h262 3) fun o267 h267 => ck (0 + 1 + n14 + 1 + 1 + 1 + n45 + 1 + n56 + 1 + 1 + 1 + 1 + 1 + 1 + 1 + 1 + 1 + 1 + 1 + 1 + 1 + 1 + 1 + 1 + 1 + 1 + 1 + 1 + 1 + 1 + 1 + 1 + 1) (0 + 14 + y14 + 8 + Int32.toNatClampNeg 400 + 14 + y45 + 14 + y56 + Int32.toNatClampNeg 400 + Int32.toNatClampNeg 400 + Int32.toNatClampNeg 11 + Int32.toNatClampNeg 400 + Int32.toNatClampNeg 400 + Int32.toNatClampNeg 97200 + Int32.toNatClampNeg 46800 + Int32.toNatClampNeg 13 + Int32.toNatClampNeg 13 + Int32.toNatClampNeg 400 + Int32.toNatClampNeg 39 + Int32.toNatClampNeg 400 + Int32.toNatClampNeg 400 + Int32.toNatClampNeg 8400 + Int32.toNatClampNeg 8400 + Int32.toNatClampNeg 3600 + Int32.toNatClampNeg 7 + Int32.toNatClampNeg 9 + Int32.toNatClampNeg 6 + Int32.toNatClampNeg 6 + Int32.toNatClampNeg 400 + Int32.toNatClampNeg 400 + Int32.toNatClampNeg 18 + Int32.toNatClampNeg 3 + Int32.toNatClampNeg 3) ((pF h267 (.ref o) 14 53 (.ref o267)).bind fun h269 => bP (nwA .long h269 9) fun o275 h275 => ck (0 + 1 + n14 + 1 + 1 + 1 + n45 + 1 + n56 + 1 + 1 + 1 + 1 + 1 + 1 + 1 + 1 + 1 + 1 + 1 + 1 + 1 + 1 + 1 + 1 + 1 + 1 + 1 + 1 + 1 + 1 + 1 + 1 + 1 + 1) (0 + 14 + y14 + 8 + Int32.toNatClampNeg 400 + 14 + y45 + 14 + y56 + Int32.toNatClampNeg 400 + Int32.toNatClampNeg 400 + Int32.toNatClampNeg 11 + Int32.toNatClampNeg 400 + Int32.toNatClampNeg 400 + Int32.toNatClampNeg 97200 + Int32.toNatClampNeg 46800 + Int32.toNatClampNeg 13 + Int32.toNatClampNeg 13 + Int32.toNatClampNeg 400 + Int32.toNatClampNeg 39 + Int32.toNatClampNeg 400 + Int32.toNatClampNeg 400 + Int32.toNatClampNeg 8400 + Int32.toNatClampNeg 8400 + Int32.toNatClampNeg 3600 + Int32.toNatClampNeg 7 + Int32.toNatClampNeg 9 + Int32.toNatClampNeg 6 + Int32.toNatClampNeg 6 + Int32.toNatClampNeg 400 + Int32.toNatClampNeg 400 + Int32.toNatClampNeg 18 + Int32.toNatClampNeg 3 + Int32.toNatClampNeg 3 + Int32.toNatClampNeg 9) ((pF h275 (.ref o) 14 54 (.ref o275)).bind fun h277 => bP (nwA .long h277 9) fun o283 h283 => ck (0 + 1 + n14 + 1 + 1 + 1 + n45 + 1 + n56 + 1 + 1 + 1 + 1 + 1 + 1 + 1 + 1 + 1 + 1 + 1 + 1 + 1 + 1 + 1 + 1 + 1 + 1 + 1 + 1 + 1 + 1 + 1 + 1 + 1 + 1 + 1) (0 + 14 + y14 + 8 + Int32.toNatClampNeg 400 + 14 + y45 + 14 + y56 + Int32.toNatClampNeg 400 + Int32.toNatClampNeg 400 + Int32.toNatClampNeg 11 + Int32.toNatClampNeg 400 + Int32.toNatClampNeg 400 + Int32.toNatClampNeg 97200 + Int32.toNatClampNeg 46800 + Int32.toNatClampNeg 13 + Int32.toNatClampNeg 13 + Int32.toNatClampNeg 400 + Int32.toNatClampNeg 39 + Int32.toNatClampNeg 400 + Int32.toNatClampNeg 400 + Int32.toNatClampNeg 8400 + Int32.toNatClampNeg 8400 + Int32.toNatClampNeg 3600 + Int32.toNatClampNeg 7 + Int32.toNatClampNeg 9 + Int32.toNatClampNeg 6 + Int32.toNatClampNeg 6 + Int32.toNatClampNeg 400 + Int32.toNatClampNeg 400 + Int32.toNatClampNeg 18 + Int32.toNatClampNeg 3 + Int32.toNatClampNeg 3 + Int32.toNatClampNeg 9 + Int32.toNatClampNeg 9) ((pF h283 (.ref o) 14 55 (.ref o283)).bind fun h285 => bP (nwA .long h285 9) fun o291 h291 => ck (0 + 1 + n14 + 1 + 1 + 1 + n45 + 1 + n56 + 1 + 1 + 1 + 1 + 1 + 1 + 1 + 1 + 1 + 1 + 1 + 1 + 1 + 1 + 1 + 1 + 1 + 1 + 1 + 1 + 1 + 1 + 1 + 1 + 1 + 1 + 1 + 1) (0 + 14 + y14 + 8 + Int32.toNatClampNeg 400 + 14 + y45 + 14 + y56 + Int32.toNatClampNeg 400 + Int32.toNatClampNeg 400 + Int32.toNatClampNeg 11 + Int32.toNatClampNeg 400 + Int32.toNatClampNeg 400 + Int32.toNatClampNeg 97200 + Int32.toNatClampNeg 46800 + Int32.toNatClampNeg 13 + Int32.toNatClampNeg 13 + Int32.toNatClampNeg 400 + Int32.toNatClampNeg 39 + Int32.toNatClampNeg 400 + Int32.toNatClampNeg 400 + Int32.toNatClampNeg 8400 + Int32.toNatClampNeg 8400 + Int32.toNatClampNeg 3600 + Int32.toNatClampNeg 7 + Int32.toNatClampNeg 9 + Int32.toNatClampNeg 6 + Int32.toNatClampNeg 6 + Int32.toNatClampNeg 400 + Int32.toNatClampNeg 400 + Int32.toNatClampNeg 18 + Int32.toNatClampNeg 3 + Int32.toNatClampNeg 3 + Int32.toNatClampNeg 9 + Int32.toNatClampNeg 9 + Int32.toNatClampNeg 9) ((pF h291 (.ref o) 14 57 (.ref o291)).bind fun h293 => bP (nwA .long h293 4) fun o298 h298 => ck (0 + 1 + n14 + 1 + 1 + 1 + n45 + 1 + n56 + 1 + 1 + 1 + 1 + 1 + 1 + 1 + 1 + 1 + 1 + 1 + 1 + 1 + 1 + 1 + 1 + 1 + 1 + 1 + 1 + 1 + 1 + 1 + 1 + 1 + 1 + 1 + 1 + 1) (0 + 14 + y14 + 8 + Int32.toNatClampNeg 400 + 14 + y45 + 14 + y56 + Int32.toNatClampNeg 400 + Int32.toNatClampNeg 400 + Int32.toNatClampNeg 11 + Int32.toNatClampNeg 400 + Int32.toNatClampNeg 400 + Int32.toNatClampNeg 97200 + Int32.toNatClampNeg 46800 + Int32.toNatClampNeg 13 + Int32.toNatClampNeg 13 + Int32.toNatClampNeg 400 + Int32.toNatClampNeg 39 + Int32.toNatClampNeg 400 + Int32.toNatClampNeg 400 + Int32.toNatClampNeg 8400 + Int32.toNatClampNeg 8400 + Int32.toNatClampNeg 3600 + Int32.toNatClampNeg 7 + Int32.toNatClampNeg 9 + Int32.toNatClampNeg 6 + Int32.toNatClampNeg 6 + Int32.toNatClampNeg 400 + Int32.toNatClampNeg 400 + Int32.toNatClampNeg 18 + Int32.toNatClampNeg 3 + Int32.toNatClampNeg 3 + Int32.toNatClampNeg 9 + Int32.toNatClampNeg 9 + Int32.toNatClampNeg 9 + Int32.toNatClampNeg 4) ((pF h298 (.ref o) 14 58 (.ref o298)).bind fun h300 => bP (nwA .int h300 31) fun o306 h306 => ck (0 + 1 + n14 + 1 + 1 + 1 + n45 + 1 + n56 + 1 + 1 + 1 + 1 + 1 + 1 + 1 + 1 + 1 + 1 + 1 + 1 + 1 + 1 + 1 + 1 + 1 + 1 + 1 + 1 + 1 + 1 + 1 + 1 + 1 + 1 + 1 + 1 + 1 + 1) (0 + 14 + y14 + 8 + Int32.toNatClampNeg 400 + 14 + y45 + 14 + y56 + Int32.toNatClampNeg 400 + Int32.toNatClampNeg 400 + Int32.toNatClampNeg 11 + Int32.toNatClampNeg 400 + Int32.toNatClampNeg 400 + Int32.toNatClampNeg 97200 + Int32.toNatClampNeg 46800 + Int32.toNatClampNeg 13 + Int32.toNatClampNeg 13 + Int32.toNatClampNeg 400 + Int32.toNatClampNeg 39 + Int32.toNatClampNeg 400 + Int32.toNatClampNeg 400 + Int32.toNatClampNeg 8400 + Int32.toNatClampNeg 8400 + Int32.toNatClampNeg 3600 + Int32.toNatClampNeg 7 + Int32.toNatClampNeg 9 + Int32.toNatClampNeg 6 + Int32.toNatClampNeg 6 + Int32.toNatClampNeg 400 + Int32.toNatClampNeg 400 + Int32.toNatClampNeg 18 + Int32.toNatClampNeg 3 + Int32.toNatClampNeg 3 + Int32.toNatClampNeg 9 + Int32.toNatClampNeg 9 + Int32.toNatClampNeg 9 + Int32.toNatClampNeg 4 + Int32.toNatClampNeg 31) ((pF h306 (.ref o) 14 60 (.ref o306)).bind fun h308 => bP (nwA .int h308 62) fun o314 h314 => ck (0 + 1 + n14 + 1 + 1 + 1 + n45 + 1 + n56 + 1 + 1 + 1 + 1 + 1 + 1 + 1 + 1 + 1 + 1 + 1 + 1 + 1 + 1 + 1 + 1 + 1 + 1 + 1 + 1 + 1 + 1 + 1 + 1 + 1 + 1 + 1 + 1 + 1 + 1 + 1) (0 + 14 + y14 + 8 + Int32.toNatClampNeg 400 + 14 + y45 + 14 + y56 + Int32.toNatClampNeg 400 + Int32.toNatClampNeg 400 + Int32.toNatClampNeg 11 + Int32.toNatClampNeg 400 + Int32.toNatClampNeg 400 + Int32.toNatClampNeg 97200 + Int32.toNatClampNeg 46800 + Int32.toNatClampNeg 13 + Int32.toNatClampNeg 13 + Int32.toNatClampNeg 400 + Int32.toNatClampNeg 39 + Int32.toNatClampNeg 400 + Int32.toNatClampNeg 400 + Int32.toNatClampNeg 8400 + Int32.toNatClampNeg 8400 + Int32.toNatClampNeg 3600 + Int32.toNatClampNeg 7 + Int32.toNatClampNeg 9 + Int32.toNatClampNeg 6 + Int32.toNatClampNeg 6 + Int32.toNatClampNeg 400 + Int32.toNatClampNeg 400 + Int32.toNatClampNeg 18 + Int32.toNatClampNeg 3 + Int32.toNatClampNeg 3 + Int32.toNatClampNeg 9 + Int32.toNatClampNeg 9 + Int32.toNatClampNeg 9 + Int32.toNatClampNeg 4 + Int32.toNatClampNeg 31 + Int32.toNatClampNeg 62) ((pF h314 (.ref o) 14 61 (.ref o314)).bind fun h316 => bP (nwA .int h316 62) fun o322 h322 => ck (0 + 1 + n14 + 1 + 1 + 1 + n45 + 1 + n56 + 1 + 1 + 1 + 1 + 1 + 1 + 1 + 1 + 1 + 1 + 1 + 1 + 1 + 1 + 1 + 1 + 1 + 1 + 1 + 1 + 1 + 1 + 1 + 1 + 1 + 1 + 1 + 1 + 1 + 1 + 1 + 1) (0 + 14 + y14 + 8 + Int32.toNatClampNeg 400 + 14 + y45 + 14 + y56 + Int32.toNatClampNeg 400 + Int32.toNatClampNeg 400 + Int32.toNatClampNeg 11 + Int32.toNatClampNeg 400 + Int32.toNatClampNeg 400 + Int32.toNatClampNeg 97200 + Int32.toNatClampNeg 46800 + Int32.toNatClampNeg 13 + Int32.toNatClampNeg 13 + Int32.toNatClampNeg 400 + Int32.toNatClampNeg 39 + Int32.toNatClampNeg 400 + Int32.toNatClampNeg 400 + Int32.toNatClampNeg 8400 + Int32.toNatClampNeg 8400 + Int32.toNatClampNeg 3600 + Int32.toNatClampNeg 7 + Int32.toNatClampNeg 9 + Int32.toNatClampNeg 6 + Int32.toNatClampNeg 6 + Int32.toNatClampNeg 400 + Int32.toNatClampNeg 400 + Int32.toNatClampNeg 18 + Int32.toNatClampNeg 3 + Int32.toNatClampNeg 3 + Int32.toNatClampNeg 9 + Int32.toNatClampNeg 9 + Int32.toNatClampNeg 9 + Int32.toNatClampNeg 4 + Int32.toNatClampNeg 31 + Int32.toNatClampNeg 62 + Int32.toNatClampNeg 62) ((pF h322 (.ref o) 14 62 (.ref o322)).bind fun h324 => bP (nwA .boolean h324 400) fun o331 h331 => ck (0 + 1 + n14 + 1 + 1 + 1 + n45 + 1 + n56 + 1 + 1 + 1 + 1 + 1 + 1 + 1 + 1 + 1 + 1 + 1 + 1 + 1 + 1 + 1 + 1 + 1 + 1 + 1 + 1 + 1 + 1 + 1 + 1 + 1 + 1 + 1 + 1 + 1 + 1 + 1 + 1 + 1) (0 + 14 + y14 + 8 + Int32.toNatClampNeg 400 + 14 + y45 + 14 + y56 + Int32.toNatClampNeg 400 + Int32.toNatClampNeg 400 + Int32.toNatClampNeg 11 + Int32.toNatClampNeg 400 + Int32.toNatClampNeg 400 + Int32.toNatClampNeg 97200 + Int32.toNatClampNeg 46800 + Int32.toNatClampNeg 13 + Int32.toNatClampNeg 13 + Int32.toNatClampNeg 400 + Int32.toNatClampNeg 39 + Int32.toNatClampNeg 400 + Int32.toNatClampNeg 400 + Int32.toNatClampNeg 8400 + Int32.toNatClampNeg 8400 + Int32.toNatClampNeg 3600 + Int32.toNatClampNeg 7 + Int32.toNatClampNeg 9 + Int32.toNatClampNeg 6 + Int32.toNatClampNeg 6 + Int32.toNatClampNeg 400 + Int32.toNatClampNeg 400 + Int32.toNatClampNeg 18 + Int32.toNatClampNeg 3 + Int32.toNatClampNeg 3 + Int32.toNatClampNeg 9 + Int32.toNatClampNeg 9 + Int32.toNatClampNeg 9 + Int32.toNatClampNeg 4 + Int32.toNatClampNeg 31 + Int32.toNatClampNeg 62 + Int32.toNatClampNeg 62 + Int32.toNatClampNeg 400) ((pF h331 (.ref o) 14 63 (.ref o331)).bind fun h333 => bP (nwA .boolean h333 400) fun o340 h340 => ck (0 + 1 + n14 + 1 + 1 + 1 + n45 + 1 + n56 + 1 + 1 + 1 + 1 + 1 + 1 + 1 + 1 + 1 + 1 + 1 + 1 + 1 + 1 + 1 + 1 + 1 + 1 + 1 + 1 + 1 + 1 + 1 + 1 + 1 + 1 + 1 + 1 + 1 + 1 + 1 + 1 + 1 + 1) (0 + 14 + y14 + 8 + Int32.toNatClampNeg 400 + 14 + y45 + 14 + y56 + Int32.toNatClampNeg 400 + Int32.toNatClampNeg 400 + Int32.toNatClampNeg 11 + Int32.toNatClampNeg 400 + Int32.toNatClampNeg 400 + Int32.toNatClampNeg 97200 + Int32.toNatClampNeg 46800 + Int32.toNatClampNeg 13 + Int32.toNatClampNeg 13 + Int32.toNatClampNeg 400 + Int32.toNatClampNeg 39 + Int32.toNatClampNeg 400 + Int32.toNatClampNeg 400 + Int32.toNatClampNeg 8400 + Int32.toNatClampNeg 8400 + Int32.toNatClampNeg 3600 + Int32.toNatClampNeg 7 + Int32.toNatClampNeg 9 + Int32.toNatClampNeg 6 + Int32.toNatClampNeg 6 + Int32.toNatClampNeg 400 + Int32.toNatClampNeg 400 + Int32.toNatClampNeg 18 + Int32.toNatClampNeg 3 + Int32.toNatClampNeg 3 + Int32.toNatClampNeg 9 + Int32.toNatClampNeg 9 + Int32.toNatClampNeg 9 + Int32.toNatClampNeg 4 + Int32.toNatClampNeg 31 + Int32.toNatClampNeg 62 + Int32.toNatClampNeg 62 + Int32.toNatClampNeg 400 + Int32.toNatClampNeg 400) ((pF h340 (.ref o) 14 64 (.ref o340)).bind fun h342 => bP (nwA .boolean h342 400) fun o349 h349 => ck (0 + 1 + n14 + 1 + 1 + 1 + n45 + 1 + n56 + 1 + 1 + 1 + 1 + 1 + 1 + 1 + 1 + 1 + 1 + 1 + 1 + 1 + 1 + 1 + 1 + 1 + 1 + 1 + 1 + 1 + 1 + 1 + 1 + 1 + 1 + 1 + 1 + 1 + 1 + 1 + 1 + 1 + 1 + 1) (0 + 14 + y14 + 8 + Int32.toNatClampNeg 400 + 14 + y45 + 14 + y56 + Int32.toNatClampNeg 400 + Int32.toNatClampNeg 400 + Int32.toNatClampNeg 11 + Int32.toNatClampNeg 400 + Int32.toNatClampNeg 400 + Int32.toNatClampNeg 97200 + Int32.toNatClampNeg 46800 + Int32.toNatClampNeg 13 + Int32.toNatClampNeg 13 + Int32.toNatClampNeg 400 + Int32.toNatClampNeg 39 + Int32.toNatClampNeg 400 + Int32.toNatClampNeg 400 + Int32.toNatClampNeg 8400 + Int32.toNatClampNeg 8400 + Int32.toNatClampNeg 3600 + Int32.toNatClampNeg 7 + Int32.toNatClampNeg 9 + Int32.toNatClampNeg 6 + Int32.toNatClampNeg 6 + Int32.toNatClampNeg 400 + Int32.toNatClampNeg 400 + Int32.toNatClampNeg 18 + Int32.toNatClampNeg 3 + Int32.toNatClampNeg 3 + Int32.toNatClampNeg 9 + Int32.toNatClampNeg 9 + Int32.toNatClampNeg 9 + Int32.toNatClampNeg 4 + Int32.toNatClampNeg 31 + Int32.toNatClampNeg 62 + Int32.toNatClampNeg 62 + Int32.toNatClampNeg 400 + Int32.toNatClampNeg 400 + Int32.toNatClampNeg 400) ((pF h349 (.ref o) 14 65 (.ref o349)).bind fun h351 => bP (nwA .int h351 3) fun o356 h356 => ck (0 + 1 + n14 + 1 + 1 + 1 + n45 + 1 + n56 + 1 + 1 + 1 + 1 + 1 + 1 + 1 + 1 + 1 + 1 + 1 + 1 + 1 + 1 + 1 + 1 + 1 + 1 + 1 + 1 + 1 + 1 + 1 + 1 + 1 + 1 + 1 + 1 + 1 + 1 + 1 + 1 + 1 + 1 + 1 + 1) (0 + 14 + y14 + 8 + Int32.toNatClampNeg 400 + 14 + y45 + 14 + y56 + Int32.toNatClampNeg 400 + Int32.toNatClampNeg 400 + Int32.toNatClampNeg 11 + Int32.toNatClampNeg 400 + Int32.toNatClampNeg 400 + Int32.toNatClampNeg 97200 + Int32.toNatClampNeg 46800 + Int32.toNatClampNeg 13 + Int32.toNatClampNeg 13 + Int32.toNatClampNeg 400 + Int32.toNatClampNeg 39 + Int32.toNatClampNeg 400 + Int32.toNatClampNeg 400 + Int32.toNatClampNeg 8400 + Int32.toNatClampNeg 8400 + Int32.toNatClampNeg 3600 + Int32.toNatClampNeg 7 + Int32.toNatClampNeg 9 + Int32.toNatClampNeg 6 + Int32.toNatClampNeg 6 + Int32.toNatClampNeg 400 + Int32.toNatClampNeg 400 + Int32.toNatClampNeg 18 + Int32.toNatClampNeg 3 + Int32.toNatClampNeg 3 + Int32.toNatClampNeg 9 + Int32.toNatClampNeg 9 + Int32.toNatClampNeg 9 + Int32.toNatClampNeg 4 + Int32.toNatClampNeg 31 + Int32.toNatClampNeg 62 + Int32.toNatClampNeg 62 + Int32.toNatClampNeg 400 + Int32.toNatClampNeg 400 + Int32.toNatClampNeg 400 + Int32.toNatClampNeg 3) ((pF h356 (.ref o) 14 66 (.ref o356)).bind fun h358 => bP (nwA .int h358 400) fun o365 h365 => ck (0 + 1 + n14 + 1 + 1 + 1 + n45 + 1 + n56 + 1 + 1 + 1 + 1 + 1 + 1 + 1 + 1 + 1 + 1 + 1 + 1 + 1 + 1 + 1 + 1 + 1 + 1 + 1 + 1 + 1 + 1 + 1 + 1 + 1 + 1 + 1 + 1 + 1 + 1 + 1 + 1 + 1 + 1 + 1 + 1 + 1) (0 + 14 + y14 + 8 + Int32.toNatClampNeg 400 + 14 + y45 + 14 + y56 + Int32.toNatClampNeg 400 + Int32.toNatClampNeg 400 + Int32.toNatClampNeg 11 + Int32.toNatClampNeg 400 + Int32.toNatClampNeg 400 + Int32.toNatClampNeg 97200 + Int32.toNatClampNeg 46800 + Int32.toNatClampNeg 13 + Int32.toNatClampNeg 13 + Int32.toNatClampNeg 400 + Int32.toNatClampNeg 39 + Int32.toNatClampNeg 400 + Int32.toNatClampNeg 400 + Int32.toNatClampNeg 8400 + Int32.toNatClampNeg 8400 + Int32.toNatClampNeg 3600 + Int32.toNatClampNeg 7 + Int32.toNatClampNeg 9 + Int32.toNatClampNeg 6 + Int32.toNatClampNeg 6 + Int32.toNatClampNeg 400 + Int32.toNatClampNeg 400 + Int32.toNatClampNeg 18 + Int32.toNatClampNeg 3 + Int32.toNatClampNeg 3 + Int32.toNatClampNeg 9 + Int32.toNatClampNeg 9 + Int32.toNatClampNeg 9 + Int32.toNatClampNeg 4 + Int32.toNatClampNeg 31 + Int32.toNatClampNeg 62 + Int32.toNatClampNeg 62 + Int32.toNatClampNeg 400 + Int32.toNatClampNeg 400 + Int32.toNatClampNeg 400 + Int32.toNatClampNeg 3 + Int32.toNatClampNeg 400) (wC (0 + 1 + n14 + 1 + 1 + 1 + n45 + 1 + n56 + 1 + 1 + 1 + 1 + 1 + 1 + 1 + 1 + 1 + 1 + 1 + 1 + 1 + 1 + 1 + 1 + 1 + 1 + 1 + 1 + 1 + 1 + 1 + 1 + 1 + 1 + 1 + 1 + 1 + 1 + 1 + 1 + 1 + 1 + 1 + 1 + 1) (0 + 14 + y14 + 8 + Int32.toNatClampNeg 400 + 14 + y45 + 14 + y56 + Int32.toNatClampNeg 400 + Int32.toNatClampNeg 400 + Int32.toNatClampNeg 11 + Int32.toNatClampNeg 400 + Int32.toNatClampNeg 400 + Int32.toNatClampNeg 97200 + Int32.toNatClampNeg 46800 + Int32.toNatClampNeg 13 + Int32.toNatClampNeg 13 + Int32.toNatClampNeg 400 + Int32.toNatClampNeg 39 + Int32.toNatClampNeg 400 + Int32.toNatClampNeg 400 + Int32.toNatClampNeg 8400 + Int32.toNatClampNeg 8400 + Int32.toNatClampNeg 3600 + Int32.toNatClampNeg 7 + Int32.toNatClampNeg 9 + Int32.toNatClampNeg 6 + Int32.toNatClampNeg 6 + Int32.toNatClampNeg 400 + Int32.toNatClampNeg 400 + Int32.toNatClampNeg 18 + Int32.toNatClampNeg 3 + Int32.toNatClampNeg 3 + Int32.toNatClampNeg 9 + Int32.toNatClampNeg 9 + Int32.toNatClampNeg 9 + Int32.toNatClampNeg 4 + Int32.toNatClampNeg 31 + Int32.toNatClampNeg 62 + Int32.toNatClampNeg 62 + Int32.toNatClampNeg 400 + Int32.toNatClampNeg 400 + Int32.toNatClampNeg 400 + Int32.toNatClampNeg 3 + Int32.toNatClampNeg 400) ((pF h365 (.ref o) 14 69 (.ref o365)).bind fun h367 => some (.inl none, h367))))))))))))))))))))))))))))))))))))))))))))))))
section
variable {p : Program} {l : Launch} {e : Env} {s : State} {m : MethodId} {args : Array Value} {below : List Frame} {meth : Method} {c : Code} {D : va_G} {B0 : Nat} {X : Nat → Nat} {ws0 : va_W} {r : aR} {h' : aH} {mc ms : Nat}
theorem hy_X14_init : yX14_init.cls ≠ "java/lang/invoke/MethodHandle" ∧ yX14_init.cls ≠ "java/lang/invoke/VarHandle" ∧ (parseMethodDescriptor yX14_init.desc).map (fun d => d.parameters.length) = some 0 := by decide +kernel
theorem T_X14_init (o : Nat) (h : aH) (r : aR) (h' : aH) (mc ms : Nat) (hs : s_X14_init o h = some (r, h', mc, ms)) : Mt yX14_init (Cond.code yX14_init cX14_init 1 none :: aTB) 5 112 mc ms [.ref o] h r h' := by
  unfold s_X14_init at hs
  refine Mt_of (k := 0) (by decide) rfl (fun p l e s m args below meth c D B0 X ws0 C => ?_)
  show Ev p l e { frames := 5, cells := mc, slots := ms, locals := 112 } s m args below meth c D B0 X ws0 r h' mc ms 1 0 0 0 [some (.ref o)] [] h
  refine ev_aload_n C (x := .ref o) rfl trivial dX14_init_0 ?_
  refine ev_objInit C wm_X14_1 wi_oinit wc_oinit (Nat.le_of_ble_eq_true rfl) (Nat.le_of_ble_eq_true rfl) dX14_init_1 ?_
  refine ev_aload_n C (x := .ref o) rfl trivial dX14_init_4 ?_
  refine ev_iconst C (v := (-1)) dX14_init_5 (by decide) ?_
  obtain ⟨h6, e6, hs⟩ := aB hs
  refine ev_put C (ci := 14) (k := 2) rfl wu_14 (by decide) tyX14 tyX14_ok nmX14 wf_X14_9 rfl trivial e6 dX14_init_6 ?_
  refine ev_aload_n C (x := .ref o) rfl trivial dX14_init_9 ?_
  obtain ⟨o10, h10, e10, hs⟩ := bP_at hs
  obtain ⟨c10, z10, hs⟩ := ck_at hs
  refine ev_new C (ci := 13) rfl wu_13 tyX13 tyX13_ok wk_X14_13 wj_X13 wz_X13 dfX13_ok dfX13_se e10 c10 z10 dX14_init_10 ?_
  refine ev_dup C rfl dX14_init_13 ?_
  obtain ⟨h14, n14, y14, e14, hs⟩ := dN_at hs
  obtain ⟨c14, z14, hs⟩ := ck_at hs
  refine ev_callIN C (T_X13_init _ _ _ _ _ _ e14) wc_X13_init wn_X14_15 wi_X13_init wz_X13 rfl hy_X13_init ⟨(Nat.le_of_ble_eq_true rfl), (Nat.le_of_ble_eq_true rfl)⟩ ⟨c14, z14⟩ (Nat.le_of_ble_eq_true rfl) rfl dX14_init_14 ?_
  obtain ⟨h17, e17, hs⟩ := aB hs
  refine ev_put C (ci := 14) (k := 5) rfl wu_14 (by decide) tyX14 tyX14_ok nmX14 wf_X14_16 rfl trivial e17 dX14_init_17 ?_
  refine ev_aload_n C (x := .ref o) rfl trivial dX14_init_20 ?_
  obtain ⟨o21, h21, e21, hs⟩ := bP_at hs
  obtain ⟨c21, z21, hs⟩ := ck_at hs
  refine ev_new C (ci := 12) rfl wu_12 tyX12 tyX12_ok wk_X14_20 wj_X12 wz_X12 dfX12_ok dfX12_se e21 c21 z21 dX14_init_21 ?_
  refine ev_dup C rfl dX14_init_24 ?_
  obtain ⟨h25, e25, hs⟩ := cN_at hs
  obtain ⟨c25, z25, hs⟩ := ck_at hs
  refine ev_callI C (T_X12_init _ _ _ _ e25) wc_X12_init wm_X14_22 wi_X12_init wz_X12 rfl hy_X12_init ⟨(Nat.le_of_ble_eq_true rfl), (Nat.le_of_ble_eq_true rfl)⟩ ⟨c25, z25⟩ (Nat.le_of_ble_eq_true rfl) rfl dX14_init_25 ?_
  obtain ⟨h28, e28, hs⟩ := aB hs
  refine ev_putF C (ci := 14) (k := 7) rfl wu_14 (by decide) tyX14 tyX14_ok nmX14 wf_X14_23 rfl rfl rfl trivial e28 dX14_init_28 ?_
  refine ev_aload_n C (x := .ref o) rfl trivial dX14_init_31 ?_
  refine ev_sipush C (v := 400) dX14_init_32 (by decide) ?_
  obtain ⟨o35, h35, e35, hs⟩ := bP_at hs
  obtain ⟨c35, z35, hs⟩ := ck_at hs
  refine ev_newa C (atype := .byte) (ty := .byte) rfl wa_byte (fun _ _ => rfl) e35 c35 z35 dX14_init_35 ?_
  obtain ⟨h37, e37, hs⟩ := aB hs
  refine ev_putF C (ci := 14) (k := 8) rfl wu_14 (by decide) tyX14 tyX14_ok nmX14 wf_X14_27 rfl rfl rfl trivial e37 dX14_init_37 ?_
  refine ev_aload_n C (x := .ref o) rfl trivial dX14_init_40 ?_
  obtain ⟨o41, h41, e41, hs⟩ := bP_at hs
  obtain ⟨c41, z41, hs⟩ := ck_at hs
  refine ev_new C (ci := 13) rfl wu_13 tyX13 tyX13_ok wk_X14_13 wj_X13 wz_X13 dfX13_ok dfX13_se e41 c41 z41 dX14_init_41 ?_
  refine ev_dup C rfl dX14_init_44 ?_
  obtain ⟨h45, n45, y45, e45, hs⟩ := dN_at hs
  obtain ⟨c45, z45, hs⟩ := ck_at hs
  refine ev_callIN C (T_X13_init _ _ _ _ _ _ e45) wc_X13_init wn_X14_15 wi_X13_init wz_X13 rfl hy_X13_init ⟨(Nat.le_of_ble_eq_true rfl), (Nat.le_of_ble_eq_true rfl)⟩ ⟨c45, z45⟩ (Nat.le_of_ble_eq_true rfl) rfl dX14_init_45 ?_
  obtain ⟨h48, e48, hs⟩ := aB hs
  refine ev_putF C (ci := 14) (k := 19) rfl wu_14 (by decide) tyX14 tyX14_ok nmX14 wf_X14_31 rfl rfl rfl trivial e48 dX14_init_48 ?_
  refine ev_aload_n C (x := .ref o) rfl trivial dX14_init_51 ?_
  obtain ⟨o52, h52, e52, hs⟩ := bP_at hs
  obtain ⟨c52, z52, hs⟩ := ck_at hs
  refine ev_new C (ci := 13) rfl wu_13 tyX13 tyX13_ok wk_X14_13 wj_X13 wz_X13 dfX13_ok dfX13_se e52 c52 z52 dX14_init_52 ?_
  refine ev_dup C rfl dX14_init_55 ?_
  obtain ⟨h56, n56, y56, e56, hs⟩ := dN_at hs
  obtain ⟨c56, z56, hs⟩ := ck_at hs
  refine ev_callIN C (T_X13_init _ _ _ _ _ _ e56) wc_X13_init wn_X14_15 wi_X13_init wz_X13 rfl hy_X13_init ⟨(Nat.le_of_ble_eq_true rfl), (Nat.le_of_ble_eq_true rfl)⟩ ⟨c56, z56⟩ (Nat.le_of_ble_eq_true rfl) rfl dX14_init_56 ?_
  obtain ⟨h59, e59, hs⟩ := aB hs
  refine ev_putF C (ci := 14) (k := 26) rfl wu_14 (by decide) tyX14 tyX14_ok nmX14 wf_X14_34 rfl rfl rfl trivial e59 dX14_init_59 ?_
  refine ev_aload_n C (x := .ref o) rfl trivial dX14_init_62 ?_
  refine ev_sipush C (v := 400) dX14_init_63 (by decide) ?_
  obtain ⟨o66, h66, e66, hs⟩ := bP_at hs
  obtain ⟨c66, z66, hs⟩ := ck_at hs
  refine ev_newa C (atype := .boolean) (ty := .boolean) rfl wa_boolean (fun _ _ => rfl) e66 c66 z66 dX14_init_66 ?_
  obtain ⟨h68, e68, hs⟩ := aB hs
  refine ev_putF C (ci := 14) (k := 27) rfl wu_14 (by decide) tyX14 tyX14_ok nmX14 wf_X14_37 rfl rfl rfl trivial e68 dX14_init_68 ?_
  refine ev_aload_n C (x := .ref o) rfl trivial dX14_init_71 ?_
  refine ev_sipush C (v := 400) dX14_init_72 (by decide) ?_
  obtain ⟨o75, h75, e75, hs⟩ := bP_at hs
  obtain ⟨c75, z75, hs⟩ := ck_at hs
  refine ev_newa C (atype := .boolean) (ty := .boolean) rfl wa_boolean (fun _ _ => rfl) e75 c75 z75 dX14_init_75 ?_
  obtain ⟨h77, e77, hs⟩ := aB hs
  refine ev_putF C (ci := 14) (k := 28) rfl wu_14 (by decide) tyX14 tyX14_ok nmX14 wf_X14_41 rfl rfl rfl trivial e77 dX14_init_77 ?_
  refine ev_aload_n C (x := .ref o) rfl trivial dX14_init_80 ?_
  refine ev_bipush C (v := 11) dX14_init_81 (by decide) ?_
  obtain ⟨o83, h83, e83, hs⟩ := bP_at hs
  obtain ⟨c83, z83, hs⟩ := ck_at hs
  refine ev_newa C (atype := .int) (ty := .int) rfl wa_int (fun _ _ => rfl) e83 c83 z83 dX14_init_83 ?_
  obtain ⟨h85, e85, hs⟩ := aB hs
  refine ev_putF C (ci := 14) (k := 29) rfl wu_14 (by decide) tyX14 tyX14_ok nmX14 wf_X14_44 rfl rfl rfl trivial e85 dX14_init_85 ?_
  refine ev_aload_n C (x := .ref o) rfl trivial dX14_init_88 ?_
  refine ev_sipush C (v := 400) dX14_init_89 (by decide) ?_
  obtain ⟨o92, h92, e92, hs⟩ := bP_at hs
  obtain ⟨c92, z92, hs⟩ := ck_at hs
  refine ev_newa C (atype := .int) (ty := .int) rfl wa_int (fun _ _ => rfl) e92 c92 z92 dX14_init_92 ?_
  obtain ⟨h94, e94, hs⟩ := aB hs
  refine ev_putF C (ci := 14) (k := 30) rfl wu_14 (by decide) tyX14 tyX14_ok nmX14 wf_X14_48 rfl rfl rfl trivial e94 dX14_init_94 ?_
  refine ev_aload_n C (x := .ref o) rfl trivial dX14_init_97 ?_
  refine ev_sipush C (v := 400) dX14_init_98 (by decide) ?_
  obtain ⟨o101, h101, e101, hs⟩ := bP_at hs
  obtain ⟨c101, z101, hs⟩ := ck_at hs
  refine ev_newa C (atype := .int) (ty := .int) rfl wa_int (fun _ _ => rfl) e101 c101 z101 dX14_init_101 ?_
  obtain ⟨h103, e103, hs⟩ := aB hs
  refine ev_putF C (ci := 14) (k := 31) rfl wu_14 (by decide) tyX14 tyX14_ok nmX14 wf_X14_51 rfl rfl rfl trivial e103 dX14_init_103 ?_
  refine ev_aload_n C (x := .ref o) rfl trivial dX14_init_106 ?_
  refine ev_ldc C wv_X14_54 dX14_init_107 ?_
  obtain ⟨o109, h109, e109, hs⟩ := bP_at hs
  obtain ⟨c109, z109, hs⟩ := ck_at hs
  refine ev_newa C (atype := .short) (ty := .short) rfl wa_short (fun _ _ => rfl) e109 c109 z109 dX14_init_109 ?_
  obtain ⟨h111, e111, hs⟩ := aB hs
  refine ev_putF C (ci := 14) (k := 33) rfl wu_14 (by decide) tyX14 tyX14_ok nmX14 wf_X14_55 rfl rfl rfl trivial e111 dX14_init_111 ?_
  refine ev_aload_n C (x := .ref o) rfl trivial dX14_init_114 ?_
  refine ev_ldc C wv_X14_59 dX14_init_115 ?_
  obtain ⟨o117, h117, e117, hs⟩ := bP_at hs
  obtain ⟨c117, z117, hs⟩ := ck_at hs
  refine ev_newa C (atype := .int) (ty := .int) rfl wa_int (fun _ _ => rfl) e117 c117 z117 dX14_init_117 ?_
  obtain ⟨h119, e119, hs⟩ := aB hs
  refine ev_putF C (ci := 14) (k := 34) rfl wu_14 (by decide) tyX14 tyX14_ok nmX14 wf_X14_60 rfl rfl rfl trivial e119 dX14_init_119 ?_
  refine ev_aload_n C (x := .ref o) rfl trivial dX14_init_122 ?_
  refine ev_bipush C (v := 13) dX14_init_123 (by decide) ?_
  obtain ⟨o125, h125, e125, hs⟩ := bP_at hs
  obtain ⟨c125, z125, hs⟩ := ck_at hs
  refine ev_newa C (atype := .int) (ty := .int) rfl wa_int (fun _ _ => rfl) e125 c125 z125 dX14_init_125 ?_
  obtain ⟨h127, e127, hs⟩ := aB hs
  refine ev_putF C (ci := 14) (k := 35) rfl wu_14 (by decide) tyX14 tyX14_ok nmX14 wf_X14_63 rfl rfl rfl trivial e127 dX14_init_127 ?_
  refine ev_aload_n C (x := .ref o) rfl trivial dX14_init_130 ?_
  refine ev_bipush C (v := 13) dX14_init_131 (by decide) ?_
  obtain ⟨o133, h133, e133, hs⟩ := bP_at hs
  obtain ⟨c133, z133, hs⟩ := ck_at hs
  refine ev_newa C (atype := .int) (ty := .int) rfl wa_int (fun _ _ => rfl) e133 c133 z133 dX14_init_133 ?_
  obtain ⟨h135, e135, hs⟩ := aB hs
  refine ev_putF C (ci := 14) (k := 36) rfl wu_14 (by decide) tyX14 tyX14_ok nmX14 wf_X14_66 rfl rfl rfl trivial e135 dX14_init_135 ?_
  refine ev_aload_n C (x := .ref o) rfl trivial dX14_init_138 ?_
  refine ev_sipush C (v := 400) dX14_init_139 (by decide) ?_
  obtain ⟨o142, h142, e142, hs⟩ := bP_at hs
  obtain ⟨c142, z142, hs⟩ := ck_at hs
  refine ev_newa C (atype := .int) (ty := .int) rfl wa_int (fun _ _ => rfl) e142 c142 z142 dX14_init_142 ?_
  obtain ⟨h144, e144, hs⟩ := aB hs
  refine ev_putF C (ci := 14) (k := 37) rfl wu_14 (by decide) tyX14 tyX14_ok nmX14 wf_X14_69 rfl rfl rfl trivial e144 dX14_init_144 ?_
  refine ev_aload_n C (x := .ref o) rfl trivial dX14_init_147 ?_
  refine ev_bipush C (v := 39) dX14_init_148 (by decide) ?_
  obtain ⟨o150, h150, e150, hs⟩ := bP_at hs
  obtain ⟨c150, z150, hs⟩ := ck_at hs
  refine ev_newa C (atype := .int) (ty := .int) rfl wa_int (fun _ _ => rfl) e150 c150 z150 dX14_init_150 ?_
  obtain ⟨h152, e152, hs⟩ := aB hs
  refine ev_putF C (ci := 14) (k := 38) rfl wu_14 (by decide) tyX14 tyX14_ok nmX14 wf_X14_72 rfl rfl rfl trivial e152 dX14_init_152 ?_
  refine ev_aload_n C (x := .ref o) rfl trivial dX14_init_155 ?_
  refine ev_sipush C (v := 400) dX14_init_156 (by decide) ?_
  obtain ⟨o159, h159, e159, hs⟩ := bP_at hs
  obtain ⟨c159, z159, hs⟩ := ck_at hs
  refine ev_newa C (atype := .int) (ty := .int) rfl wa_int (fun _ _ => rfl) e159 c159 z159 dX14_init_159 ?_
  obtain ⟨h161, e161, hs⟩ := aB hs
  refine ev_putF C (ci := 14) (k := 39) rfl wu_14 (by decide) tyX14 tyX14_ok nmX14 wf_X14_75 rfl rfl rfl trivial e161 dX14_init_161 ?_
  refine ev_aload_n C (x := .ref o) rfl trivial dX14_init_164 ?_
  refine ev_sipush C (v := 400) dX14_init_165 (by decide) ?_
  obtain ⟨o168, h168, e168, hs⟩ := bP_at hs
  obtain ⟨c168, z168, hs⟩ := ck_at hs
  refine ev_newa C (atype := .int) (ty := .int) rfl wa_int (fun _ _ => rfl) e168 c168 z168 dX14_init_168 ?_
  obtain ⟨h170, e170, hs⟩ := aB hs
  refine ev_putF C (ci := 14) (k := 40) rfl wu_14 (by decide) tyX14 tyX14_ok nmX14 wf_X14_78 rfl rfl rfl trivial e170 dX14_init_170 ?_
  refine ev_aload_n C (x := .ref o) rfl trivial dX14_init_173 ?_
  refine ev_sipush C (v := 8400) dX14_init_174 (by decide) ?_
  obtain ⟨o177, h177, e177, hs⟩ := bP_at hs
  obtain ⟨c177, z177, hs⟩ := ck_at hs
  refine ev_newa C (atype := .int) (ty := .int) rfl wa_int (fun _ _ => rfl) e177 c177 z177 dX14_init_177 ?_
  obtain ⟨h179, e179, hs⟩ := aB hs
  refine ev_putF C (ci := 14) (k := 41) rfl wu_14 (by decide) tyX14 tyX14_ok nmX14 wf_X14_81 rfl rfl rfl trivial e179 dX14_init_179 ?_
  refine ev_aload_n C (x := .ref o) rfl trivial dX14_init_182 ?_
  refine ev_sipush C (v := 8400) dX14_init_183 (by decide) ?_
  obtain ⟨o186, h186, e186, hs⟩ := bP_at hs
  obtain ⟨c186, z186, hs⟩ := ck_at hs
  refine ev_newa C (atype := .int) (ty := .int) rfl wa_int (fun _ _ => rfl) e186 c186 z186 dX14_init_186 ?_
  obtain ⟨h188, e188, hs⟩ := aB hs
  refine ev_putF C (ci := 14) (k := 42) rfl wu_14 (by decide) tyX14 tyX14_ok nmX14 wf_X14_84 rfl rfl rfl trivial e188 dX14_init_188 ?_
  refine ev_aload_n C (x := .ref o) rfl trivial dX14_init_191 ?_
  refine ev_sipush C (v := 3600) dX14_init_192 (by decide) ?_
  obtain ⟨o195, h195, e195, hs⟩ := bP_at hs
  obtain ⟨c195, z195, hs⟩ := ck_at hs
  refine ev_newa C (atype := .boolean) (ty := .boolean) rfl wa_boolean (fun _ _ => rfl) e195 c195 z195 dX14_init_195 ?_
  obtain ⟨h197, e197, hs⟩ := aB hs
  refine ev_putF C (ci := 14) (k := 43) rfl wu_14 (by decide) tyX14 tyX14_ok nmX14 wf_X14_87 rfl rfl rfl trivial e197 dX14_init_197 ?_
  refine ev_aload_n C (x := .ref o) rfl trivial dX14_init_200 ?_
  refine ev_bipush C (v := 7) dX14_init_201 (by decide) ?_
  obtain ⟨o203, h203, e203, hs⟩ := bP_at hs
  obtain ⟨c203, z203, hs⟩ := ck_at hs
  refine ev_newa C (atype := .long) (ty := .long) rfl wa_long (fun _ _ => rfl) e203 c203 z203 dX14_init_203 ?_
  obtain ⟨h205, e205, hs⟩ := aB hs
  refine ev_putF C (ci := 14) (k := 44) rfl wu_14 (by decide) tyX14 tyX14_ok nmX14 wf_X14_90 rfl rfl rfl trivial e205 dX14_init_205 ?_
  refine ev_aload_n C (x := .ref o) rfl trivial dX14_init_208 ?_
  refine ev_bipush C (v := 9) dX14_init_209 (by decide) ?_
  obtain ⟨o211, h211, e211, hs⟩ := bP_at hs
  obtain ⟨c211, z211, hs⟩ := ck_at hs
  refine ev_newa C (atype := .int) (ty := .int) rfl wa_int (fun _ _ => rfl) e211 c211 z211 dX14_init_211 ?_
  obtain ⟨h213, e213, hs⟩ := aB hs
  refine ev_putF C (ci := 14) (k := 45) rfl wu_14 (by decide) tyX14 tyX14_ok nmX14 wf_X14_94 rfl rfl rfl trivial e213 dX14_init_213 ?_
  refine ev_aload_n C (x := .ref o) rfl trivial dX14_init_216 ?_
  refine ev_bipush C (v := 6) dX14_init_217 (by decide) ?_
  obtain ⟨o219, h219, e219, hs⟩ := bP_at hs
  obtain ⟨c219, z219, hs⟩ := ck_at hs
  refine ev_newa C (atype := .int) (ty := .int) rfl wa_int (fun _ _ => rfl) e219 c219 z219 dX14_init_219 ?_
  obtain ⟨h221, e221, hs⟩ := aB hs
  refine ev_putF C (ci := 14) (k := 46) rfl wu_14 (by decide) tyX14 tyX14_ok nmX14 wf_X14_97 rfl rfl rfl trivial e221 dX14_init_221 ?_
  refine ev_aload_n C (x := .ref o) rfl trivial dX14_init_224 ?_
  refine ev_bipush C (v := 6) dX14_init_225 (by decide) ?_
  obtain ⟨o227, h227, e227, hs⟩ := bP_at hs
  obtain ⟨c227, z227, hs⟩ := ck_at hs
  refine ev_newa C (atype := .int) (ty := .int) rfl wa_int (fun _ _ => rfl) e227 c227 z227 dX14_init_227 ?_
  obtain ⟨h229, e229, hs⟩ := aB hs
  refine ev_putF C (ci := 14) (k := 47) rfl wu_14 (by decide) tyX14 tyX14_ok nmX14 wf_X14_100 rfl rfl rfl trivial e229 dX14_init_229 ?_
  refine ev_aload_n C (x := .ref o) rfl trivial dX14_init_232 ?_
  refine ev_sipush C (v := 400) dX14_init_233 (by decide) ?_
  obtain ⟨o236, h236, e236, hs⟩ := bP_at hs
  obtain ⟨c236, z236, hs⟩ := ck_at hs
  refine ev_newa C (atype := .int) (ty := .int) rfl wa_int (fun _ _ => rfl) e236 c236 z236 dX14_init_236 ?_
  obtain ⟨h238, e238, hs⟩ := aB hs
  refine ev_putF C (ci := 14) (k := 48) rfl wu_14 (by decide) tyX14 tyX14_ok nmX14 wf_X14_103 rfl rfl rfl trivial e238 dX14_init_238 ?_
  refine ev_aload_n C (x := .ref o) rfl trivial dX14_init_241 ?_
  refine ev_sipush C (v := 400) dX14_init_242 (by decide) ?_
  obtain ⟨o245, h245, e245, hs⟩ := bP_at hs
  obtain ⟨c245, z245, hs⟩ := ck_at hs
  refine ev_newa C (atype := .long) (ty := .long) rfl wa_long (fun _ _ => rfl) e245 c245 z245 dX14_init_245 ?_
  obtain ⟨h247, e247, hs⟩ := aB hs
  refine ev_putF C (ci := 14) (k := 49) rfl wu_14 (by decide) tyX14 tyX14_ok nmX14 wf_X14_106 rfl rfl rfl trivial e247 dX14_init_247 ?_
  refine ev_aload_n C (x := .ref o) rfl trivial dX14_init_250 ?_
  refine ev_bipush C (v := 18) dX14_init_251 (by decide) ?_
  obtain ⟨o253, h253, e253, hs⟩ := bP_at hs
  obtain ⟨c253, z253, hs⟩ := ck_at hs
  refine ev_newa C (atype := .long) (ty := .long) rfl wa_long (fun _ _ => rfl) e253 c253 z253 dX14_init_253 ?_
  obtain ⟨h255, e255, hs⟩ := aB hs
  refine ev_putF C (ci := 14) (k := 51) rfl wu_14 (by decide) tyX14 tyX14_ok nmX14 wf_X14_109 rfl rfl rfl trivial e255 dX14_init_255 ?_
  refine ev_aload_n C (x := .ref o) rfl trivial dX14_init_258 ?_
  refine ev_iconst C (v := 3) dX14_init_259 (by decide) ?_
  obtain ⟨o260, h260, e260, hs⟩ := bP_at hs
  obtain ⟨c260, z260, hs⟩ := ck_at hs
  refine ev_newa C (atype := .long) (ty := .long) rfl wa_long (fun _ _ => rfl) e260 c260 z260 dX14_init_260 ?_
  obtain ⟨h262, e262, hs⟩ := aB hs
  refine ev_putF C (ci := 14) (k := 52) rfl wu_14 (by decide) tyX14 tyX14_ok nmX14 wf_X14_112 rfl rfl rfl trivial e262 dX14_init_262 ?_
  refine ev_aload_n C (x := .ref o) rfl trivial dX14_init_265 ?_
  refine ev_iconst C (v := 3) dX14_init_266 (by decide) ?_
  obtain ⟨o267, h267, e267, hs⟩ := bP_at hs
  obtain ⟨c267, z267, hs⟩ := ck_at hs
  refine ev_newa C (atype := .long) (ty := .long) rfl wa_long (fun _ _ => rfl) e267 c267 z267 dX14_init_267 ?_
  obtain ⟨h269, e269, hs⟩ := aB hs
  refine ev_putF C (ci := 14) (k := 53) rfl wu_14 (by decide) tyX14 tyX14_ok nmX14 wf_X14_115 rfl rfl rfl trivial e269 dX14_init_269 ?_
  refine ev_aload_n C (x := .ref o) rfl trivial dX14_init_272 ?_
  refine ev_bipush C (v := 9) dX14_init_273 (by decide) ?_
  obtain ⟨o275, h275, e275, hs⟩ := bP_at hs
  obtain ⟨c275, z275, hs⟩ := ck_at hs
  refine ev_newa C (atype := .long) (ty := .long) rfl wa_long (fun _ _ => rfl) e275 c275 z275 dX14_init_275 ?_
  obtain ⟨h277, e277, hs⟩ := aB hs
  refine ev_putF C (ci := 14) (k := 54) rfl wu_14 (by decide) tyX14 tyX14_ok nmX14 wf_X14_118 rfl rfl rfl trivial e277 dX14_init_277 ?_
  refine ev_aload_n C (x := .ref o) rfl trivial dX14_init_280 ?_
  refine ev_bipush C (v := 9) dX14_init_281 (by decide) ?_
  obtain ⟨o283, h283, e283, hs⟩ := bP_at hs
  obtain ⟨c283, z283, hs⟩ := ck_at hs
  refine ev_newa C (atype := .long) (ty := .long) rfl wa_long (fun _ _ => rfl) e283 c283 z283 dX14_init_283 ?_
  obtain ⟨h285, e285, hs⟩ := aB hs
  refine ev_putF C (ci := 14) (k := 55) rfl wu_14 (by decide) tyX14 tyX14_ok nmX14 wf_X14_121 rfl rfl rfl trivial e285 dX14_init_285 ?_
  refine ev_aload_n C (x := .ref o) rfl trivial dX14_init_288 ?_
  refine ev_bipush C (v := 9) dX14_init_289 (by decide) ?_
  obtain ⟨o291, h291, e291, hs⟩ := bP_at hs
  obtain ⟨c291, z291, hs⟩ := ck_at hs
  refine ev_newa C (atype := .long) (ty := .long) rfl wa_long (fun _ _ => rfl) e291 c291 z291 dX14_init_291 ?_
  obtain ⟨h293, e293, hs⟩ := aB hs
  refine ev_putF C (ci := 14) (k := 57) rfl wu_14 (by decide) tyX14 tyX14_ok nmX14 wf_X14_124 rfl rfl rfl trivial e293 dX14_init_293 ?_
  refine ev_aload_n C (x := .ref o) rfl trivial dX14_init_296 ?_
  refine ev_iconst C (v := 4) dX14_init_297 (by decide) ?_
  obtain ⟨o298, h298, e298, hs⟩ := bP_at hs
  obtain ⟨c298, z298, hs⟩ := ck_at hs
  refine ev_newa C (atype := .long) (ty := .long) rfl wa_long (fun _ _ => rfl) e298 c298 z298 dX14_init_298 ?_
  obtain ⟨h300, e300, hs⟩ := aB hs
  refine ev_putF C (ci := 14) (k := 58) rfl wu_14 (by decide) tyX14 tyX14_ok nmX14 wf_X14_127 rfl rfl rfl trivial e300 dX14_init_300 ?_
  refine ev_aload_n C (x := .ref o) rfl trivial dX14_init_303 ?_
  refine ev_bipush C (v := 31) dX14_init_304 (by decide) ?_
  obtain ⟨o306, h306, e306, hs⟩ := bP_at hs
  obtain ⟨c306, z306, hs⟩ := ck_at hs
  refine ev_newa C (atype := .int) (ty := .int) rfl wa_int (fun _ _ => rfl) e306 c306 z306 dX14_init_306 ?_
  obtain ⟨h308, e308, hs⟩ := aB hs
  refine ev_putF C (ci := 14) (k := 60) rfl wu_14 (by decide) tyX14 tyX14_ok nmX14 wf_X14_130 rfl rfl rfl trivial e308 dX14_init_308 ?_
  refine ev_aload_n C (x := .ref o) rfl trivial dX14_init_311 ?_
  refine ev_bipush C (v := 62) dX14_init_312 (by decide) ?_
  obtain ⟨o314, h314, e314, hs⟩ := bP_at hs
  obtain ⟨c314, z314, hs⟩ := ck_at hs
  refine ev_newa C (atype := .int) (ty := .int) rfl wa_int (fun _ _ => rfl) e314 c314 z314 dX14_init_314 ?_
  obtain ⟨h316, e316, hs⟩ := aB hs
  refine ev_putF C (ci := 14) (k := 61) rfl wu_14 (by decide) tyX14 tyX14_ok nmX14 wf_X14_133 rfl rfl rfl trivial e316 dX14_init_316 ?_
  refine ev_aload_n C (x := .ref o) rfl trivial dX14_init_319 ?_
  refine ev_bipush C (v := 62) dX14_init_320 (by decide) ?_
  obtain ⟨o322, h322, e322, hs⟩ := bP_at hs
  obtain ⟨c322, z322, hs⟩ := ck_at hs
  refine ev_newa C (atype := .int) (ty := .int) rfl wa_int (fun _ _ => rfl) e322 c322 z322 dX14_init_322 ?_
  obtain ⟨h324, e324, hs⟩ := aB hs
  refine ev_putF C (ci := 14) (k := 62) rfl wu_14 (by decide) tyX14 tyX14_ok nmX14 wf_X14_136 rfl rfl rfl trivial e324 dX14_init_324 ?_
  refine ev_aload_n C (x := .ref o) rfl trivial dX14_init_327 ?_
  refine ev_sipush C (v := 400) dX14_init_328 (by decide) ?_
  obtain ⟨o331, h331, e331, hs⟩ := bP_at hs
  obtain ⟨c331, z331, hs⟩ := ck_at hs
  refine ev_newa C (atype := .boolean) (ty := .boolean) rfl wa_boolean (fun _ _ => rfl) e331 c331 z331 dX14_init_331 ?_
  obtain ⟨h333, e333, hs⟩ := aB hs
  refine ev_putF C (ci := 14) (k := 63) rfl wu_14 (by decide) tyX14 tyX14_ok nmX14 wf_X14_139 rfl rfl rfl trivial e333 dX14_init_333 ?_
  refine ev_aload_n C (x := .ref o) rfl trivial dX14_init_336 ?_
  refine ev_sipush C (v := 400) dX14_init_337 (by decide) ?_
  obtain ⟨o340, h340, e340, hs⟩ := bP_at hs
  obtain ⟨c340, z340, hs⟩ := ck_at hs
  refine ev_newa C (atype := .boolean) (ty := .boolean) rfl wa_boolean (fun _ _ => rfl) e340 c340 z340 dX14_init_340 ?_
  obtain ⟨h342, e342, hs⟩ := aB hs
  refine ev_putF C (ci := 14) (k := 64) rfl wu_14 (by decide) tyX14 tyX14_ok nmX14 wf_X14_142 rfl rfl rfl trivial e342 dX14_init_342 ?_
  refine ev_aload_n C (x := .ref o) rfl trivial dX14_init_345 ?_
  refine ev_sipush C (v := 400) dX14_init_346 (by decide) ?_
  obtain ⟨o349, h349, e349, hs⟩ := bP_at hs
  obtain ⟨c349, z349, hs⟩ := ck_at hs
  refine ev_newa C (atype := .boolean) (ty := .boolean) rfl wa_boolean (fun _ _ => rfl) e349 c349 z349 dX14_init_349 ?_
  obtain ⟨h351, e351, hs⟩ := aB hs
  refine ev_putF C (ci := 14) (k := 65) rfl wu_14 (by decide) tyX14 tyX14_ok nmX14 wf_X14_145 rfl rfl rfl trivial e351 dX14_init_351 ?_
  refine ev_aload_n C (x := .ref o) rfl trivial dX14_init_354 ?_
  refine ev_iconst C (v := 3) dX14_init_355 (by decide) ?_
  obtain ⟨o356, h356, e356, hs⟩ := bP_at hs
  obtain ⟨c356, z356, hs⟩ := ck_at hs
  refine ev_newa C (atype := .int) (ty := .int) rfl wa_int (fun _ _ => rfl) e356 c356 z356 dX14_init_356 ?_
  obtain ⟨h358, e358, hs⟩ := aB hs
  refine ev_putF C (ci := 14) (k := 66) rfl wu_14 (by decide) tyX14 tyX14_ok nmX14 wf_X14_148 rfl rfl rfl trivial e358 dX14_init_358 ?_
  refine ev_aload_n C (x := .ref o) rfl trivial dX14_init_361 ?_
  refine ev_sipush C (v := 400) dX14_init_362 (by decide) ?_
  obtain ⟨o365, h365, e365, hs⟩ := bP_at hs
  obtain ⟨c365, z365, hs⟩ := ck_at hs
  refine ev_newa C (atype := .int) (ty := .int) rfl wa_int (fun _ _ => rfl) e365 c365 z365 dX14_init_365 ?_
  obtain ⟨hw9, rfl, rfl⟩ := wC_at hs
  have hs := hw9
  obtain ⟨h367, e367, hs⟩ := aB hs
  refine ev_putF C (ci := 14) (k := 69) rfl wu_14 (by decide) tyX14 tyX14_ok nmX14 wf_X14_151 rfl rfl rfl trivial e367 dX14_init_367 ?_
  cases hs
  exact ev_vret C rfl rfl (Nat.le_refl _) (Nat.le_refl _) rfl dX14_init_370
end
-- X14_thrown
theorem dX14_thrown_0 : decode cX14_thrown 0 = .ok (.aload_n 0, 1) := by decide +kernel
theorem dX14_thrown_1 : decode cX14_thrown 1 = .ok (.getfield 154, 3) := by decide +kernel
theorem dX14_thrown_4 : decode cX14_thrown 4 = .ok (.ireturn, 1) := by decide +kernel
def s_X14_thrown (o : Nat) (h : aH) : aO :=
  (gI h (.ref o) 14 0).bind fun x1 => some (.inl (some (.int x1)), h)
section
variable {p : Program} {l : Launch} {e : Env} {s : State} {m : MethodId} {args : Array Value} {below : List Frame} {meth : Method} {c : Code} {D : va_G} {B0 : Nat} {X : Nat → Nat} {ws0 : va_W} {r : aR} {h' : aH} {mc ms : Nat}
theorem hy_X14_thrown : yX14_thrown.cls ≠ "java/lang/invoke/MethodHandle" ∧ yX14_thrown.cls ≠ "java/lang/invoke/VarHandle" ∧ (parseMethodDescriptor yX14_thrown.desc).map (fun d => d.parameters.length) = some 0 := by decide +kernel
theorem T_X14_thrown (o : Nat) (h : aH) (r : aR) (h' : aH) (hs : s_X14_thrown o h = some (r, h')) : Mt yX14_thrown (Cond.code yX14_thrown cX14_thrown 1 (some .int) :: aTB) 0 0 0 0 [.ref o] h r h' := by
  unfold s_X14_thrown at hs
  refine Mt_of (k := 0) (by decide) rfl (fun p l e s m args below meth c D B0 X ws0 C => ?_)
  show Ev p l e { frames := 0, cells := 0, slots := 0, locals := 0 } s m args below meth c D B0 X ws0 r h' 0 0 1 0 0 0 [some (.ref o)] [] h
  refine ev_aload_n C (x := .ref o) rfl trivial dX14_thrown_0 ?_
  obtain ⟨x1, e1, hs⟩ := aB hs
  refine ev_get C (ci := 14) (k := 0) rfl wu_14 (by decide) wf_X14_154 (gI_F e1) dX14_thrown_1 ?_
  cases hs
  exact ev_iret C rfl rfl (Nat.le_refl _) (Nat.le_refl _) rfl dX14_thrown_4
end
-- X14_refused
theorem dX14_refused_0 : decode cX14_refused 0 = .ok (.aload_n 0, 1) := by decide +kernel
theorem dX14_refused_1 : decode cX14_refused 1 = .ok (.iload_n 1, 1) := by decide +kernel
theorem dX14_refused_2 : decode cX14_refused 2 = .ok (.putfield 157, 3) := by decide +kernel
theorem dX14_refused_5 : decode cX14_refused 5 = .ok (.aload_n 0, 1) := by decide +kernel
theorem dX14_refused_6 : decode cX14_refused 6 = .ok (.iconst (-1), 1) := by decide +kernel
theorem dX14_refused_7 : decode cX14_refused 7 = .ok (.putfield 9, 3) := by decide +kernel
theorem dX14_refused_10 : decode cX14_refused 10 = .ok (.iconst (-1), 1) := by decide +kernel
theorem dX14_refused_11 : decode cX14_refused 11 = .ok (.ireturn, 1) := by decide +kernel
def s_X14_refused (o : Nat) (a1 : Int32) (h : aH) : aO :=
  (pF h (.ref o) 14 1 (.int a1)).bind fun h2 => (pF h2 (.ref o) 14 2 (.int (-1))).bind fun h7 => some (.inl (some (.int (-1))), h7)
section
variable {p : Program} {l : Launch} {e : Env} {s : State} {m : MethodId} {args : Array Value} {below : List Frame} {meth : Method} {c : Code} {D : va_G} {B0 : Nat} {X : Nat → Nat} {ws0 : va_W} {r : aR} {h' : aH} {mc ms : Nat}
theorem hy_X14_refused : yX14_refused.cls ≠ "java/lang/invoke/MethodHandle" ∧ yX14_refused.cls ≠ "java/lang/invoke/VarHandle" ∧ (parseMethodDescriptor yX14_refused.desc).map (fun d => d.parameters.length) = some 1 := by decide +kernel
theorem T_X14_refused (o : Nat) (a1 : Int32) (h : aH) (r : aR) (h' : aH) (hs : s_X14_refused o a1 h = some (r, h')) : Mt yX14_refused (Cond.code yX14_refused cX14_refused 2 (some .int) :: aTB) 0 0 0 0 [.ref o, .int a1] h r h' := by
  unfold s_X14_refused at hs
  refine Mt_of (k := 0) (by decide) rfl (fun p l e s m args below meth c D B0 X ws0 C => ?_)
  show Ev p l e { frames := 0, cells := 0, slots := 0, locals := 0 } s m args below meth c D B0 X ws0 r h' 0 0 2 0 0 0 [some (.ref o), some (.int a1)] [] h
  refine ev_aload_n C (x := .ref o) rfl trivial dX14_refused_0 ?_
  refine ev_iload_n C rfl dX14_refused_1 ?_
  obtain ⟨h2, e2, hs⟩ := aB hs
  refine ev_put C (ci := 14) (k := 1) rfl wu_14 (by decide) tyX14 tyX14_ok nmX14 wf_X14_157 rfl trivial e2 dX14_refused_2 ?_
  refine ev_aload_n C (x := .ref o) rfl trivial dX14_refused_5 ?_
  refine ev_iconst C (v := (-1)) dX14_refused_6 (by decide) ?_
  obtain ⟨h7, e7, hs⟩ := aB hs
  refine ev_put C (ci := 14) (k := 2) rfl wu_14 (by decide) tyX14 tyX14_ok nmX14 wf_X14_9 rfl trivial e7 dX14_refused_7 ?_
  refine ev_iconst C (v := (-1)) dX14_refused_10 (by decide) ?_
  cases hs
  exact ev_iret C rfl rfl (Nat.le_refl _) (Nat.le_refl _) rfl dX14_refused_11
end
-- X14_lost
theorem dX14_lost_0 : decode cX14_lost 0 = .ok (.aload_n 0, 1) := by decide +kernel
theorem dX14_lost_1 : decode cX14_lost 1 = .ok (.iload_n 1, 1) := by decide +kernel
theorem dX14_lost_2 : decode cX14_lost 2 = .ok (.putfield 157, 3) := by decide +kernel
theorem dX14_lost_5 : decode cX14_lost 5 = .ok (.aload_n 0, 1) := by decide +kernel
theorem dX14_lost_6 : decode cX14_lost 6 = .ok (.iconst (-1), 1) := by decide +kernel
theorem dX14_lost_7 : decode cX14_lost 7 = .ok (.putfield 9, 3) := by decide +kernel
theorem dX14_lost_10 : decode cX14_lost 10 = .ok (.ldc 162, 2) := by decide +kernel
theorem dX14_lost_12 : decode cX14_lost 12 = .ok (.ireturn, 1) := by decide +kernel
def s_X14_lost (o : Nat) (a1 : Int32) (h : aH) : aO :=
  (pF h (.ref o) 14 1 (.int a1)).bind fun h2 => (pF h2 (.ref o) 14 2 (.int (-1))).bind fun h7 => some (.inl (some (.int (-2147483648))), h7)
section
variable {p : Program} {l : Launch} {e : Env} {s : State} {m : MethodId} {args : Array Value} {below : List Frame} {meth : Method} {c : Code} {D : va_G} {B0 : Nat} {X : Nat → Nat} {ws0 : va_W} {r : aR} {h' : aH} {mc ms : Nat}
theorem hy_X14_lost : yX14_lost.cls ≠ "java/lang/invoke/MethodHandle" ∧ yX14_lost.cls ≠ "java/lang/invoke/VarHandle" ∧ (parseMethodDescriptor yX14_lost.desc).map (fun d => d.parameters.length) = some 1 := by decide +kernel
theorem T_X14_lost (o : Nat) (a1 : Int32) (h : aH) (r : aR) (h' : aH) (hs : s_X14_lost o a1 h = some (r, h')) : Mt yX14_lost (Cond.code yX14_lost cX14_lost 2 (some .int) :: aTB) 0 0 0 0 [.ref o, .int a1] h r h' := by
  unfold s_X14_lost at hs
  refine Mt_of (k := 0) (by decide) rfl (fun p l e s m args below meth c D B0 X ws0 C => ?_)
  show Ev p l e { frames := 0, cells := 0, slots := 0, locals := 0 } s m args below meth c D B0 X ws0 r h' 0 0 2 0 0 0 [some (.ref o), some (.int a1)] [] h
  refine ev_aload_n C (x := .ref o) rfl trivial dX14_lost_0 ?_
  refine ev_iload_n C rfl dX14_lost_1 ?_
  obtain ⟨h2, e2, hs⟩ := aB hs
  refine ev_put C (ci := 14) (k := 1) rfl wu_14 (by decide) tyX14 tyX14_ok nmX14 wf_X14_157 rfl trivial e2 dX14_lost_2 ?_
  refine ev_aload_n C (x := .ref o) rfl trivial dX14_lost_5 ?_
  refine ev_iconst C (v := (-1)) dX14_lost_6 (by decide) ?_
  obtain ⟨h7, e7, hs⟩ := aB hs
  refine ev_put C (ci := 14) (k := 2) rfl wu_14 (by decide) tyX14 tyX14_ok nmX14 wf_X14_9 rfl trivial e7 dX14_lost_7 ?_
  refine ev_ldc C wv_X14_162 dX14_lost_10 ?_
  cases hs
  exact ev_iret C rfl rfl (Nat.le_refl _) (Nat.le_refl _) rfl dX14_lost_12
end
-- X14_denied
theorem dX14_denied_0 : decode cX14_denied 0 = .ok (.aload_n 0, 1) := by decide +kernel
theorem dX14_denied_1 : decode cX14_denied 1 = .ok (.iload_n 1, 1) := by decide +kernel
theorem dX14_denied_2 : decode cX14_denied 2 = .ok (.putfield 157, 3) := by decide +kernel
theorem dX14_denied_5 : decode cX14_denied 5 = .ok (.aload_n 0, 1) := by decide +kernel
theorem dX14_denied_6 : decode cX14_denied 6 = .ok (.iconst (-1), 1) := by decide +kernel
theorem dX14_denied_7 : decode cX14_denied 7 = .ok (.putfield 9, 3) := by decide +kernel
theorem dX14_denied_10 : decode cX14_denied 10 = .ok (.iconst 0, 1) := by decide +kernel
theorem dX14_denied_11 : decode cX14_denied 11 = .ok (.ireturn, 1) := by decide +kernel
def s_X14_denied (o : Nat) (a1 : Int32) (h : aH) : aO :=
  (pF h (.ref o) 14 1 (.int a1)).bind fun h2 => (pF h2 (.ref o) 14 2 (.int (-1))).bind fun h7 => rtZ 0 h7
section
variable {p : Program} {l : Launch} {e : Env} {s : State} {m : MethodId} {args : Array Value} {below : List Frame} {meth : Method} {c : Code} {D : va_G} {B0 : Nat} {X : Nat → Nat} {ws0 : va_W} {r : aR} {h' : aH} {mc ms : Nat}
theorem hy_X14_denied : yX14_denied.cls ≠ "java/lang/invoke/MethodHandle" ∧ yX14_denied.cls ≠ "java/lang/invoke/VarHandle" ∧ (parseMethodDescriptor yX14_denied.desc).map (fun d => d.parameters.length) = some 1 := by decide +kernel
theorem T_X14_denied (o : Nat) (a1 : Int32) (h : aH) (r : aR) (h' : aH) (hs : s_X14_denied o a1 h = some (r, h')) : Mt yX14_denied (Cond.code yX14_denied cX14_denied 2 (some .boolean) :: aTB) 0 0 0 0 [.ref o, .int a1] h r h' := by
  unfold s_X14_denied at hs
  refine Mt_of (k := 0) (by decide) rfl (fun p l e s m args below meth c D B0 X ws0 C => ?_)
  show Ev p l e { frames := 0, cells := 0, slots := 0, locals := 0 } s m args below meth c D B0 X ws0 r h' 0 0 2 0 0 0 [some (.ref o), some (.int a1)] [] h
  refine ev_aload_n C (x := .ref o) rfl trivial dX14_denied_0 ?_
  refine ev_iload_n C rfl dX14_denied_1 ?_
  obtain ⟨h2, e2, hs⟩ := aB hs
  refine ev_put C (ci := 14) (k := 1) rfl wu_14 (by decide) tyX14 tyX14_ok nmX14 wf_X14_157 rfl trivial e2 dX14_denied_2 ?_
  refine ev_aload_n C (x := .ref o) rfl trivial dX14_denied_5 ?_
  refine ev_iconst C (v := (-1)) dX14_denied_6 (by decide) ?_
  obtain ⟨h7, e7, hs⟩ := aB hs
  refine ev_put C (ci := 14) (k := 2) rfl wu_14 (by decide) tyX14 tyX14_ok nmX14 wf_X14_9 rfl trivial e7 dX14_denied_7 ?_
  refine ev_iconst C (v := 0) dX14_denied_10 (by decide) ?_
  obtain ⟨hz, rfl, rfl⟩ := rtZ_at hs
  exact ev_zret C rfl hz rfl (Nat.le_refl _) (Nat.le_refl _) rfl dX14_denied_11
end
-- X14_done
theorem dX14_done_0 : decode cX14_done 0 = .ok (.aload_n 0, 1) := by decide +kernel
theorem dX14_done_1 : decode cX14_done 1 = .ok (.iconst 0, 1) := by decide +kernel
theorem dX14_done_2 : decode cX14_done 2 = .ok (.putfield 157, 3) := by decide +kernel
theorem dX14_done_5 : decode cX14_done 5 = .ok (.aload_n 0, 1) := by decide +kernel
theorem dX14_done_6 : decode cX14_done 6 = .ok (.iconst (-1), 1) := by decide +kernel
theorem dX14_done_7 : decode cX14_done 7 = .ok (.putfield 9, 3) := by decide +kernel
theorem dX14_done_10 : decode cX14_done 10 = .ok (.iload_n 1, 1) := by decide +kernel
theorem dX14_done_11 : decode cX14_done 11 = .ok (.ireturn, 1) := by decide +kernel
def s_X14_done (o : Nat) (a1 : Int32) (h : aH) : aO :=
  (pF h (.ref o) 14 1 (.int 0)).bind fun h2 => (pF h2 (.ref o) 14 2 (.int (-1))).bind fun h7 => some (.inl (some (.int a1)), h7)
section
variable {p : Program} {l : Launch} {e : Env} {s : State} {m : MethodId} {args : Array Value} {below : List Frame} {meth : Method} {c : Code} {D : va_G} {B0 : Nat} {X : Nat → Nat} {ws0 : va_W} {r : aR} {h' : aH} {mc ms : Nat}
theorem hy_X14_done : yX14_done.cls ≠ "java/lang/invoke/MethodHandle" ∧ yX14_done.cls ≠ "java/lang/invoke/VarHandle" ∧ (parseMethodDescriptor yX14_done.desc).map (fun d => d.parameters.length) = some 1 := by decide +kernel
theorem T_X14_done (o : Nat) (a1 : Int32) (h : aH) (r : aR) (h' : aH) (hs : s_X14_done o a1 h = some (r, h')) : Mt yX14_done (Cond.code yX14_done cX14_done 2 (some .int) :: aTB) 0 0 0 0 [.ref o, .int a1] h r h' := by
  unfold s_X14_done at hs
  refine Mt_of (k := 0) (by decide) rfl (fun p l e s m args below meth c D B0 X ws0 C => ?_)
  show Ev p l e { frames := 0, cells := 0, slots := 0, locals := 0 } s m args below meth c D B0 X ws0 r h' 0 0 2 0 0 0 [some (.ref o), some (.int a1)] [] h
  refine ev_aload_n C (x := .ref o) rfl trivial dX14_done_0 ?_
  refine ev_iconst C (v := 0) dX14_done_1 (by decide) ?_
  obtain ⟨h2, e2, hs⟩ := aB hs
  refine ev_put C (ci := 14) (k := 1) rfl wu_14 (by decide) tyX14 tyX14_ok nmX14 wf_X14_157 rfl trivial e2 dX14_done_2 ?_
  refine ev_aload_n C (x := .ref o) rfl trivial dX14_done_5 ?_
  refine ev_iconst C (v := (-1)) dX14_done_6 (by decide) ?_
  obtain ⟨h7, e7, hs⟩ := aB hs
  refine ev_put C (ci := 14) (k := 2) rfl wu_14 (by decide) tyX14 tyX14_ok nmX14 wf_X14_9 rfl trivial e7 dX14_done_7 ?_
  refine ev_iload_n C rfl dX14_done_10 ?_
  cases hs
  exact ev_iret C rfl rfl (Nat.le_refl _) (Nat.le_refl _) rfl dX14_done_11
end
-- X14_granted
theorem dX14_granted_0 : decode cX14_granted 0 = .ok (.aload_n 0, 1) := by decide +kernel
theorem dX14_granted_1 : decode cX14_granted 1 = .ok (.iconst 0, 1) := by decide +kernel
theorem dX14_granted_2 : decode cX14_granted 2 = .ok (.putfield 157, 3) := by decide +kernel
theorem dX14_granted_5 : decode cX14_granted 5 = .ok (.aload_n 0, 1) := by decide +kernel
theorem dX14_granted_6 : decode cX14_granted 6 = .ok (.iconst (-1), 1) := by decide +kernel
theorem dX14_granted_7 : decode cX14_granted 7 = .ok (.putfield 9, 3) := by decide +kernel
theorem dX14_granted_10 : decode cX14_granted 10 = .ok (.iconst 1, 1) := by decide +kernel
theorem dX14_granted_11 : decode cX14_granted 11 = .ok (.ireturn, 1) := by decide +kernel
def s_X14_granted (o : Nat) (h : aH) : aO :=
  (pF h (.ref o) 14 1 (.int 0)).bind fun h2 => (pF h2 (.ref o) 14 2 (.int (-1))).bind fun h7 => rtZ 1 h7
section
variable {p : Program} {l : Launch} {e : Env} {s : State} {m : MethodId} {args : Array Value} {below : List Frame} {meth : Method} {c : Code} {D : va_G} {B0 : Nat} {X : Nat → Nat} {ws0 : va_W} {r : aR} {h' : aH} {mc ms : Nat}
theorem hy_X14_granted : yX14_granted.cls ≠ "java/lang/invoke/MethodHandle" ∧ yX14_granted.cls ≠ "java/lang/invoke/VarHandle" ∧ (parseMethodDescriptor yX14_granted.desc).map (fun d => d.parameters.length) = some 0 := by decide +kernel
theorem T_X14_granted (o : Nat) (h : aH) (r : aR) (h' : aH) (hs : s_X14_granted o h = some (r, h')) : Mt yX14_granted (Cond.code yX14_granted cX14_granted 1 (some .boolean) :: aTB) 0 0 0 0 [.ref o] h r h' := by
  unfold s_X14_granted at hs
  refine Mt_of (k := 0) (by decide) rfl (fun p l e s m args below meth c D B0 X ws0 C => ?_)
  show Ev p l e { frames := 0, cells := 0, slots := 0, locals := 0 } s m args below meth c D B0 X ws0 r h' 0 0 1 0 0 0 [some (.ref o)] [] h
  refine ev_aload_n C (x := .ref o) rfl trivial dX14_granted_0 ?_
  refine ev_iconst C (v := 0) dX14_granted_1 (by decide) ?_
  obtain ⟨h2, e2, hs⟩ := aB hs
  refine ev_put C (ci := 14) (k := 1) rfl wu_14 (by decide) tyX14 tyX14_ok nmX14 wf_X14_157 rfl trivial e2 dX14_granted_2 ?_
  refine ev_aload_n C (x := .ref o) rfl trivial dX14_granted_5 ?_
  refine ev_iconst C (v := (-1)) dX14_granted_6 (by decide) ?_
  obtain ⟨h7, e7, hs⟩ := aB hs
  refine ev_put C (ci := 14) (k := 2) rfl wu_14 (by decide) tyX14 tyX14_ok nmX14 wf_X14_9 rfl trivial e7 dX14_granted_7 ?_
  refine ev_iconst C (v := 1) dX14_granted_10 (by decide) ?_
  obtain ⟨hz, rfl, rfl⟩ := rtZ_at hs
  exact ev_zret C rfl hz rfl (Nat.le_refl _) (Nat.le_refl _) rfl dX14_granted_11
end
-- X14_in
theorem dX14_in_0 : decode cX14_in 0 = .ok (.iload_n 0, 1) := by decide +kernel
theorem dX14_in_1 : decode cX14_in 1 = .ok (.iload_n 1, 1) := by decide +kernel
theorem dX14_in_2 : decode cX14_in 2 = .ok (.if_icmp .lt 12, 3) := by decide +kernel
theorem dX14_in_5 : decode cX14_in 5 = .ok (.iload_n 0, 1) := by decide +kernel
theorem dX14_in_6 : decode cX14_in 6 = .ok (.iload_n 2, 1) := by decide +kernel
theorem dX14_in_7 : decode cX14_in 7 = .ok (.if_icmp .gt 7, 3) := by decide +kernel
theorem dX14_in_10 : decode cX14_in 10 = .ok (.iconst 1, 1) := by decide +kernel
theorem dX14_in_11 : decode cX14_in 11 = .ok (.goto 4, 3) := by decide +kernel
theorem dX14_in_14 : decode cX14_in 14 = .ok (.iconst 0, 1) := by decide +kernel
theorem dX14_in_15 : decode cX14_in 15 = .ok (.ireturn, 1) := by decide +kernel
def s_X14_in (a1 : Int32) (a2 : Int32) (a3 : Int32) (h : aH) : aO :=
  if a1 < a2 then (rtZ 0 h) else (if a3 < a1 then (rtZ 0 h) else (rtZ 1 h))
section
variable {p : Program} {l : Launch} {e : Env} {s : State} {m : MethodId} {args : Array Value} {below : List Frame} {meth : Method} {c : Code} {D : va_G} {B0 : Nat} {X : Nat → Nat} {ws0 : va_W} {r : aR} {h' : aH} {mc ms : Nat}
theorem hy_X14_in : yX14_in.cls ≠ "java/lang/invoke/MethodHandle" ∧ yX14_in.cls ≠ "java/lang/invoke/VarHandle" ∧ (parseMethodDescriptor yX14_in.desc).map (fun d => d.parameters.length) = some 3 := by decide +kernel
theorem T_X14_in (a1 : Int32) (a2 : Int32) (a3 : Int32) (h : aH) (r : aR) (h' : aH) (hs : s_X14_in a1 a2 a3 h = some (r, h')) : Mt yX14_in (Cond.code yX14_in cX14_in 3 (some .boolean) :: aTB) 0 0 0 0 [.int a1, .int a2, .int a3] h r h' := by
  unfold s_X14_in at hs
  refine Mt_of (k := 0) (by decide) rfl (fun p l e s m args below meth c D B0 X ws0 C => ?_)
  show Ev p l e { frames := 0, cells := 0, slots := 0, locals := 0 } s m args below meth c D B0 X ws0 r h' 0 0 3 0 0 0 [some (.int a1), some (.int a2), some (.int a3)] [] h
  refine ev_iload_n C rfl dX14_in_0 ?_
  refine ev_iload_n C rfl dX14_in_1 ?_
  refine ev_icmp_lt C (tgt := 14) (by decide) dX14_in_2 (fun q2 => ?_) (fun q2 => ?_)
  · replace hs := (if_pos q2).symm.trans hs
    refine ev_iconst C (v := 0) dX14_in_14 (by decide) ?_
    obtain ⟨hz, rfl, rfl⟩ := rtZ_at hs
    exact ev_zret C rfl hz rfl (Nat.le_refl _) (Nat.le_refl _) rfl dX14_in_15
  · replace hs := (if_neg q2).symm.trans hs
    refine ev_iload_n C rfl dX14_in_5 ?_
    refine ev_iload_n C rfl dX14_in_6 ?_
    refine ev_icmp_gt C (tgt := 14) (by decide) dX14_in_7 (fun q7 => ?_) (fun q7 => ?_)
    · replace hs := (if_pos q7).symm.trans hs
      refine ev_iconst C (v := 0) dX14_in_14 (by decide) ?_
      obtain ⟨hz, rfl, rfl⟩ := rtZ_at hs
      exact ev_zret C rfl hz rfl (Nat.le_refl _) (Nat.le_refl _) rfl dX14_in_15
    · replace hs := (if_neg q7).symm.trans hs
      refine ev_iconst C (v := 1) dX14_in_10 (by decide) ?_
      refine ev_goto C (tgt := 15) (by decide) dX14_in_11 ?_
      obtain ⟨hz, rfl, rfl⟩ := rtZ_at hs
      exact ev_zret C rfl hz rfl (Nat.le_refl _) (Nat.le_refl _) rfl dX14_in_15
end
-- X14_slotOf
theorem dX14_slotOf_0 : decode cX14_slotOf 0 = .ok (.iload_n 0, 1) := by decide +kernel
theorem dX14_slotOf_1 : decode cX14_slotOf 1 = .ok (.ifCond .ne 7, 3) := by decide +kernel
theorem dX14_slotOf_4 : decode cX14_slotOf 4 = .ok (.iconst 0, 1) := by decide +kernel
theorem dX14_slotOf_5 : decode cX14_slotOf 5 = .ok (.goto 8, 3) := by decide +kernel
theorem dX14_slotOf_8 : decode cX14_slotOf 8 = .ok (.iconst 2, 1) := by decide +kernel
theorem dX14_slotOf_9 : decode cX14_slotOf 9 = .ok (.iload_n 0, 1) := by decide +kernel
theorem dX14_slotOf_10 : decode cX14_slotOf 10 = .ok (.imul, 1) := by decide +kernel
theorem dX14_slotOf_11 : decode cX14_slotOf 11 = .ok (.iconst 1, 1) := by decide +kernel
theorem dX14_slotOf_12 : decode cX14_slotOf 12 = .ok (.iadd, 1) := by decide +kernel
theorem dX14_slotOf_13 : decode cX14_slotOf 13 = .ok (.ireturn, 1) := by decide +kernel
def s_X14_slotOf (a1 : Int32) (h : aH) : aO :=
  if a1 = 0 then (some (.inl (some (.int 0)), h)) else (some (.inl (some (.int ((2 * a1) + 1))), h))
section
variable {p : Program} {l : Launch} {e : Env} {s : State} {m : MethodId} {args : Array Value} {below : List Frame} {meth : Method} {c : Code} {D : va_G} {B0 : Nat} {X : Nat → Nat} {ws0 : va_W} {r : aR} {h' : aH} {mc ms : Nat}
theorem hy_X14_slotOf : yX14_slotOf.cls ≠ "java/lang/invoke/MethodHandle" ∧ yX14_slotOf.cls ≠ "java/lang/invoke/VarHandle" ∧ (parseMethodDescriptor yX14_slotOf.desc).map (fun d => d.parameters.length) = some 1 := by decide +kernel
theorem T_X14_slotOf (a1 : Int32) (h : aH) (r : aR) (h' : aH) (hs : s_X14_slotOf a1 h = some (r, h')) : Mt yX14_slotOf (Cond.code yX14_slotOf cX14_slotOf 1 (some .int) :: aTB) 0 0 0 0 [.int a1] h r h' := by
  unfold s_X14_slotOf at hs
  refine Mt_of (k := 0) (by decide) rfl (fun p l e s m args below meth c D B0 X ws0 C => ?_)
  show Ev p l e { frames := 0, cells := 0, slots := 0, locals := 0 } s m args below meth c D B0 X ws0 r h' 0 0 1 0 0 0 [some (.int a1)] [] h
  refine ev_iload_n C rfl dX14_slotOf_0 ?_
  refine ev_if_ne C (tgt := 8) (by decide) dX14_slotOf_1 (fun q1 => ?_) (fun q1 => ?_)
  · replace hs := (if_neg q1).symm.trans hs
    refine ev_iconst C (v := 2) dX14_slotOf_8 (by decide) ?_
    refine ev_iload_n C rfl dX14_slotOf_9 ?_
    refine ev_imul C dX14_slotOf_10 ?_
    refine ev_iconst C (v := 1) dX14_slotOf_11 (by decide) ?_
    refine ev_iadd C dX14_slotOf_12 ?_
    cases hs
    exact ev_iret C rfl rfl (Nat.le_refl _) (Nat.le_refl _) rfl dX14_slotOf_13
  · replace hs := (if_pos q1).symm.trans hs
    refine ev_iconst C (v := 0) dX14_slotOf_4 (by decide) ?_
    refine ev_goto C (tgt := 13) (by decide) dX14_slotOf_5 ?_
    cases hs
    exact ev_iret C rfl rfl (Nat.le_refl _) (Nat.le_refl _) rfl dX14_slotOf_13
end
-- X14_stopAt
theorem dX14_stopAt_0 : decode cX14_stopAt 0 = .ok (.aload_n 0, 1) := by decide +kernel
theorem dX14_stopAt_1 : decode cX14_stopAt 1 = .ok (.getfield 23, 3) := by decide +kernel
theorem dX14_stopAt_4 : decode cX14_stopAt 4 = .ok (.iload_n 1, 1) := by decide +kernel
theorem dX14_stopAt_5 : decode cX14_stopAt 5 = .ok (.putfield 163, 3) := by decide +kernel
theorem dX14_stopAt_8 : decode cX14_stopAt 8 = .ok (.aload_n 0, 1) := by decide +kernel
theorem dX14_stopAt_9 : decode cX14_stopAt 9 = .ok (.getfield 23, 3) := by decide +kernel
theorem dX14_stopAt_12 : decode cX14_stopAt 12 = .ok (.iload_n 2, 1) := by decide +kernel
theorem dX14_stopAt_13 : decode cX14_stopAt 13 = .ok (.putfield 166, 3) := by decide +kernel
theorem dX14_stopAt_16 : decode cX14_stopAt 16 = .ok (.aload_n 0, 1) := by decide +kernel
theorem dX14_stopAt_17 : decode cX14_stopAt 17 = .ok (.getfield 23, 3) := by decide +kernel
theorem dX14_stopAt_20 : decode cX14_stopAt 20 = .ok (.areturn, 1) := by decide +kernel
def s_X14_stopAt (o : Nat) (a1 : Int32) (a2 : Int32) (h : aH) : aO :=
  (gO h (.ref o) 14 7).bind fun x1 => (pF h (.ref x1) 12 6 (.int a1)).bind fun h5 => (gO h5 (.ref o) 14 7).bind fun x9 => (pF h5 (.ref x9) 12 7 (.int a2)).bind fun h13 => (gO h13 (.ref o) 14 7).bind fun x17 => some (.inl (some (.ref x17)), h13)
section
variable {p : Program} {l : Launch} {e : Env} {s : State} {m : MethodId} {args : Array Value} {below : List Frame} {meth : Method} {c : Code} {D : va_G} {B0 : Nat} {X : Nat → Nat} {ws0 : va_W} {r : aR} {h' : aH} {mc ms : Nat}
theorem hy_X14_stopAt : yX14_stopAt.cls ≠ "java/lang/invoke/MethodHandle" ∧ yX14_stopAt.cls ≠ "java/lang/invoke/VarHandle" ∧ (parseMethodDescriptor yX14_stopAt.desc).map (fun d => d.parameters.length) = some 2 := by decide +kernel
theorem T_X14_stopAt (o : Nat) (a1 : Int32) (a2 : Int32) (h : aH) (r : aR) (h' : aH) (hs : s_X14_stopAt o a1 a2 h = some (r, h')) : Mt yX14_stopAt (Cond.code yX14_stopAt cX14_stopAt 3 (some (.object "SteeringHouseModel$Stop")) :: aTB) 0 0 0 0 [.ref o, .int a1, .int a2] h r h' := by
  unfold s_X14_stopAt at hs
  refine Mt_of (k := 0) (by decide) rfl (fun p l e s m args below meth c D B0 X ws0 C => ?_)
  show Ev p l e { frames := 0, cells := 0, slots := 0, locals := 0 } s m args below meth c D B0 X ws0 r h' 0 0 3 0 0 0 [some (.ref o), some (.int a1), some (.int a2)] [] h
  refine ev_aload_n C (x := .ref o) rfl trivial dX14_stopAt_0 ?_
  obtain ⟨x1, e1, hs⟩ := aB hs
  refine ev_get C (ci := 14) (k := 7) rfl wu_14 (by decide) wf_X14_23 (gO_F e1) dX14_stopAt_1 ?_
  refine ev_iload_n C rfl dX14_stopAt_4 ?_
  obtain ⟨h5, e5, hs⟩ := aB hs
  refine ev_putN C (ci := 12) (k := 6) rfl wu_12 (by decide) tyX12 tyX12_ok nmX12 wg_X14_163 rfl trivial e5 dX14_stopAt_5 ?_
  refine ev_aload_n C (x := .ref o) rfl trivial dX14_stopAt_8 ?_
  obtain ⟨x9, e9, hs⟩ := aB hs
  refine ev_get C (ci := 14) (k := 7) rfl wu_14 (by decide) wf_X14_23 (gO_F e9) dX14_stopAt_9 ?_
  refine ev_iload_n C rfl dX14_stopAt_12 ?_
  obtain ⟨h13, e13, hs⟩ := aB hs
  refine ev_putN C (ci := 12) (k := 7) rfl wu_12 (by decide) tyX12 tyX12_ok nmX12 wg_X14_166 rfl trivial e13 dX14_stopAt_13 ?_
  refine ev_aload_n C (x := .ref o) rfl trivial dX14_stopAt_16 ?_
  obtain ⟨x17, e17, hs⟩ := aB hs
  refine ev_get C (ci := 14) (k := 7) rfl wu_14 (by decide) wf_X14_23 (gO_F e17) dX14_stopAt_17 ?_
  cases hs
  exact ev_aret C rfl (Or.inl ⟨_, rfl⟩) trivial rfl (Nat.le_refl _) (Nat.le_refl _) rfl dX14_stopAt_20
end
-- X14_stop
theorem dX14_stop_0 : decode cX14_stop 0 = .ok (.aload_n 0, 1) := by decide +kernel
theorem dX14_stop_1 : decode cX14_stop 1 = .ok (.iload_n 1, 1) := by decide +kernel
theorem dX14_stop_2 : decode cX14_stop 2 = .ok (.aload_n 0, 1) := by decide +kernel
theorem dX14_stop_3 : decode cX14_stop 3 = .ok (.getfield 169, 3) := by decide +kernel
theorem dX14_stop_6 : decode cX14_stop 6 = .ok (.invokevirtual 170, 3) := by decide +kernel
theorem dX14_stop_9 : decode cX14_stop 9 = .ok (.areturn, 1) := by decide +kernel
def s_X14_stop (o : Nat) (a1 : Int32) (h : aH) : aO :=
  (gI h (.ref o) 14 13).bind fun x3 => kO h o 14 (cR (s_X14_stopAt o a1 x3 h) fun x6 h6 => some (.inl (some (.ref x6)), h6))
section
variable {p : Program} {l : Launch} {e : Env} {s : State} {m : MethodId} {args : Array Value} {below : List Frame} {meth : Method} {c : Code} {D : va_G} {B0 : Nat} {X : Nat → Nat} {ws0 : va_W} {r : aR} {h' : aH} {mc ms : Nat}
theorem hy_X14_stop : yX14_stop.cls ≠ "java/lang/invoke/MethodHandle" ∧ yX14_stop.cls ≠ "java/lang/invoke/VarHandle" ∧ (parseMethodDescriptor yX14_stop.desc).map (fun d => d.parameters.length) = some 1 := by decide +kernel
theorem T_X14_stop (o : Nat) (a1 : Int32) (h : aH) (r : aR) (h' : aH) (hs : s_X14_stop o a1 h = some (r, h')) : Mt yX14_stop (Cond.code yX14_stop cX14_stop 2 (some (.object "SteeringHouseModel$Stop")) :: aTB) 1 22 0 0 [.ref o, .int a1] h r h' := by
  unfold s_X14_stop at hs
  refine Mt_of (k := 0) (by decide) rfl (fun p l e s m args below meth c D B0 X ws0 C => ?_)
  show Ev p l e { frames := 1, cells := 0, slots := 0, locals := 22 } s m args below meth c D B0 X ws0 r h' 0 0 2 0 0 0 [some (.ref o), some (.int a1)] [] h
  refine ev_aload_n C (x := .ref o) rfl trivial dX14_stop_0 ?_
  refine ev_iload_n C rfl dX14_stop_1 ?_
  refine ev_aload_n C (x := .ref o) rfl trivial dX14_stop_2 ?_
  obtain ⟨x3, e3, hs⟩ := aB hs
  refine ev_get C (ci := 14) (k := 13) rfl wu_14 (by decide) wf_X14_169 (gI_F e3) dX14_stop_3 ?_
  obtain ⟨eo6, hs⟩ := kO_at hs
  obtain ⟨x6, h6, e6, hs⟩ := cR_at hs
  refine ev_callV C (T_X14_stopAt _ _ _ _ _ _ e6) (ci := 14) rfl eo6 wc_X14_stopAt wm_X14_170 wi_X14_stopAt ws_X14_stopAt wz_X14 hy_X14_stopAt ⟨(Nat.le_of_ble_eq_true rfl), (Nat.le_of_ble_eq_true rfl)⟩ ⟨(Nat.le_refl _), (Nat.le_refl _)⟩ (Nat.le_of_ble_eq_true rfl) rfl dX14_stop_6 ?_
  cases hs
  exact ev_aret C rfl (Or.inl ⟨_, rfl⟩) trivial rfl (Nat.le_refl _) (Nat.le_refl _) rfl dX14_stop_9
end
-- X14_byteAt
theorem dX14_byteAt_0 : decode cX14_byteAt 0 = .ok (.iload_n 1, 1) := by decide +kernel
theorem dX14_byteAt_1 : decode cX14_byteAt 1 = .ok (.aload_n 0, 1) := by decide +kernel
theorem dX14_byteAt_2 : decode cX14_byteAt 2 = .ok (.getfield 174, 3) := by decide +kernel
theorem dX14_byteAt_5 : decode cX14_byteAt 5 = .ok (.if_icmp .ge 16, 3) := by decide +kernel
theorem dX14_byteAt_8 : decode cX14_byteAt 8 = .ok (.aload_n 0, 1) := by decide +kernel
theorem dX14_byteAt_9 : decode cX14_byteAt 9 = .ok (.getfield 27, 3) := by decide +kernel
theorem dX14_byteAt_12 : decode cX14_byteAt 12 = .ok (.iload_n 1, 1) := by decide +kernel
theorem dX14_byteAt_13 : decode cX14_byteAt 13 = .ok (.baload, 1) := by decide +kernel
theorem dX14_byteAt_14 : decode cX14_byteAt 14 = .ok (.sipush 255, 3) := by decide +kernel
theorem dX14_byteAt_17 : decode cX14_byteAt 17 = .ok (.iand, 1) := by decide +kernel
theorem dX14_byteAt_18 : decode cX14_byteAt 18 = .ok (.goto 4, 3) := by decide +kernel
theorem dX14_byteAt_21 : decode cX14_byteAt 21 = .ok (.iconst (-1), 1) := by decide +kernel
theorem dX14_byteAt_22 : decode cX14_byteAt 22 = .ok (.ireturn, 1) := by decide +kernel
def s_X14_byteAt (o : Nat) (a1 : Int32) (h : aH) : aO :=
  (gI h (.ref o) 14 10).bind fun x2 => if x2 ≤ a1 then (some (.inl (some (.int (-1))), h)) else ((gO h (.ref o) 14 8).bind fun x9 => (ldI .byte h (.ref x9) a1).bind fun x13 => some (.inl (some (.int (x13 &&& 255))), h))
section
variable {p : Program} {l : Launch} {e : Env} {s : State} {m : MethodId} {args : Array Value} {below : List Frame} {meth : Method} {c : Code} {D : va_G} {B0 : Nat} {X : Nat → Nat} {ws0 : va_W} {r : aR} {h' : aH} {mc ms : Nat}
theorem hy_X14_byteAt : yX14_byteAt.cls ≠ "java/lang/invoke/MethodHandle" ∧ yX14_byteAt.cls ≠ "java/lang/invoke/VarHandle" ∧ (parseMethodDescriptor yX14_byteAt.desc).map (fun d => d.parameters.length) = some 1 := by decide +kernel
theorem T_X14_byteAt (o : Nat) (a1 : Int32) (h : aH) (r : aR) (h' : aH) (hs : s_X14_byteAt o a1 h = some (r, h')) : Mt yX14_byteAt (Cond.code yX14_byteAt cX14_byteAt 2 (some .int) :: aTB) 0 0 0 0 [.ref o, .int a1] h r h' := by
  unfold s_X14_byteAt at hs
  refine Mt_of (k := 0) (by decide) rfl (fun p l e s m args below meth c D B0 X ws0 C => ?_)
  show Ev p l e { frames := 0, cells := 0, slots := 0, locals := 0 } s m args below meth c D B0 X ws0 r h' 0 0 2 0 0 0 [some (.ref o), some (.int a1)] [] h
  refine ev_iload_n C rfl dX14_byteAt_0 ?_
  refine ev_aload_n C (x := .ref o) rfl trivial dX14_byteAt_1 ?_
  obtain ⟨x2, e2, hs⟩ := aB hs
  refine ev_get C (ci := 14) (k := 10) rfl wu_14 (by decide) wf_X14_174 (gI_F e2) dX14_byteAt_2 ?_
  refine ev_icmp_ge C (tgt := 21) (by decide) dX14_byteAt_5 (fun q5 => ?_) (fun q5 => ?_)
  · replace hs := (if_pos q5).symm.trans hs
    refine ev_iconst C (v := (-1)) dX14_byteAt_21 (by decide) ?_
    cases hs
    exact ev_iret C rfl rfl (Nat.le_refl _) (Nat.le_refl _) rfl dX14_byteAt_22
  · replace hs := (if_neg q5).symm.trans hs
    refine ev_aload_n C (x := .ref o) rfl trivial dX14_byteAt_8 ?_
    obtain ⟨x9, e9, hs⟩ := aB hs
    refine ev_get C (ci := 14) (k := 8) rfl wu_14 (by decide) wf_X14_27 (gO_F e9) dX14_byteAt_9 ?_
    refine ev_iload_n C rfl dX14_byteAt_12 ?_
    obtain ⟨x13, e13, hs⟩ := aB hs
    refine ev_bald C e13 dX14_byteAt_13 ?_
    refine ev_sipush C (v := 255) dX14_byteAt_14 (by decide) ?_
    refine ev_iand C dX14_byteAt_17 ?_
    refine ev_goto C (tgt := 22) (by decide) dX14_byteAt_18 ?_
    cases hs
    exact ev_iret C rfl rfl (Nat.le_refl _) (Nat.le_refl _) rfl dX14_byteAt_22
end
-- X14_isLetter
theorem dX14_isLetter_0 : decode cX14_isLetter 0 = .ok (.iload_n 0, 1) := by decide +kernel
theorem dX14_isLetter_1 : decode cX14_isLetter 1 = .ok (.bipush 97, 2) := by decide +kernel
theorem dX14_isLetter_3 : decode cX14_isLetter 3 = .ok (.if_icmp .lt 13, 3) := by decide +kernel
theorem dX14_isLetter_6 : decode cX14_isLetter 6 = .ok (.iload_n 0, 1) := by decide +kernel
theorem dX14_isLetter_7 : decode cX14_isLetter 7 = .ok (.bipush 122, 2) := by decide +kernel
theorem dX14_isLetter_9 : decode cX14_isLetter 9 = .ok (.if_icmp .gt 7, 3) := by decide +kernel
theorem dX14_isLetter_12 : decode cX14_isLetter 12 = .ok (.iconst 1, 1) := by decide +kernel
theorem dX14_isLetter_13 : decode cX14_isLetter 13 = .ok (.goto 4, 3) := by decide +kernel
theorem dX14_isLetter_16 : decode cX14_isLetter 16 = .ok (.iconst 0, 1) := by decide +kernel
theorem dX14_isLetter_17 : decode cX14_isLetter 17 = .ok (.ireturn, 1) := by decide +kernel
def s_X14_isLetter (a1 : Int32) (h : aH) : aO :=
  if a1 < 97 then (rtZ 0 h) else (if 122 < a1 then (rtZ 0 h) else (rtZ 1 h))
section
variable {p : Program} {l : Launch} {e : Env} {s : State} {m : MethodId} {args : Array Value} {below : List Frame} {meth : Method} {c : Code} {D : va_G} {B0 : Nat} {X : Nat → Nat} {ws0 : va_W} {r : aR} {h' : aH} {mc ms : Nat}
theorem hy_X14_isLetter : yX14_isLetter.cls ≠ "java/lang/invoke/MethodHandle" ∧ yX14_isLetter.cls ≠ "java/lang/invoke/VarHandle" ∧ (parseMethodDescriptor yX14_isLetter.desc).map (fun d => d.parameters.length) = some 1 := by decide +kernel
theorem T_X14_isLetter (a1 : Int32) (h : aH) (r : aR) (h' : aH) (hs : s_X14_isLetter a1 h = some (r, h')) : Mt yX14_isLetter (Cond.code yX14_isLetter cX14_isLetter 1 (some .boolean) :: aTB) 0 0 0 0 [.int a1] h r h' := by
  unfold s_X14_isLetter at hs
  refine Mt_of (k := 0) (by decide) rfl (fun p l e s m args below meth c D B0 X ws0 C => ?_)
  show Ev p l e { frames := 0, cells := 0, slots := 0, locals := 0 } s m args below meth c D B0 X ws0 r h' 0 0 1 0 0 0 [some (.int a1)] [] h
  refine ev_iload_n C rfl dX14_isLetter_0 ?_
  refine ev_bipush C (v := 97) dX14_isLetter_1 (by decide) ?_
  refine ev_icmp_lt C (tgt := 16) (by decide) dX14_isLetter_3 (fun q3 => ?_) (fun q3 => ?_)
  · replace hs := (if_pos q3).symm.trans hs
    refine ev_iconst C (v := 0) dX14_isLetter_16 (by decide) ?_
    obtain ⟨hz, rfl, rfl⟩ := rtZ_at hs
    exact ev_zret C rfl hz rfl (Nat.le_refl _) (Nat.le_refl _) rfl dX14_isLetter_17
  · replace hs := (if_neg q3).symm.trans hs
    refine ev_iload_n C rfl dX14_isLetter_6 ?_
    refine ev_bipush C (v := 122) dX14_isLetter_7 (by decide) ?_
    refine ev_icmp_gt C (tgt := 16) (by decide) dX14_isLetter_9 (fun q9 => ?_) (fun q9 => ?_)
    · replace hs := (if_pos q9).symm.trans hs
      refine ev_iconst C (v := 0) dX14_isLetter_16 (by decide) ?_
      obtain ⟨hz, rfl, rfl⟩ := rtZ_at hs
      exact ev_zret C rfl hz rfl (Nat.le_refl _) (Nat.le_refl _) rfl dX14_isLetter_17
    · replace hs := (if_neg q9).symm.trans hs
      refine ev_iconst C (v := 1) dX14_isLetter_12 (by decide) ?_
      refine ev_goto C (tgt := 17) (by decide) dX14_isLetter_13 ?_
      obtain ⟨hz, rfl, rfl⟩ := rtZ_at hs
      exact ev_zret C rfl hz rfl (Nat.le_refl _) (Nat.le_refl _) rfl dX14_isLetter_17
end
-- X14_isDigit
theorem dX14_isDigit_0 : decode cX14_isDigit 0 = .ok (.iload_n 0, 1) := by decide +kernel
theorem dX14_isDigit_1 : decode cX14_isDigit 1 = .ok (.bipush 48, 2) := by decide +kernel
theorem dX14_isDigit_3 : decode cX14_isDigit 3 = .ok (.if_icmp .lt 13, 3) := by decide +kernel
theorem dX14_isDigit_6 : decode cX14_isDigit 6 = .ok (.iload_n 0, 1) := by decide +kernel
theorem dX14_isDigit_7 : decode cX14_isDigit 7 = .ok (.bipush 57, 2) := by decide +kernel
theorem dX14_isDigit_9 : decode cX14_isDigit 9 = .ok (.if_icmp .gt 7, 3) := by decide +kernel
theorem dX14_isDigit_12 : decode cX14_isDigit 12 = .ok (.iconst 1, 1) := by decide +kernel
theorem dX14_isDigit_13 : decode cX14_isDigit 13 = .ok (.goto 4, 3) := by decide +kernel
theorem dX14_isDigit_16 : decode cX14_isDigit 16 = .ok (.iconst 0, 1) := by decide +kernel
theorem dX14_isDigit_17 : decode cX14_isDigit 17 = .ok (.ireturn, 1) := by decide +kernel
def s_X14_isDigit (a1 : Int32) (h : aH) : aO :=
  if a1 < 48 then (rtZ 0 h) else (if 57 < a1 then (rtZ 0 h) else (rtZ 1 h))
section
variable {p : Program} {l : Launch} {e : Env} {s : State} {m : MethodId} {args : Array Value} {below : List Frame} {meth : Method} {c : Code} {D : va_G} {B0 : Nat} {X : Nat → Nat} {ws0 : va_W} {r : aR} {h' : aH} {mc ms : Nat}
theorem hy_X14_isDigit : yX14_isDigit.cls ≠ "java/lang/invoke/MethodHandle" ∧ yX14_isDigit.cls ≠ "java/lang/invoke/VarHandle" ∧ (parseMethodDescriptor yX14_isDigit.desc).map (fun d => d.parameters.length) = some 1 := by decide +kernel
theorem T_X14_isDigit (a1 : Int32) (h : aH) (r : aR) (h' : aH) (hs : s_X14_isDigit a1 h = some (r, h')) : Mt yX14_isDigit (Cond.code yX14_isDigit cX14_isDigit 1 (some .boolean) :: aTB) 0 0 0 0 [.int a1] h r h' := by
  unfold s_X14_isDigit at hs
  refine Mt_of (k := 0) (by decide) rfl (fun p l e s m args below meth c D B0 X ws0 C => ?_)
  show Ev p l e { frames := 0, cells := 0, slots := 0, locals := 0 } s m args below meth c D B0 X ws0 r h' 0 0 1 0 0 0 [some (.int a1)] [] h
  refine ev_iload_n C rfl dX14_isDigit_0 ?_
  refine ev_bipush C (v := 48) dX14_isDigit_1 (by decide) ?_
  refine ev_icmp_lt C (tgt := 16) (by decide) dX14_isDigit_3 (fun q3 => ?_) (fun q3 => ?_)
  · replace hs := (if_pos q3).symm.trans hs
    refine ev_iconst C (v := 0) dX14_isDigit_16 (by decide) ?_
    obtain ⟨hz, rfl, rfl⟩ := rtZ_at hs
    exact ev_zret C rfl hz rfl (Nat.le_refl _) (Nat.le_refl _) rfl dX14_isDigit_17
  · replace hs := (if_neg q3).symm.trans hs
    refine ev_iload_n C rfl dX14_isDigit_6 ?_
    refine ev_bipush C (v := 57) dX14_isDigit_7 (by decide) ?_
    refine ev_icmp_gt C (tgt := 16) (by decide) dX14_isDigit_9 (fun q9 => ?_) (fun q9 => ?_)
    · replace hs := (if_pos q9).symm.trans hs
      refine ev_iconst C (v := 0) dX14_isDigit_16 (by decide) ?_
      obtain ⟨hz, rfl, rfl⟩ := rtZ_at hs
      exact ev_zret C rfl hz rfl (Nat.le_refl _) (Nat.le_refl _) rfl dX14_isDigit_17
    · replace hs := (if_neg q9).symm.trans hs
      refine ev_iconst C (v := 1) dX14_isDigit_12 (by decide) ?_
      refine ev_goto C (tgt := 17) (by decide) dX14_isDigit_13 ?_
      obtain ⟨hz, rfl, rfl⟩ := rtZ_at hs
      exact ev_zret C rfl hz rfl (Nat.le_refl _) (Nat.le_refl _) rfl dX14_isDigit_17
end
-- X14_isMark
theorem dX14_isMark_0 : decode cX14_isMark 0 = .ok (.iload_n 0, 1) := by decide +kernel
theorem dX14_isMark_1 : decode cX14_isMark 1 = .ok (.bipush 60, 2) := by decide +kernel
theorem dX14_isMark_3 : decode cX14_isMark 3 = .ok (.if_icmp .eq 39, 3) := by decide +kernel
theorem dX14_isMark_6 : decode cX14_isMark 6 = .ok (.iload_n 0, 1) := by decide +kernel
theorem dX14_isMark_7 : decode cX14_isMark 7 = .ok (.bipush 62, 2) := by decide +kernel
theorem dX14_isMark_9 : decode cX14_isMark 9 = .ok (.if_icmp .eq 33, 3) := by decide +kernel
theorem dX14_isMark_12 : decode cX14_isMark 12 = .ok (.iload_n 0, 1) := by decide +kernel
theorem dX14_isMark_13 : decode cX14_isMark 13 = .ok (.bipush 61, 2) := by decide +kernel
theorem dX14_isMark_15 : decode cX14_isMark 15 = .ok (.if_icmp .eq 27, 3) := by decide +kernel
theorem dX14_isMark_18 : decode cX14_isMark 18 = .ok (.iload_n 0, 1) := by decide +kernel
theorem dX14_isMark_19 : decode cX14_isMark 19 = .ok (.bipush 43, 2) := by decide +kernel
theorem dX14_isMark_21 : decode cX14_isMark 21 = .ok (.if_icmp .eq 21, 3) := by decide +kernel
theorem dX14_isMark_24 : decode cX14_isMark 24 = .ok (.iload_n 0, 1) := by decide +kernel
theorem dX14_isMark_25 : decode cX14_isMark 25 = .ok (.bipush 45, 2) := by decide +kernel
theorem dX14_isMark_27 : decode cX14_isMark 27 = .ok (.if_icmp .eq 15, 3) := by decide +kernel
theorem dX14_isMark_30 : decode cX14_isMark 30 = .ok (.iload_n 0, 1) := by decide +kernel
theorem dX14_isMark_31 : decode cX14_isMark 31 = .ok (.bipush 42, 2) := by decide +kernel
theorem dX14_isMark_33 : decode cX14_isMark 33 = .ok (.if_icmp .eq 9, 3) := by decide +kernel
theorem dX14_isMark_36 : decode cX14_isMark 36 = .ok (.iload_n 0, 1) := by decide +kernel
theorem dX14_isMark_37 : decode cX14_isMark 37 = .ok (.bipush 59, 2) := by decide +kernel
theorem dX14_isMark_39 : decode cX14_isMark 39 = .ok (.if_icmp .ne 7, 3) := by decide +kernel
theorem dX14_isMark_42 : decode cX14_isMark 42 = .ok (.iconst 1, 1) := by decide +kernel
theorem dX14_isMark_43 : decode cX14_isMark 43 = .ok (.goto 4, 3) := by decide +kernel
theorem dX14_isMark_46 : decode cX14_isMark 46 = .ok (.iconst 0, 1) := by decide +kernel
theorem dX14_isMark_47 : decode cX14_isMark 47 = .ok (.ireturn, 1) := by decide +kernel
def s_X14_isMark (a1 : Int32) (h : aH) : aO :=
  if a1 = 60 then (rtZ 1 h) else (if a1 = 62 then (rtZ 1 h) else (if a1 = 61 then (rtZ 1 h) else (if a1 = 43 then (rtZ 1 h) else (if a1 = 45 then (rtZ 1 h) else (if a1 = 42 then (rtZ 1 h) else (if a1 = 59 then (rtZ 1 h) else (rtZ 0 h)))))))
section
variable {p : Program} {l : Launch} {e : Env} {s : State} {m : MethodId} {args : Array Value} {below : List Frame} {meth : Method} {c : Code} {D : va_G} {B0 : Nat} {X : Nat → Nat} {ws0 : va_W} {r : aR} {h' : aH} {mc ms : Nat}
theorem hy_X14_isMark : yX14_isMark.cls ≠ "java/lang/invoke/MethodHandle" ∧ yX14_isMark.cls ≠ "java/lang/invoke/VarHandle" ∧ (parseMethodDescriptor yX14_isMark.desc).map (fun d => d.parameters.length) = some 1 := by decide +kernel
theorem T_X14_isMark (a1 : Int32) (h : aH) (r : aR) (h' : aH) (hs : s_X14_isMark a1 h = some (r, h')) : Mt yX14_isMark (Cond.code yX14_isMark cX14_isMark 1 (some .boolean) :: aTB) 0 0 0 0 [.int a1] h r h' := by
  unfold s_X14_isMark at hs
  refine Mt_of (k := 0) (by decide) rfl (fun p l e s m args below meth c D B0 X ws0 C => ?_)
  show Ev p l e { frames := 0, cells := 0, slots := 0, locals := 0 } s m args below meth c D B0 X ws0 r h' 0 0 1 0 0 0 [some (.int a1)] [] h
  refine ev_iload_n C rfl dX14_isMark_0 ?_
  refine ev_bipush C (v := 60) dX14_isMark_1 (by decide) ?_
  refine ev_icmp_eq C (tgt := 42) (by decide) dX14_isMark_3 (fun q3 => ?_) (fun q3 => ?_)
  · replace hs := (if_pos q3).symm.trans hs
    refine ev_iconst C (v := 1) dX14_isMark_42 (by decide) ?_
    refine ev_goto C (tgt := 47) (by decide) dX14_isMark_43 ?_
    obtain ⟨hz, rfl, rfl⟩ := rtZ_at hs
    exact ev_zret C rfl hz rfl (Nat.le_refl _) (Nat.le_refl _) rfl dX14_isMark_47
  · replace hs := (if_neg q3).symm.trans hs
    refine ev_iload_n C rfl dX14_isMark_6 ?_
    refine ev_bipush C (v := 62) dX14_isMark_7 (by decide) ?_
    refine ev_icmp_eq C (tgt := 42) (by decide) dX14_isMark_9 (fun q9 => ?_) (fun q9 => ?_)
    · replace hs := (if_pos q9).symm.trans hs
      refine ev_iconst C (v := 1) dX14_isMark_42 (by decide) ?_
      refine ev_goto C (tgt := 47) (by decide) dX14_isMark_43 ?_
      obtain ⟨hz, rfl, rfl⟩ := rtZ_at hs
      exact ev_zret C rfl hz rfl (Nat.le_refl _) (Nat.le_refl _) rfl dX14_isMark_47
    · replace hs := (if_neg q9).symm.trans hs
      refine ev_iload_n C rfl dX14_isMark_12 ?_
      refine ev_bipush C (v := 61) dX14_isMark_13 (by decide) ?_
      refine ev_icmp_eq C (tgt := 42) (by decide) dX14_isMark_15 (fun q15 => ?_) (fun q15 => ?_)
      · replace hs := (if_pos q15).symm.trans hs
        refine ev_iconst C (v := 1) dX14_isMark_42 (by decide) ?_
        refine ev_goto C (tgt := 47) (by decide) dX14_isMark_43 ?_
        obtain ⟨hz, rfl, rfl⟩ := rtZ_at hs
        exact ev_zret C rfl hz rfl (Nat.le_refl _) (Nat.le_refl _) rfl dX14_isMark_47
      · replace hs := (if_neg q15).symm.trans hs
        refine ev_iload_n C rfl dX14_isMark_18 ?_
        refine ev_bipush C (v := 43) dX14_isMark_19 (by decide) ?_
        refine ev_icmp_eq C (tgt := 42) (by decide) dX14_isMark_21 (fun q21 => ?_) (fun q21 => ?_)
        · replace hs := (if_pos q21).symm.trans hs
          refine ev_iconst C (v := 1) dX14_isMark_42 (by decide) ?_
          refine ev_goto C (tgt := 47) (by decide) dX14_isMark_43 ?_
          obtain ⟨hz, rfl, rfl⟩ := rtZ_at hs
          exact ev_zret C rfl hz rfl (Nat.le_refl _) (Nat.le_refl _) rfl dX14_isMark_47
        · replace hs := (if_neg q21).symm.trans hs
          refine ev_iload_n C rfl dX14_isMark_24 ?_
          refine ev_bipush C (v := 45) dX14_isMark_25 (by decide) ?_
          refine ev_icmp_eq C (tgt := 42) (by decide) dX14_isMark_27 (fun q27 => ?_) (fun q27 => ?_)
          · replace hs := (if_pos q27).symm.trans hs
            refine ev_iconst C (v := 1) dX14_isMark_42 (by decide) ?_
            refine ev_goto C (tgt := 47) (by decide) dX14_isMark_43 ?_
            obtain ⟨hz, rfl, rfl⟩ := rtZ_at hs
            exact ev_zret C rfl hz rfl (Nat.le_refl _) (Nat.le_refl _) rfl dX14_isMark_47
          · replace hs := (if_neg q27).symm.trans hs
            refine ev_iload_n C rfl dX14_isMark_30 ?_
            refine ev_bipush C (v := 42) dX14_isMark_31 (by decide) ?_
            refine ev_icmp_eq C (tgt := 42) (by decide) dX14_isMark_33 (fun q33 => ?_) (fun q33 => ?_)
            · replace hs := (if_pos q33).symm.trans hs
              refine ev_iconst C (v := 1) dX14_isMark_42 (by decide) ?_
              refine ev_goto C (tgt := 47) (by decide) dX14_isMark_43 ?_
              obtain ⟨hz, rfl, rfl⟩ := rtZ_at hs
              exact ev_zret C rfl hz rfl (Nat.le_refl _) (Nat.le_refl _) rfl dX14_isMark_47
            · replace hs := (if_neg q33).symm.trans hs
              refine ev_iload_n C rfl dX14_isMark_36 ?_
              refine ev_bipush C (v := 59) dX14_isMark_37 (by decide) ?_
              refine ev_icmp_ne C (tgt := 46) (by decide) dX14_isMark_39 (fun q39 => ?_) (fun q39 => ?_)
              · replace hs := (if_neg q39).symm.trans hs
                refine ev_iconst C (v := 0) dX14_isMark_46 (by decide) ?_
                obtain ⟨hz, rfl, rfl⟩ := rtZ_at hs
                exact ev_zret C rfl hz rfl (Nat.le_refl _) (Nat.le_refl _) rfl dX14_isMark_47
              · replace hs := (if_pos q39).symm.trans hs
                refine ev_iconst C (v := 1) dX14_isMark_42 (by decide) ?_
                refine ev_goto C (tgt := 47) (by decide) dX14_isMark_43 ?_
                obtain ⟨hz, rfl, rfl⟩ := rtZ_at hs
                exact ev_zret C rfl hz rfl (Nat.le_refl _) (Nat.le_refl _) rfl dX14_isMark_47
end
-- J0_coder_7d493
theorem dJ0_coder_7d493_0 : decode cJ0_coder_7d493 0 = .ok (.getstatic 38, 3) := by decide +kernel
theorem dJ0_coder_7d493_3 : decode cJ0_coder_7d493 3 = .ok (.ifCond .eq 10, 3) := by decide +kernel
theorem dJ0_coder_7d493_6 : decode cJ0_coder_7d493 6 = .ok (.aload_n 0, 1) := by decide +kernel
theorem dJ0_coder_7d493_7 : decode cJ0_coder_7d493 7 = .ok (.getfield 15, 3) := by decide +kernel
theorem dJ0_coder_7d493_10 : decode cJ0_coder_7d493 10 = .ok (.goto 4, 3) := by decide +kernel
theorem dJ0_coder_7d493_13 : decode cJ0_coder_7d493 13 = .ok (.iconst 1, 1) := by decide +kernel
theorem dJ0_coder_7d493_14 : decode cJ0_coder_7d493 14 = .ok (.ireturn, 1) := by decide +kernel
def s_J0_coder_7d493 (o : Nat) (h : aH) : aO :=
  if (1 : Int32) = 0 then (rtB 1 h) else ((sK o).bind fun k7 => rtB 0 h)
section
variable {p : Program} {l : Launch} {e : Env} {s : State} {m : MethodId} {args : Array Value} {below : List Frame} {meth : Method} {c : Code} {D : va_G} {B0 : Nat} {X : Nat → Nat} {ws0 : va_W} {r : aR} {h' : aH} {mc ms : Nat}
theorem hy_J0_coder_7d493 : yJ0_coder_7d493.cls ≠ "java/lang/invoke/MethodHandle" ∧ yJ0_coder_7d493.cls ≠ "java/lang/invoke/VarHandle" ∧ (parseMethodDescriptor yJ0_coder_7d493.desc).map (fun d => d.parameters.length) = some 0 := by decide +kernel
theorem T_J0_coder_7d493 (o : Nat) (h : aH) (r : aR) (h' : aH) (hs : s_J0_coder_7d493 o h = some (r, h')) : Mt yJ0_coder_7d493 (Cond.code yJ0_coder_7d493 cJ0_coder_7d493 1 (some .byte) :: aTB) 0 0 0 0 [.ref o] h r h' := by
  unfold s_J0_coder_7d493 at hs
  refine Mt_of (k := 0) (by decide) rfl (fun p l e s m args below meth c D B0 X ws0 C => ?_)
  show Ev p l e { frames := 0, cells := 0, slots := 0, locals := 0 } s m args below meth c D B0 X ws0 r h' 0 0 1 0 0 0 [some (.ref o)] [] h
  refine ev_getsCS C wf_J0_38 dJ0_coder_7d493_0 ?_
  refine ev_if_eq C (tgt := 13) (by decide) dJ0_coder_7d493_3 (fun q3 => ?_) (fun q3 => ?_)
  · replace hs := (if_pos q3).symm.trans hs
    refine ev_iconst C (v := 1) dJ0_coder_7d493_13 (by decide) ?_
    obtain ⟨hz, rfl, rfl⟩ := rtB_at hs
    exact ev_nret C rfl hz rfl (Nat.le_refl _) (Nat.le_refl _) rfl dJ0_coder_7d493_14
  · replace hs := (if_neg q3).symm.trans hs
    refine ev_aload_n C (x := .ref o) rfl trivial dJ0_coder_7d493_6 ?_
    obtain ⟨k7, e7, hs⟩ := aB hs
    refine ev_getSc C e7 wf_J0_15 dJ0_coder_7d493_7 ?_
    refine ev_goto C (tgt := 14) (by decide) dJ0_coder_7d493_10 ?_
    obtain ⟨hz, rfl, rfl⟩ := rtB_at hs
    exact ev_nret C rfl hz rfl (Nat.le_refl _) (Nat.le_refl _) rfl dJ0_coder_7d493_14
end
-- J0_length_8abf5
theorem dJ0_length_8abf5_0 : decode cJ0_length_8abf5 0 = .ok (.aload_n 0, 1) := by decide +kernel
theorem dJ0_length_8abf5_1 : decode cJ0_length_8abf5 1 = .ok (.getfield 9, 3) := by decide +kernel
theorem dJ0_length_8abf5_4 : decode cJ0_length_8abf5 4 = .ok (.arraylength, 1) := by decide +kernel
theorem dJ0_length_8abf5_5 : decode cJ0_length_8abf5 5 = .ok (.aload_n 0, 1) := by decide +kernel
theorem dJ0_length_8abf5_6 : decode cJ0_length_8abf5 6 = .ok (.invokevirtual 335, 3) := by decide +kernel
theorem dJ0_length_8abf5_9 : decode cJ0_length_8abf5 9 = .ok (.ishr, 1) := by decide +kernel
theorem dJ0_length_8abf5_10 : decode cJ0_length_8abf5 10 = .ok (.ireturn, 1) := by decide +kernel
def s_J0_length_8abf5 (o : Nat) (h : aH) : aO :=
  (sK o).bind fun k1 => (lnA h (.ref (o + 10))).bind fun x4 => (sK o).bind fun k6 => cI (s_J0_coder_7d493 o h) fun x6 h6 => some (.inl (some (.int (x4 >>> (x6 &&& 31)))), h6)
section
variable {p : Program} {l : Launch} {e : Env} {s : State} {m : MethodId} {args : Array Value} {below : List Frame} {meth : Method} {c : Code} {D : va_G} {B0 : Nat} {X : Nat → Nat} {ws0 : va_W} {r : aR} {h' : aH} {mc ms : Nat}
theorem hy_J0_length_8abf5 : yJ0_length_8abf5.cls ≠ "java/lang/invoke/MethodHandle" ∧ yJ0_length_8abf5.cls ≠ "java/lang/invoke/VarHandle" ∧ (parseMethodDescriptor yJ0_length_8abf5.desc).map (fun d => d.parameters.length) = some 0 := by decide +kernel
theorem T_J0_length_8abf5 (o : Nat) (h : aH) (r : aR) (h' : aH) (hs : s_J0_length_8abf5 o h = some (r, h')) : Mt yJ0_length_8abf5 (Cond.code yJ0_length_8abf5 cJ0_length_8abf5 1 (some .int) :: aTB) 1 20 0 0 [.ref o] h r h' := by
  unfold s_J0_length_8abf5 at hs
  refine Mt_of (k := 0) (by decide) rfl (fun p l e s m args below meth c D B0 X ws0 C => ?_)
  show Ev p l e { frames := 1, cells := 0, slots := 0, locals := 20 } s m args below meth c D B0 X ws0 r h' 0 0 1 0 0 0 [some (.ref o)] [] h
  refine ev_aload_n C (x := .ref o) rfl trivial dJ0_length_8abf5_0 ?_
  obtain ⟨k1, e1, hs⟩ := aB hs
  refine ev_getSv C e1 wf_J0_9 dJ0_length_8abf5_1 ?_
  obtain ⟨x4, e4, hs⟩ := aB hs
  refine ev_alen C e4 dJ0_length_8abf5_4 ?_
  refine ev_aload_n C (x := .ref o) rfl trivial dJ0_length_8abf5_5 ?_
  obtain ⟨k6, eo6, hs⟩ := aB hs
  obtain ⟨x6, h6, e6, hs⟩ := cI_at hs
  refine ev_callVS C (T_J0_coder_7d493 _ _ _ _ e6) rfl eo6 wc_J0_coder_7d493 wm_J0_335 wi_J0_coder_7d493 ws_J0_coder_7d493 wz_J0 hy_J0_coder_7d493 ⟨(Nat.le_of_ble_eq_true rfl), (Nat.le_of_ble_eq_true rfl)⟩ ⟨(Nat.le_refl _), (Nat.le_refl _)⟩ (Nat.le_of_ble_eq_true rfl) rfl dJ0_length_8abf5_6 ?_
  refine ev_ishr C dJ0_length_8abf5_9 ?_
  cases hs
  exact ev_iret C rfl rfl (Nat.le_refl _) (Nat.le_refl _) rfl dJ0_length_8abf5_10
end
-- J0_isLatin1_aae02
theorem dJ0_isLatin1_aae02_0 : decode cJ0_isLatin1_aae02 0 = .ok (.getstatic 38, 3) := by decide +kernel
theorem dJ0_isLatin1_aae02_3 : decode cJ0_isLatin1_aae02 3 = .ok (.ifCond .eq 14, 3) := by decide +kernel
theorem dJ0_isLatin1_aae02_6 : decode cJ0_isLatin1_aae02 6 = .ok (.aload_n 0, 1) := by decide +kernel
theorem dJ0_isLatin1_aae02_7 : decode cJ0_isLatin1_aae02 7 = .ok (.getfield 15, 3) := by decide +kernel
theorem dJ0_isLatin1_aae02_10 : decode cJ0_isLatin1_aae02 10 = .ok (.ifCond .ne 7, 3) := by decide +kernel
theorem dJ0_isLatin1_aae02_13 : decode cJ0_isLatin1_aae02 13 = .ok (.iconst 1, 1) := by decide +kernel
theorem dJ0_isLatin1_aae02_14 : decode cJ0_isLatin1_aae02 14 = .ok (.goto 4, 3) := by decide +kernel
theorem dJ0_isLatin1_aae02_17 : decode cJ0_isLatin1_aae02 17 = .ok (.iconst 0, 1) := by decide +kernel
theorem dJ0_isLatin1_aae02_18 : decode cJ0_isLatin1_aae02 18 = .ok (.ireturn, 1) := by decide +kernel
def s_J0_isLatin1_aae02 (o : Nat) (h : aH) : aO :=
  if (1 : Int32) = 0 then (rtZ 0 h) else ((sK o).bind fun k7 => if (0 : Int32) = 0 then (rtZ 1 h) else (rtZ 0 h))
section
variable {p : Program} {l : Launch} {e : Env} {s : State} {m : MethodId} {args : Array Value} {below : List Frame} {meth : Method} {c : Code} {D : va_G} {B0 : Nat} {X : Nat → Nat} {ws0 : va_W} {r : aR} {h' : aH} {mc ms : Nat}
theorem hy_J0_isLatin1_aae02 : yJ0_isLatin1_aae02.cls ≠ "java/lang/invoke/MethodHandle" ∧ yJ0_isLatin1_aae02.cls ≠ "java/lang/invoke/VarHandle" ∧ (parseMethodDescriptor yJ0_isLatin1_aae02.desc).map (fun d => d.parameters.length) = some 0 := by decide +kernel
theorem T_J0_isLatin1_aae02 (o : Nat) (h : aH) (r : aR) (h' : aH) (hs : s_J0_isLatin1_aae02 o h = some (r, h')) : Mt yJ0_isLatin1_aae02 (Cond.code yJ0_isLatin1_aae02 cJ0_isLatin1_aae02 1 (some .boolean) :: aTB) 0 0 0 0 [.ref o] h r h' := by
  unfold s_J0_isLatin1_aae02 at hs
  refine Mt_of (k := 0) (by decide) rfl (fun p l e s m args below meth c D B0 X ws0 C => ?_)
  show Ev p l e { frames := 0, cells := 0, slots := 0, locals := 0 } s m args below meth c D B0 X ws0 r h' 0 0 1 0 0 0 [some (.ref o)] [] h
  refine ev_getsCS C wf_J0_38 dJ0_isLatin1_aae02_0 ?_
  refine ev_if_eq C (tgt := 17) (by decide) dJ0_isLatin1_aae02_3 (fun q3 => ?_) (fun q3 => ?_)
  · replace hs := (if_pos q3).symm.trans hs
    refine ev_iconst C (v := 0) dJ0_isLatin1_aae02_17 (by decide) ?_
    obtain ⟨hz, rfl, rfl⟩ := rtZ_at hs
    exact ev_zret C rfl hz rfl (Nat.le_refl _) (Nat.le_refl _) rfl dJ0_isLatin1_aae02_18
  · replace hs := (if_neg q3).symm.trans hs
    refine ev_aload_n C (x := .ref o) rfl trivial dJ0_isLatin1_aae02_6 ?_
    obtain ⟨k7, e7, hs⟩ := aB hs
    refine ev_getSc C e7 wf_J0_15 dJ0_isLatin1_aae02_7 ?_
    refine ev_if_ne C (tgt := 17) (by decide) dJ0_isLatin1_aae02_10 (fun q10 => ?_) (fun q10 => ?_)
    · replace hs := (if_neg q10).symm.trans hs
      refine ev_iconst C (v := 0) dJ0_isLatin1_aae02_17 (by decide) ?_
      obtain ⟨hz, rfl, rfl⟩ := rtZ_at hs
      exact ev_zret C rfl hz rfl (Nat.le_refl _) (Nat.le_refl _) rfl dJ0_isLatin1_aae02_18
    · replace hs := (if_pos q10).symm.trans hs
      refine ev_iconst C (v := 1) dJ0_isLatin1_aae02_13 (by decide) ?_
      refine ev_goto C (tgt := 18) (by decide) dJ0_isLatin1_aae02_14 ?_
      obtain ⟨hz, rfl, rfl⟩ := rtZ_at hs
      exact ev_zret C rfl hz rfl (Nat.le_refl _) (Nat.le_refl _) rfl dJ0_isLatin1_aae02_18
end
-- J1_charAt_3b067
theorem dJ1_charAt_3b067_0 : decode cJ1_charAt_3b067 0 = .ok (.iload_n 1, 1) := by decide +kernel
theorem dJ1_charAt_3b067_1 : decode cJ1_charAt_3b067 1 = .ok (.aload_n 0, 1) := by decide +kernel
theorem dJ1_charAt_3b067_2 : decode cJ1_charAt_3b067 2 = .ok (.arraylength, 1) := by decide +kernel
theorem dJ1_charAt_3b067_3 : decode cJ1_charAt_3b067 3 = .ok (.invokestatic 9, 3) := by decide +kernel
theorem dJ1_charAt_3b067_6 : decode cJ1_charAt_3b067 6 = .ok (.aload_n 0, 1) := by decide +kernel
theorem dJ1_charAt_3b067_7 : decode cJ1_charAt_3b067 7 = .ok (.iload_n 1, 1) := by decide +kernel
theorem dJ1_charAt_3b067_8 : decode cJ1_charAt_3b067 8 = .ok (.baload, 1) := by decide +kernel
theorem dJ1_charAt_3b067_9 : decode cJ1_charAt_3b067 9 = .ok (.sipush 255, 3) := by decide +kernel
theorem dJ1_charAt_3b067_12 : decode cJ1_charAt_3b067 12 = .ok (.iand, 1) := by decide +kernel
theorem dJ1_charAt_3b067_13 : decode cJ1_charAt_3b067 13 = .ok (.i2c, 1) := by decide +kernel
theorem dJ1_charAt_3b067_14 : decode cJ1_charAt_3b067 14 = .ok (.ireturn, 1) := by decide +kernel
def s_J1_charAt_3b067 (a1 : Nat) (a2 : Int32) (h : aH) : aO :=
  (lnA h (.ref a1)).bind fun x2 => cN (s_J0_checkIndex_df160 a2 x2 h) fun h3 => (ldI .byte h3 (.ref a1) a2).bind fun x8 => rtC (((x8 &&& 255).toUInt32 % 65536).toInt32) h3
section
variable {p : Program} {l : Launch} {e : Env} {s : State} {m : MethodId} {args : Array Value} {below : List Frame} {meth : Method} {c : Code} {D : va_G} {B0 : Nat} {X : Nat → Nat} {ws0 : va_W} {r : aR} {h' : aH} {mc ms : Nat}
theorem hy_J1_charAt_3b067 : yJ1_charAt_3b067.cls ≠ "java/lang/invoke/MethodHandle" ∧ yJ1_charAt_3b067.cls ≠ "java/lang/invoke/VarHandle" ∧ (parseMethodDescriptor yJ1_charAt_3b067.desc).map (fun d => d.parameters.length) = some 2 := by decide +kernel
theorem T_J1_charAt_3b067 (a1 : Nat) (a2 : Int32) (h : aH) (r : aR) (h' : aH) (hs : s_J1_charAt_3b067 a1 a2 h = some (r, h')) : Mt yJ1_charAt_3b067 (Cond.code yJ1_charAt_3b067 cJ1_charAt_3b067 2 (some .char) :: aTB) 2 51 0 0 [.ref a1, .int a2] h r h' := by
  unfold s_J1_charAt_3b067 at hs
  refine Mt_of (k := 0) (by decide) rfl (fun p l e s m args below meth c D B0 X ws0 C => ?_)
  show Ev p l e { frames := 2, cells := 0, slots := 0, locals := 51 } s m args below meth c D B0 X ws0 r h' 0 0 2 0 0 0 [some (.ref a1), some (.int a2)] [] h
  refine ev_iload_n C rfl dJ1_charAt_3b067_0 ?_
  refine ev_aload_n C (x := .ref a1) rfl trivial dJ1_charAt_3b067_1 ?_
  obtain ⟨x2, e2, hs⟩ := aB hs
  refine ev_alen C e2 dJ1_charAt_3b067_2 ?_
  obtain ⟨h3, e3, hs⟩ := cN_at hs
  refine ev_callS C (T_J0_checkIndex_df160 _ _ _ _ _ e3) wc_J0_checkIndex_df160 wm_J1_9 wt_J0_checkIndex_df160 wz_J0 hy_J0_checkIndex_df160 ⟨(Nat.le_of_ble_eq_true rfl), (Nat.le_of_ble_eq_true rfl)⟩ ⟨(Nat.le_refl _), (Nat.le_refl _)⟩ (Nat.le_of_ble_eq_true rfl) rfl dJ1_charAt_3b067_3 ?_
  refine ev_aload_n C (x := .ref a1) rfl trivial dJ1_charAt_3b067_6 ?_
  refine ev_iload_n C rfl dJ1_charAt_3b067_7 ?_
  obtain ⟨x8, e8, hs⟩ := aB hs
  refine ev_bald C e8 dJ1_charAt_3b067_8 ?_
  refine ev_sipush C (v := 255) dJ1_charAt_3b067_9 (by decide) ?_
  refine ev_iand C dJ1_charAt_3b067_12 ?_
  refine ev_i2c C dJ1_charAt_3b067_13 ?_
  obtain ⟨hz, rfl, rfl⟩ := rtC_at hs
  exact ev_nret C rfl hz rfl (Nat.le_refl _) (Nat.le_refl _) rfl dJ1_charAt_3b067_14
end
-- J0_charAt_5068e
theorem dJ0_charAt_5068e_0 : decode cJ0_charAt_5068e 0 = .ok (.aload_n 0, 1) := by decide +kernel
theorem dJ0_charAt_5068e_1 : decode cJ0_charAt_5068e 1 = .ok (.invokevirtual 492, 3) := by decide +kernel
theorem dJ0_charAt_5068e_4 : decode cJ0_charAt_5068e 4 = .ok (.ifCond .eq 12, 3) := by decide +kernel
theorem dJ0_charAt_5068e_7 : decode cJ0_charAt_5068e 7 = .ok (.aload_n 0, 1) := by decide +kernel
theorem dJ0_charAt_5068e_8 : decode cJ0_charAt_5068e 8 = .ok (.getfield 9, 3) := by decide +kernel
theorem dJ0_charAt_5068e_11 : decode cJ0_charAt_5068e 11 = .ok (.iload_n 1, 1) := by decide +kernel
theorem dJ0_charAt_5068e_12 : decode cJ0_charAt_5068e 12 = .ok (.invokestatic 495, 3) := by decide +kernel
theorem dJ0_charAt_5068e_15 : decode cJ0_charAt_5068e 15 = .ok (.ireturn, 1) := by decide +kernel
theorem dJ0_charAt_5068e_16 : decode cJ0_charAt_5068e 16 = .ok (.aload_n 0, 1) := by decide +kernel
theorem dJ0_charAt_5068e_17 : decode cJ0_charAt_5068e 17 = .ok (.getfield 9, 3) := by decide +kernel
theorem dJ0_charAt_5068e_20 : decode cJ0_charAt_5068e 20 = .ok (.iload_n 1, 1) := by decide +kernel
theorem dJ0_charAt_5068e_21 : decode cJ0_charAt_5068e 21 = .ok (.invokestatic 498, 3) := by decide +kernel
theorem dJ0_charAt_5068e_24 : decode cJ0_charAt_5068e 24 = .ok (.ireturn, 1) := by decide +kernel
def s_J0_charAt_5068e (o : Nat) (a1 : Int32) (h : aH) : aO :=
  (sK o).bind fun k1 => cI (s_J0_isLatin1_aae02 o h) fun x1 h1 => if x1 = 0 then ((sK o).bind fun k17 => none) else ((sK o).bind fun k8 => cI (s_J1_charAt_3b067 (o + 10) a1 h1) fun x12 h12 => rtC x12 h12)
section
variable {p : Program} {l : Launch} {e : Env} {s : State} {m : MethodId} {args : Array Value} {below : List Frame} {meth : Method} {c : Code} {D : va_G} {B0 : Nat} {X : Nat → Nat} {ws0 : va_W} {r : aR} {h' : aH} {mc ms : Nat}
theorem hy_J0_charAt_5068e : yJ0_charAt_5068e.cls ≠ "java/lang/invoke/MethodHandle" ∧ yJ0_charAt_5068e.cls ≠ "java/lang/invoke/VarHandle" ∧ (parseMethodDescriptor yJ0_charAt_5068e.desc).map (fun d => d.parameters.length) = some 1 := by decide +kernel
theorem T_J0_charAt_5068e (o : Nat) (a1 : Int32) (h : aH) (r : aR) (h' : aH) (hs : s_J0_charAt_5068e o a1 h = some (r, h')) : Mt yJ0_charAt_5068e (Cond.code yJ0_charAt_5068e cJ0_charAt_5068e 2 (some .char) :: aTB) 4 93 0 0 [.ref o, .int a1] h r h' := by
  unfold s_J0_charAt_5068e at hs
  refine Mt_of (k := 0) (by decide) rfl (fun p l e s m args below meth c D B0 X ws0 C => ?_)
  show Ev p l e { frames := 4, cells := 0, slots := 0, locals := 93 } s m args below meth c D B0 X ws0 r h' 0 0 2 0 0 0 [some (.ref o), some (.int a1)] [] h
  refine ev_aload_n C (x := .ref o) rfl trivial dJ0_charAt_5068e_0 ?_
  obtain ⟨k1, eo1, hs⟩ := aB hs
  obtain ⟨x1, h1, e1, hs⟩ := cI_at hs
  refine ev_callVS C (T_J0_isLatin1_aae02 _ _ _ _ e1) rfl eo1 wc_J0_isLatin1_aae02 wm_J0_492 wi_J0_isLatin1_aae02 ws_J0_isLatin1_aae02 wz_J0 hy_J0_isLatin1_aae02 ⟨(Nat.le_of_ble_eq_true rfl), (Nat.le_of_ble_eq_true rfl)⟩ ⟨(Nat.le_refl _), (Nat.le_refl _)⟩ (Nat.le_of_ble_eq_true rfl) rfl dJ0_charAt_5068e_1 ?_
  refine ev_if_eq C (tgt := 16) (by decide) dJ0_charAt_5068e_4 (fun q4 => ?_) (fun q4 => ?_)
  · replace hs := (if_pos q4).symm.trans hs
    refine ev_aload_n C (x := .ref o) rfl trivial dJ0_charAt_5068e_16 ?_
    obtain ⟨k17, e17, hs⟩ := aB hs
    refine ev_getSv C e17 wf_J0_9 dJ0_charAt_5068e_17 ?_
    refine ev_iload_n C rfl dJ0_charAt_5068e_20 ?_
    cases hs
  · replace hs := (if_neg q4).symm.trans hs
    refine ev_aload_n C (x := .ref o) rfl trivial dJ0_charAt_5068e_7 ?_
    obtain ⟨k8, e8, hs⟩ := aB hs
    refine ev_getSv C e8 wf_J0_9 dJ0_charAt_5068e_8 ?_
    refine ev_iload_n C rfl dJ0_charAt_5068e_11 ?_
    obtain ⟨x12, h12, e12, hs⟩ := cI_at hs
    refine ev_callS C (T_J1_charAt_3b067 _ _ _ _ _ e12) wc_J1_charAt_3b067 wm_J0_495 wt_J1_charAt_3b067 wz_J1 hy_J1_charAt_3b067 ⟨(Nat.le_of_ble_eq_true rfl), (Nat.le_of_ble_eq_true rfl)⟩ ⟨(Nat.le_refl _), (Nat.le_refl _)⟩ (Nat.le_of_ble_eq_true rfl) rfl dJ0_charAt_5068e_12 ?_
    obtain ⟨hz, rfl, rfl⟩ := rtC_at hs
    exact ev_nret C rfl hz rfl (Nat.le_refl _) (Nat.le_refl _) rfl dJ0_charAt_5068e_15
end
-- X14_wordOf
theorem dX14_wordOf_0 : decode cX14_wordOf 0 = .ok (.lconst 0, 1) := by decide +kernel
theorem dX14_wordOf_1 : decode cX14_wordOf 1 = .ok (.lstore_n 1, 1) := by decide +kernel
theorem dX14_wordOf_2 : decode cX14_wordOf 2 = .ok (.iconst 0, 1) := by decide +kernel
theorem dX14_wordOf_3 : decode cX14_wordOf 3 = .ok (.istore_n 3, 1) := by decide +kernel
theorem dX14_wordOf_4 : decode cX14_wordOf 4 = .ok (.iload_n 3, 1) := by decide +kernel
theorem dX14_wordOf_5 : decode cX14_wordOf 5 = .ok (.aload_n 0, 1) := by decide +kernel
theorem dX14_wordOf_6 : decode cX14_wordOf 6 = .ok (.invokevirtual 177, 3) := by decide +kernel
theorem dX14_wordOf_9 : decode cX14_wordOf 9 = .ok (.if_icmp .ge 27, 3) := by decide +kernel
theorem dX14_wordOf_12 : decode cX14_wordOf 12 = .ok (.ldc2_w 183, 3) := by decide +kernel
theorem dX14_wordOf_15 : decode cX14_wordOf 15 = .ok (.lload_n 1, 1) := by decide +kernel
theorem dX14_wordOf_16 : decode cX14_wordOf 16 = .ok (.lmul, 1) := by decide +kernel
theorem dX14_wordOf_17 : decode cX14_wordOf 17 = .ok (.aload_n 0, 1) := by decide +kernel
theorem dX14_wordOf_18 : decode cX14_wordOf 18 = .ok (.iload_n 3, 1) := by decide +kernel
theorem dX14_wordOf_19 : decode cX14_wordOf 19 = .ok (.invokevirtual 185, 3) := by decide +kernel
theorem dX14_wordOf_22 : decode cX14_wordOf 22 = .ok (.bipush 97, 2) := by decide +kernel
theorem dX14_wordOf_24 : decode cX14_wordOf 24 = .ok (.isub, 1) := by decide +kernel
theorem dX14_wordOf_25 : decode cX14_wordOf 25 = .ok (.iconst 1, 1) := by decide +kernel
theorem dX14_wordOf_26 : decode cX14_wordOf 26 = .ok (.iadd, 1) := by decide +kernel
theorem dX14_wordOf_27 : decode cX14_wordOf 27 = .ok (.i2l, 1) := by decide +kernel
theorem dX14_wordOf_28 : decode cX14_wordOf 28 = .ok (.ladd, 1) := by decide +kernel
theorem dX14_wordOf_29 : decode cX14_wordOf 29 = .ok (.lstore_n 1, 1) := by decide +kernel
theorem dX14_wordOf_30 : decode cX14_wordOf 30 = .ok (.iinc 3 1, 3) := by decide +kernel
theorem dX14_wordOf_33 : decode cX14_wordOf 33 = .ok (.goto (-29), 3) := by decide +kernel
theorem dX14_wordOf_36 : decode cX14_wordOf 36 = .ok (.lload_n 1, 1) := by decide +kernel
theorem dX14_wordOf_37 : decode cX14_wordOf 37 = .ok (.lreturn, 1) := by decide +kernel
def s_X14_wordOf_4_b  (k4 : Nat → Int64 → Int32 → aH → aO) (l0 : Nat) (l1 : Int64) (l3 : Int32) (h : aH) : aO :=
  (sK l0).bind fun k6 => cI (s_J0_length_8abf5 l0 h) fun x6 h6 => if x6 ≤ l3 then (some (.inl (some (.long l1)), h6)) else ((sK l0).bind fun k19 => cI (s_J0_charAt_5068e l0 l3 h6) fun x19 h19 => k4 l0 ((32 * l1) + (((x19 - 97) + 1).toInt64)) (l3 + 1) h19)
def s_X14_wordOf_4  (n : Nat) : Nat → Int64 → Int32 → aH → aO := lpF (fun _ _ _ _ => none) (s_X14_wordOf_4_b ) n
def s_X14_wordOf (a1 : Nat) (h : aH) : aO :=
  s_X14_wordOf_4 FU a1 0 0 h
section
variable {p : Program} {l : Launch} {e : Env} {s : State} {m : MethodId} {args : Array Value} {below : List Frame} {meth : Method} {c : Code} {D : va_G} {B0 : Nat} {X : Nat → Nat} {ws0 : va_W} {r : aR} {h' : aH} {mc ms : Nat}
theorem t_X14_wordOf_4_b (C : Cx p l s m args meth c B0 X RX14 "wordOf" cX14_wordOf 4 (some .long) [])   {k4 : Nat → Int64 → Int32 → aH → aO} (K4 : ∀ (l0 : Nat) (l1 : Int64) (l3 : Int32) (h : aH), k4 l0 l1 l3 h = some (r, h') → Ev p l e { frames := 5, cells := mc, slots := ms, locals := 114 } s m args below meth c D B0 X ws0 r h' mc ms 4 mc ms 4 [some (.ref l0), some (.long l1), none, some (.int l3)] [] h) {l0 : Nat} {l1 : Int64} {l3 : Int32} {h : aH} (hs : s_X14_wordOf_4_b  k4 l0 l1 l3 h = some (r, h')) : Ev p l e { frames := 5, cells := mc, slots := ms, locals := 114 } s m args below meth c D B0 X ws0 r h' mc ms 4 mc ms 4 [some (.ref l0), some (.long l1), none, some (.int l3)] [] h := by
  unfold s_X14_wordOf_4_b at hs
  refine ev_iload_n C rfl dX14_wordOf_4 ?_
  refine ev_aload_n C (x := .ref l0) rfl trivial dX14_wordOf_5 ?_
  obtain ⟨k6, eo6, hs⟩ := aB hs
  obtain ⟨x6, h6, e6, hs⟩ := cI_at hs
  refine ev_callVS C (T_J0_length_8abf5 _ _ _ _ e6) rfl eo6 wc_J0_length_8abf5 wm_X14_177 wi_J0_length_8abf5 ws_J0_length_8abf5 wz_J0 hy_J0_length_8abf5 ⟨(Nat.le_of_ble_eq_true rfl), (Nat.le_of_ble_eq_true rfl)⟩ ⟨(Nat.le_refl _), (Nat.le_refl _)⟩ (Nat.le_of_ble_eq_true rfl) rfl dX14_wordOf_6 ?_
  refine ev_icmp_ge C (tgt := 36) (by decide) dX14_wordOf_9 (fun q9 => ?_) (fun q9 => ?_)
  · replace hs := (if_pos q9).symm.trans hs
    refine ev_lload_n C rfl dX14_wordOf_36 ?_
    cases hs
    exact ev_lret C rfl rfl (Nat.le_refl _) (Nat.le_refl _) rfl dX14_wordOf_37
  · replace hs := (if_neg q9).symm.trans hs
    refine ev_ldc2 C wv_X14_183 dX14_wordOf_12 ?_
    refine ev_lload_n C rfl dX14_wordOf_15 ?_
    refine ev_lmul C dX14_wordOf_16 ?_
    refine ev_aload_n C (x := .ref l0) rfl trivial dX14_wordOf_17 ?_
    refine ev_iload_n C rfl dX14_wordOf_18 ?_
    obtain ⟨k19, eo19, hs⟩ := aB hs
    obtain ⟨x19, h19, e19, hs⟩ := cI_at hs
    refine ev_callVS C (T_J0_charAt_5068e _ _ _ _ _ e19) rfl eo19 wc_J0_charAt_5068e wm_X14_185 wi_J0_charAt_5068e ws_J0_charAt_5068e wz_J0 hy_J0_charAt_5068e ⟨(Nat.le_of_ble_eq_true rfl), (Nat.le_of_ble_eq_true rfl)⟩ ⟨(Nat.le_refl _), (Nat.le_refl _)⟩ (Nat.le_of_ble_eq_true rfl) rfl dX14_wordOf_19 ?_
    refine ev_bipush C (v := 97) dX14_wordOf_22 (by decide) ?_
    refine ev_isub C dX14_wordOf_24 ?_
    refine ev_iconst C (v := 1) dX14_wordOf_25 (by decide) ?_
    refine ev_iadd C dX14_wordOf_26 ?_
    refine ev_i2l C dX14_wordOf_27 ?_
    refine ev_ladd C dX14_wordOf_28 ?_
    refine ev_lstore_n C (by decide) dX14_wordOf_29 ?_
    refine ev_iinc C (i := 3) (n := 1) (x := l3) (v := l3 + 1) rfl (congrArg (fun z => l3 + z) (show Int32.ofInt 1 = 1 by decide)) (by decide) dX14_wordOf_30 ?_
    refine ev_goto C (tgt := 4) (by decide) dX14_wordOf_33 ?_
    exact (K4 _ _ _ _ hs)
theorem t_X14_wordOf_4 (C : Cx p l s m args meth c B0 X RX14 "wordOf" cX14_wordOf 4 (some .long) [])   : ∀ (n : Nat) {l0 : Nat} {l1 : Int64} {l3 : Int32} {h : aH} (hs : s_X14_wordOf_4  n l0 l1 l3 h = some (r, h')), Ev p l e { frames := 5, cells := mc, slots := ms, locals := 114 } s m args below meth c D B0 X ws0 r h' mc ms 4 mc ms 4 [some (.ref l0), some (.long l1), none, some (.int l3)] [] h
  | 0, _, _, _, _, hs => nomatch hs
  | n + 1, _, _, _, _, hs => t_X14_wordOf_4_b C  (k4 := s_X14_wordOf_4  n) (fun _ _ _ _ hs => t_X14_wordOf_4 C  n hs) hs
theorem hy_X14_wordOf : yX14_wordOf.cls ≠ "java/lang/invoke/MethodHandle" ∧ yX14_wordOf.cls ≠ "java/lang/invoke/VarHandle" ∧ (parseMethodDescriptor yX14_wordOf.desc).map (fun d => d.parameters.length) = some 1 := by decide +kernel
theorem T_X14_wordOf (a1 : Nat) (h : aH) (r : aR) (h' : aH) (hs : s_X14_wordOf a1 h = some (r, h')) : Mt yX14_wordOf (Cond.code yX14_wordOf cX14_wordOf 4 (some .long) :: aTB) 5 114 0 0 [.ref a1] h r h' := by
  unfold s_X14_wordOf at hs
  refine Mt_of (k := 3) (by decide) rfl (fun p l e s m args below meth c D B0 X ws0 C => ?_)
  show Ev p l e { frames := 5, cells := 0, slots := 0, locals := 114 } s m args below meth c D B0 X ws0 r h' 0 0 4 0 0 0 [some (.ref a1), none, none, none] [] h
  refine ev_lconst C (v := 0) dX14_wordOf_0 (by decide) ?_
  refine ev_lstore_n C (by decide) dX14_wordOf_1 ?_
  refine ev_iconst C (v := 0) dX14_wordOf_2 (by decide) ?_
  refine ev_istore_n C (by decide) dX14_wordOf_3 ?_
  exact (t_X14_wordOf_4 C  FU hs)
end
-- X14_next
theorem dX14_next_0 : decode cX14_next 0 = .ok (.aload_n 0, 1) := by decide +kernel
theorem dX14_next_1 : decode cX14_next 1 = .ok (.aload_n 0, 1) := by decide +kernel
theorem dX14_next_2 : decode cX14_next 2 = .ok (.getfield 189, 3) := by decide +kernel
theorem dX14_next_5 : decode cX14_next 5 = .ok (.invokevirtual 192, 3) := by decide +kernel
theorem dX14_next_8 : decode cX14_next 8 = .ok (.bipush 32, 2) := by decide +kernel
theorem dX14_next_10 : decode cX14_next 10 = .ok (.if_icmp .ne 16, 3) := by decide +kernel
theorem dX14_next_13 : decode cX14_next 13 = .ok (.aload_n 0, 1) := by decide +kernel
theorem dX14_next_14 : decode cX14_next 14 = .ok (.dup, 1) := by decide +kernel
theorem dX14_next_15 : decode cX14_next 15 = .ok (.getfield 189, 3) := by decide +kernel
theorem dX14_next_18 : decode cX14_next 18 = .ok (.iconst 1, 1) := by decide +kernel
theorem dX14_next_19 : decode cX14_next 19 = .ok (.iadd, 1) := by decide +kernel
theorem dX14_next_20 : decode cX14_next 20 = .ok (.putfield 189, 3) := by decide +kernel
theorem dX14_next_23 : decode cX14_next 23 = .ok (.goto (-23), 3) := by decide +kernel
theorem dX14_next_26 : decode cX14_next 26 = .ok (.aload_n 0, 1) := by decide +kernel
theorem dX14_next_27 : decode cX14_next 27 = .ok (.aload_n 0, 1) := by decide +kernel
theorem dX14_next_28 : decode cX14_next 28 = .ok (.getfield 189, 3) := by decide +kernel
theorem dX14_next_31 : decode cX14_next 31 = .ok (.putfield 169, 3) := by decide +kernel
theorem dX14_next_34 : decode cX14_next 34 = .ok (.aload_n 0, 1) := by decide +kernel
theorem dX14_next_35 : decode cX14_next 35 = .ok (.iconst 0, 1) := by decide +kernel
theorem dX14_next_36 : decode cX14_next 36 = .ok (.putfield 196, 3) := by decide +kernel
theorem dX14_next_39 : decode cX14_next 39 = .ok (.aload_n 0, 1) := by decide +kernel
theorem dX14_next_40 : decode cX14_next 40 = .ok (.iconst 0, 1) := by decide +kernel
theorem dX14_next_41 : decode cX14_next 41 = .ok (.putfield 199, 3) := by decide +kernel
theorem dX14_next_44 : decode cX14_next 44 = .ok (.aload_n 0, 1) := by decide +kernel
theorem dX14_next_45 : decode cX14_next 45 = .ok (.aload_n 0, 1) := by decide +kernel
theorem dX14_next_46 : decode cX14_next 46 = .ok (.getfield 189, 3) := by decide +kernel
theorem dX14_next_49 : decode cX14_next 49 = .ok (.invokevirtual 192, 3) := by decide +kernel
theorem dX14_next_52 : decode cX14_next 52 = .ok (.istore_n 1, 1) := by decide +kernel
theorem dX14_next_53 : decode cX14_next 53 = .ok (.iconst 0, 1) := by decide +kernel
theorem dX14_next_54 : decode cX14_next 54 = .ok (.istore_n 2, 1) := by decide +kernel
theorem dX14_next_55 : decode cX14_next 55 = .ok (.iload_n 1, 1) := by decide +kernel
theorem dX14_next_56 : decode cX14_next 56 = .ok (.iconst (-1), 1) := by decide +kernel
theorem dX14_next_57 : decode cX14_next 57 = .ok (.if_icmp .ne 11, 3) := by decide +kernel
theorem dX14_next_60 : decode cX14_next 60 = .ok (.aload_n 0, 1) := by decide +kernel
theorem dX14_next_61 : decode cX14_next 61 = .ok (.iconst 1, 1) := by decide +kernel
theorem dX14_next_62 : decode cX14_next 62 = .ok (.putfield 196, 3) := by decide +kernel
theorem dX14_next_65 : decode cX14_next 65 = .ok (.goto 202, 3) := by decide +kernel
theorem dX14_next_68 : decode cX14_next 68 = .ok (.iload_n 1, 1) := by decide +kernel
theorem dX14_next_69 : decode cX14_next 69 = .ok (.invokestatic 202, 3) := by decide +kernel
theorem dX14_next_72 : decode cX14_next 72 = .ok (.ifCond .eq 85, 3) := by decide +kernel
theorem dX14_next_75 : decode cX14_next 75 = .ok (.aload_n 0, 1) := by decide +kernel
theorem dX14_next_76 : decode cX14_next 76 = .ok (.lconst 0, 1) := by decide +kernel
theorem dX14_next_77 : decode cX14_next 77 = .ok (.putfield 206, 3) := by decide +kernel
theorem dX14_next_80 : decode cX14_next 80 = .ok (.aload_n 0, 1) := by decide +kernel
theorem dX14_next_81 : decode cX14_next 81 = .ok (.aload_n 0, 1) := by decide +kernel
theorem dX14_next_82 : decode cX14_next 82 = .ok (.getfield 189, 3) := by decide +kernel
theorem dX14_next_85 : decode cX14_next 85 = .ok (.invokevirtual 192, 3) := by decide +kernel
theorem dX14_next_88 : decode cX14_next 88 = .ok (.invokestatic 202, 3) := by decide +kernel
theorem dX14_next_91 : decode cX14_next 91 = .ok (.ifCond .eq 52, 3) := by decide +kernel
theorem dX14_next_94 : decode cX14_next 94 = .ok (.iload_n 2, 1) := by decide +kernel
theorem dX14_next_95 : decode cX14_next 95 = .ok (.bipush 8, 2) := by decide +kernel
theorem dX14_next_97 : decode cX14_next 97 = .ok (.if_icmp .ge 30, 3) := by decide +kernel
theorem dX14_next_100 : decode cX14_next 100 = .ok (.aload_n 0, 1) := by decide +kernel
theorem dX14_next_101 : decode cX14_next 101 = .ok (.ldc2_w 183, 3) := by decide +kernel
theorem dX14_next_104 : decode cX14_next 104 = .ok (.aload_n 0, 1) := by decide +kernel
theorem dX14_next_105 : decode cX14_next 105 = .ok (.getfield 206, 3) := by decide +kernel
theorem dX14_next_108 : decode cX14_next 108 = .ok (.lmul, 1) := by decide +kernel
theorem dX14_next_109 : decode cX14_next 109 = .ok (.aload_n 0, 1) := by decide +kernel
theorem dX14_next_110 : decode cX14_next 110 = .ok (.aload_n 0, 1) := by decide +kernel
theorem dX14_next_111 : decode cX14_next 111 = .ok (.getfield 189, 3) := by decide +kernel
theorem dX14_next_114 : decode cX14_next 114 = .ok (.invokevirtual 192, 3) := by decide +kernel
theorem dX14_next_117 : decode cX14_next 117 = .ok (.bipush 97, 2) := by decide +kernel
theorem dX14_next_119 : decode cX14_next 119 = .ok (.isub, 1) := by decide +kernel
theorem dX14_next_120 : decode cX14_next 120 = .ok (.iconst 1, 1) := by decide +kernel
theorem dX14_next_121 : decode cX14_next 121 = .ok (.iadd, 1) := by decide +kernel
theorem dX14_next_122 : decode cX14_next 122 = .ok (.i2l, 1) := by decide +kernel
theorem dX14_next_123 : decode cX14_next 123 = .ok (.ladd, 1) := by decide +kernel
theorem dX14_next_124 : decode cX14_next 124 = .ok (.putfield 206, 3) := by decide +kernel
theorem dX14_next_127 : decode cX14_next 127 = .ok (.iinc 2 1, 3) := by decide +kernel
theorem dX14_next_130 : decode cX14_next 130 = .ok (.aload_n 0, 1) := by decide +kernel
theorem dX14_next_131 : decode cX14_next 131 = .ok (.dup, 1) := by decide +kernel
theorem dX14_next_132 : decode cX14_next 132 = .ok (.getfield 189, 3) := by decide +kernel
theorem dX14_next_135 : decode cX14_next 135 = .ok (.iconst 1, 1) := by decide +kernel
theorem dX14_next_136 : decode cX14_next 136 = .ok (.iadd, 1) := by decide +kernel
theorem dX14_next_137 : decode cX14_next 137 = .ok (.putfield 189, 3) := by decide +kernel
theorem dX14_next_140 : decode cX14_next 140 = .ok (.goto (-60), 3) := by decide +kernel
theorem dX14_next_143 : decode cX14_next 143 = .ok (.iload_n 2, 1) := by decide +kernel
theorem dX14_next_144 : decode cX14_next 144 = .ok (.bipush 8, 2) := by decide +kernel
theorem dX14_next_146 : decode cX14_next 146 = .ok (.if_icmp .gt 121, 3) := by decide +kernel
theorem dX14_next_149 : decode cX14_next 149 = .ok (.aload_n 0, 1) := by decide +kernel
theorem dX14_next_150 : decode cX14_next 150 = .ok (.iconst 2, 1) := by decide +kernel
theorem dX14_next_151 : decode cX14_next 151 = .ok (.putfield 196, 3) := by decide +kernel
theorem dX14_next_154 : decode cX14_next 154 = .ok (.goto 113, 3) := by decide +kernel
theorem dX14_next_157 : decode cX14_next 157 = .ok (.iload_n 1, 1) := by decide +kernel
theorem dX14_next_158 : decode cX14_next 158 = .ok (.invokestatic 210, 3) := by decide +kernel
theorem dX14_next_161 : decode cX14_next 161 = .ok (.ifCond .eq 79, 3) := by decide +kernel
theorem dX14_next_164 : decode cX14_next 164 = .ok (.aload_n 0, 1) := by decide +kernel
theorem dX14_next_165 : decode cX14_next 165 = .ok (.iconst 0, 1) := by decide +kernel
theorem dX14_next_166 : decode cX14_next 166 = .ok (.putfield 213, 3) := by decide +kernel
theorem dX14_next_169 : decode cX14_next 169 = .ok (.aload_n 0, 1) := by decide +kernel
theorem dX14_next_170 : decode cX14_next 170 = .ok (.aload_n 0, 1) := by decide +kernel
theorem dX14_next_171 : decode cX14_next 171 = .ok (.getfield 189, 3) := by decide +kernel
theorem dX14_next_174 : decode cX14_next 174 = .ok (.invokevirtual 192, 3) := by decide +kernel
theorem dX14_next_177 : decode cX14_next 177 = .ok (.invokestatic 210, 3) := by decide +kernel
theorem dX14_next_180 : decode cX14_next 180 = .ok (.ifCond .eq 47, 3) := by decide +kernel
theorem dX14_next_183 : decode cX14_next 183 = .ok (.iload_n 2, 1) := by decide +kernel
theorem dX14_next_184 : decode cX14_next 184 = .ok (.iconst 3, 1) := by decide +kernel
theorem dX14_next_185 : decode cX14_next 185 = .ok (.if_icmp .ge 26, 3) := by decide +kernel
theorem dX14_next_188 : decode cX14_next 188 = .ok (.aload_n 0, 1) := by decide +kernel
theorem dX14_next_189 : decode cX14_next 189 = .ok (.bipush 10, 2) := by decide +kernel
theorem dX14_next_191 : decode cX14_next 191 = .ok (.aload_n 0, 1) := by decide +kernel
theorem dX14_next_192 : decode cX14_next 192 = .ok (.getfield 213, 3) := by decide +kernel
theorem dX14_next_195 : decode cX14_next 195 = .ok (.imul, 1) := by decide +kernel
theorem dX14_next_196 : decode cX14_next 196 = .ok (.aload_n 0, 1) := by decide +kernel
theorem dX14_next_197 : decode cX14_next 197 = .ok (.aload_n 0, 1) := by decide +kernel
theorem dX14_next_198 : decode cX14_next 198 = .ok (.getfield 189, 3) := by decide +kernel
theorem dX14_next_201 : decode cX14_next 201 = .ok (.invokevirtual 192, 3) := by decide +kernel
theorem dX14_next_204 : decode cX14_next 204 = .ok (.iadd, 1) := by decide +kernel
theorem dX14_next_205 : decode cX14_next 205 = .ok (.bipush 48, 2) := by decide +kernel
theorem dX14_next_207 : decode cX14_next 207 = .ok (.isub, 1) := by decide +kernel
theorem dX14_next_208 : decode cX14_next 208 = .ok (.putfield 213, 3) := by decide +kernel
theorem dX14_next_211 : decode cX14_next 211 = .ok (.iinc 2 1, 3) := by decide +kernel
theorem dX14_next_214 : decode cX14_next 214 = .ok (.aload_n 0, 1) := by decide +kernel
theorem dX14_next_215 : decode cX14_next 215 = .ok (.dup, 1) := by decide +kernel
theorem dX14_next_216 : decode cX14_next 216 = .ok (.getfield 189, 3) := by decide +kernel
theorem dX14_next_219 : decode cX14_next 219 = .ok (.iconst 1, 1) := by decide +kernel
theorem dX14_next_220 : decode cX14_next 220 = .ok (.iadd, 1) := by decide +kernel
theorem dX14_next_221 : decode cX14_next 221 = .ok (.putfield 189, 3) := by decide +kernel
theorem dX14_next_224 : decode cX14_next 224 = .ok (.goto (-55), 3) := by decide +kernel
theorem dX14_next_227 : decode cX14_next 227 = .ok (.iload_n 2, 1) := by decide +kernel
theorem dX14_next_228 : decode cX14_next 228 = .ok (.iconst 4, 1) := by decide +kernel
theorem dX14_next_229 : decode cX14_next 229 = .ok (.if_icmp .ge 38, 3) := by decide +kernel
theorem dX14_next_232 : decode cX14_next 232 = .ok (.aload_n 0, 1) := by decide +kernel
theorem dX14_next_233 : decode cX14_next 233 = .ok (.iconst 3, 1) := by decide +kernel
theorem dX14_next_234 : decode cX14_next 234 = .ok (.putfield 196, 3) := by decide +kernel
theorem dX14_next_237 : decode cX14_next 237 = .ok (.goto 30, 3) := by decide +kernel
theorem dX14_next_240 : decode cX14_next 240 = .ok (.iload_n 1, 1) := by decide +kernel
theorem dX14_next_241 : decode cX14_next 241 = .ok (.invokestatic 216, 3) := by decide +kernel
theorem dX14_next_244 : decode cX14_next 244 = .ok (.ifCond .eq 23, 3) := by decide +kernel
theorem dX14_next_247 : decode cX14_next 247 = .ok (.aload_n 0, 1) := by decide +kernel
theorem dX14_next_248 : decode cX14_next 248 = .ok (.iconst 4, 1) := by decide +kernel
theorem dX14_next_249 : decode cX14_next 249 = .ok (.putfield 196, 3) := by decide +kernel
theorem dX14_next_252 : decode cX14_next 252 = .ok (.aload_n 0, 1) := by decide +kernel
theorem dX14_next_253 : decode cX14_next 253 = .ok (.iload_n 1, 1) := by decide +kernel
theorem dX14_next_254 : decode cX14_next 254 = .ok (.putfield 199, 3) := by decide +kernel
theorem dX14_next_257 : decode cX14_next 257 = .ok (.aload_n 0, 1) := by decide +kernel
theorem dX14_next_258 : decode cX14_next 258 = .ok (.dup, 1) := by decide +kernel
theorem dX14_next_259 : decode cX14_next 259 = .ok (.getfield 189, 3) := by decide +kernel
theorem dX14_next_262 : decode cX14_next 262 = .ok (.iconst 1, 1) := by decide +kernel
theorem dX14_next_263 : decode cX14_next 263 = .ok (.iadd, 1) := by decide +kernel
theorem dX14_next_264 : decode cX14_next 264 = .ok (.putfield 189, 3) := by decide +kernel
theorem dX14_next_267 : decode cX14_next 267 = .ok (.return_, 1) := by decide +kernel
def s_X14_next_211 (k169 : Nat → Int32 → aH → aO) (l0 : Nat) (l2 : Int32) (h : aH) : aO :=
  (gI h (.ref l0) 14 11).bind fun x216 => (pF h (.ref l0) 14 11 (.int (x216 + 1))).bind fun h221 => k169 l0 (l2 + 1) h221
def s_X14_next_169_b  (k169 : Nat → Int32 → aH → aO) (l0 : Nat) (l2 : Int32) (h : aH) : aO :=
  (gI h (.ref l0) 14 11).bind fun x171 => kO h l0 14 (cI (s_X14_byteAt l0 x171 h) fun x174 h174 => cI (s_X14_isDigit x174 h174) fun x177 h177 => if x177 = 0 then (if 4 ≤ l2 then (some (.inl none, h177)) else ((pF h177 (.ref l0) 14 12 (.int 3)).bind fun h234 => some (.inl none, h234))) else (if 3 ≤ l2 then (s_X14_next_211 k169 l0 l2 h177) else ((gI h177 (.ref l0) 14 15).bind fun x192 => (gI h177 (.ref l0) 14 11).bind fun x198 => kO h177 l0 14 (cI (s_X14_byteAt l0 x198 h177) fun x201 h201 => (pF h201 (.ref l0) 14 15 (.int (((10 * x192) + x201) - 48))).bind fun h208 => s_X14_next_211 k169 l0 l2 h208))))
def s_X14_next_169  (n : Nat) : Nat → Int32 → aH → aO := lpF (fun _ _ _ => none) (s_X14_next_169_b ) n
def s_X14_next_127 (k80 : Nat → Int32 → aH → aO) (l0 : Nat) (l2 : Int32) (h : aH) : aO :=
  (gI h (.ref l0) 14 11).bind fun x132 => (pF h (.ref l0) 14 11 (.int (x132 + 1))).bind fun h137 => k80 l0 (l2 + 1) h137
def s_X14_next_80_b  (k80 : Nat → Int32 → aH → aO) (l0 : Nat) (l2 : Int32) (h : aH) : aO :=
  (gI h (.ref l0) 14 11).bind fun x82 => kO h l0 14 (cI (s_X14_byteAt l0 x82 h) fun x85 h85 => cI (s_X14_isLetter x85 h85) fun x88 h88 => if x88 = 0 then (if 8 < l2 then (some (.inl none, h88)) else ((pF h88 (.ref l0) 14 12 (.int 2)).bind fun h151 => some (.inl none, h151))) else (if 8 ≤ l2 then (s_X14_next_127 k80 l0 l2 h88) else ((gJ h88 (.ref l0) 14 18).bind fun x105 => (gI h88 (.ref l0) 14 11).bind fun x111 => kO h88 l0 14 (cI (s_X14_byteAt l0 x111 h88) fun x114 h114 => (pF h114 (.ref l0) 14 18 (.long ((32 * x105) + (((x114 - 97) + 1).toInt64)))).bind fun h124 => s_X14_next_127 k80 l0 l2 h124))))
def s_X14_next_80  (n : Nat) : Nat → Int32 → aH → aO := lpF (fun _ _ _ => none) (s_X14_next_80_b ) n
def s_X14_next_0_b  (k0 : Nat → aH → aO) (l0 : Nat) (h : aH) : aO :=
  (gI h (.ref l0) 14 11).bind fun x2 => kO h l0 14 (cI (s_X14_byteAt l0 x2 h) fun x5 h5 => if x5 = 32 then ((gI h5 (.ref l0) 14 11).bind fun x15 => (pF h5 (.ref l0) 14 11 (.int (x15 + 1))).bind fun h20 => k0 l0 h20) else ((gI h5 (.ref l0) 14 11).bind fun x28 => (pF h5 (.ref l0) 14 13 (.int x28)).bind fun h31 => (pF h31 (.ref l0) 14 12 (.int 0)).bind fun h36 => (pF h36 (.ref l0) 14 14 (.int 0)).bind fun h41 => (gI h41 (.ref l0) 14 11).bind fun x46 => kO h41 l0 14 (cI (s_X14_byteAt l0 x46 h41) fun x49 h49 => if x49 = (-1) then ((pF h49 (.ref l0) 14 12 (.int 1)).bind fun h62 => some (.inl none, h62)) else (cI (s_X14_isLetter x49 h49) fun x69 h69 => if x69 = 0 then (cI (s_X14_isDigit x49 h69) fun x158 h158 => if x158 = 0 then (cI (s_X14_isMark x49 h158) fun x241 h241 => if x241 = 0 then (some (.inl none, h241)) else ((pF h241 (.ref l0) 14 12 (.int 4)).bind fun h249 => (pF h249 (.ref l0) 14 14 (.int x49)).bind fun h254 => (gI h254 (.ref l0) 14 11).bind fun x259 => (pF h254 (.ref l0) 14 11 (.int (x259 + 1))).bind fun h264 => some (.inl none, h264))) else ((pF h158 (.ref l0) 14 15 (.int 0)).bind fun h166 => s_X14_next_169 FU l0 0 h166)) else ((pF h69 (.ref l0) 14 18 (.long 0)).bind fun h77 => s_X14_next_80 FU l0 0 h77)))))
def s_X14_next_0  (n : Nat) : Nat → aH → aO := lpF (fun _ _ => none) (s_X14_next_0_b ) n
def s_X14_next (o : Nat) (h : aH) : aO :=
  s_X14_next_0 FU o h
section
variable {p : Program} {l : Launch} {e : Env} {s : State} {m : MethodId} {args : Array Value} {below : List Frame} {meth : Method} {c : Code} {D : va_G} {B0 : Nat} {X : Nat → Nat} {ws0 : va_W} {r : aR} {h' : aH} {mc ms : Nat}
theorem t_X14_next_211 (C : Cx p l s m args meth c B0 X RX14 "next" cX14_next 3 none []) {k169 : Nat → Int32 → aH → aO} (K169 : ∀ (l0 : Nat) (l2 : Int32) (h : aH), k169 l0 l2 h = some (r, h') → Ev p l e { frames := 1, cells := mc, slots := ms, locals := 21 } s m args below meth c D B0 X ws0 r h' mc ms 3 mc ms 169 [some (.ref l0), none, some (.int l2)] [] h) {l0 : Nat} {l2 : Int32} {h : aH} (hs : s_X14_next_211 k169 l0 l2 h = some (r, h')) : Ev p l e { frames := 1, cells := mc, slots := ms, locals := 21 } s m args below meth c D B0 X ws0 r h' mc ms 3 mc ms 211 [some (.ref l0), none, some (.int l2)] [] h := by
  unfold s_X14_next_211 at hs
  refine ev_iinc C (i := 2) (n := 1) (x := l2) (v := l2 + 1) rfl (congrArg (fun z => l2 + z) (show Int32.ofInt 1 = 1 by decide)) (by decide) dX14_next_211 ?_
  refine ev_aload_n C (x := .ref l0) rfl trivial dX14_next_214 ?_
  refine ev_dup C rfl dX14_next_215 ?_
  obtain ⟨x216, e216, hs⟩ := aB hs
  refine ev_get C (ci := 14) (k := 11) rfl wu_14 (by decide) wf_X14_189 (gI_F e216) dX14_next_216 ?_
  refine ev_iconst C (v := 1) dX14_next_219 (by decide) ?_
  refine ev_iadd C dX14_next_220 ?_
  obtain ⟨h221, e221, hs⟩ := aB hs
  refine ev_put C (ci := 14) (k := 11) rfl wu_14 (by decide) tyX14 tyX14_ok nmX14 wf_X14_189 rfl trivial e221 dX14_next_221 ?_
  refine ev_goto C (tgt := 169) (by decide) dX14_next_224 ?_
  exact (K169 _ _ _ hs)
theorem t_X14_next_169_b (C : Cx p l s m args meth c B0 X RX14 "next" cX14_next 3 none [])   {k169 : Nat → Int32 → aH → aO} (K169 : ∀ (l0 : Nat) (l2 : Int32) (h : aH), k169 l0 l2 h = some (r, h') → Ev p l e { frames := 1, cells := mc, slots := ms, locals := 21 } s m args below meth c D B0 X ws0 r h' mc ms 3 mc ms 169 [some (.ref l0), none, some (.int l2)] [] h) {l0 : Nat} {l2 : Int32} {h : aH} (hs : s_X14_next_169_b  k169 l0 l2 h = some (r, h')) : Ev p l e { frames := 1, cells := mc, slots := ms, locals := 21 } s m args below meth c D B0 X ws0 r h' mc ms 3 mc ms 169 [some (.ref l0), none, some (.int l2)] [] h := by
  unfold s_X14_next_169_b at hs
  refine ev_aload_n C (x := .ref l0) rfl trivial dX14_next_169 ?_
  refine ev_aload_n C (x := .ref l0) rfl trivial dX14_next_170 ?_
  obtain ⟨x171, e171, hs⟩ := aB hs
  refine ev_get C (ci := 14) (k := 11) rfl wu_14 (by decide) wf_X14_189 (gI_F e171) dX14_next_171 ?_
  obtain ⟨eo174, hs⟩ := kO_at hs
  obtain ⟨x174, h174, e174, hs⟩ := cI_at hs
  refine ev_callV C (T_X14_byteAt _ _ _ _ _ e174) (ci := 14) rfl eo174 wc_X14_byteAt wm_X14_192 wi_X14_byteAt ws_X14_byteAt wz_X14 hy_X14_byteAt ⟨(Nat.le_of_ble_eq_true rfl), (Nat.le_of_ble_eq_true rfl)⟩ ⟨(Nat.le_refl _), (Nat.le_refl _)⟩ (Nat.le_of_ble_eq_true rfl) rfl dX14_next_174 ?_
  obtain ⟨x177, h177, e177, hs⟩ := cI_at hs
  refine ev_callS C (T_X14_isDigit _ _ _ _ e177) wc_X14_isDigit wm_X14_210 wt_X14_isDigit wz_X14 hy_X14_isDigit ⟨(Nat.le_of_ble_eq_true rfl), (Nat.le_of_ble_eq_true rfl)⟩ ⟨(Nat.le_refl _), (Nat.le_refl _)⟩ (Nat.le_of_ble_eq_true rfl) rfl dX14_next_177 ?_
  refine ev_if_eq C (tgt := 227) (by decide) dX14_next_180 (fun q180 => ?_) (fun q180 => ?_)
  · replace hs := (if_pos q180).symm.trans hs
    refine ev_iload_n C rfl dX14_next_227 ?_
    refine ev_iconst C (v := 4) dX14_next_228 (by decide) ?_
    refine ev_icmp_ge C (tgt := 267) (by decide) dX14_next_229 (fun q229 => ?_) (fun q229 => ?_)
    · replace hs := (if_pos q229).symm.trans hs
      cases hs
      exact ev_vret C rfl rfl (Nat.le_refl _) (Nat.le_refl _) rfl dX14_next_267
    · replace hs := (if_neg q229).symm.trans hs
      refine ev_aload_n C (x := .ref l0) rfl trivial dX14_next_232 ?_
      refine ev_iconst C (v := 3) dX14_next_233 (by decide) ?_
      obtain ⟨h234, e234, hs⟩ := aB hs
      refine ev_put C (ci := 14) (k := 12) rfl wu_14 (by decide) tyX14 tyX14_ok nmX14 wf_X14_196 rfl trivial e234 dX14_next_234 ?_
      refine ev_goto C (tgt := 267) (by decide) dX14_next_237 ?_
      cases hs
      exact ev_vret C rfl rfl (Nat.le_refl _) (Nat.le_refl _) rfl dX14_next_267
  · replace hs := (if_neg q180).symm.trans hs
    refine ev_iload_n C rfl dX14_next_183 ?_
    refine ev_iconst C (v := 3) dX14_next_184 (by decide) ?_
    refine ev_icmp_ge C (tgt := 211) (by decide) dX14_next_185 (fun q185 => ?_) (fun q185 => ?_)
    · replace hs := (if_pos q185).symm.trans hs
      exact (t_X14_next_211 C K169 hs)
    · replace hs := (if_neg q185).symm.trans hs
      refine ev_aload_n C (x := .ref l0) rfl trivial dX14_next_188 ?_
      refine ev_bipush C (v := 10) dX14_next_189 (by decide) ?_
      refine ev_aload_n C (x := .ref l0) rfl trivial dX14_next_191 ?_
      obtain ⟨x192, e192, hs⟩ := aB hs
      refine ev_get C (ci := 14) (k := 15) rfl wu_14 (by decide) wf_X14_213 (gI_F e192) dX14_next_192 ?_
      refine ev_imul C dX14_next_195 ?_
      refine ev_aload_n C (x := .ref l0) rfl trivial dX14_next_196 ?_
      refine ev_aload_n C (x := .ref l0) rfl trivial dX14_next_197 ?_
      obtain ⟨x198, e198, hs⟩ := aB hs
      refine ev_get C (ci := 14) (k := 11) rfl wu_14 (by decide) wf_X14_189 (gI_F e198) dX14_next_198 ?_
      obtain ⟨eo201, hs⟩ := kO_at hs
      obtain ⟨x201, h201, e201, hs⟩ := cI_at hs
      refine ev_callV C (T_X14_byteAt _ _ _ _ _ e201) (ci := 14) rfl eo201 wc_X14_byteAt wm_X14_192 wi_X14_byteAt ws_X14_byteAt wz_X14 hy_X14_byteAt ⟨(Nat.le_of_ble_eq_true rfl), (Nat.le_of_ble_eq_true rfl)⟩ ⟨(Nat.le_refl _), (Nat.le_refl _)⟩ (Nat.le_of_ble_eq_true rfl) rfl dX14_next_201 ?_
      refine ev_iadd C dX14_next_204 ?_
      refine ev_bipush C (v := 48) dX14_next_205 (by decide) ?_
      refine ev_isub C dX14_next_207 ?_
      obtain ⟨h208, e208, hs⟩ := aB hs
      refine ev_put C (ci := 14) (k := 15) rfl wu_14 (by decide) tyX14 tyX14_ok nmX14 wf_X14_213 rfl trivial e208 dX14_next_208 ?_
      exact (t_X14_next_211 C K169 hs)
theorem t_X14_next_169 (C : Cx p l s m args meth c B0 X RX14 "next" cX14_next 3 none [])   : ∀ (n : Nat) {l0 : Nat} {l2 : Int32} {h : aH} (hs : s_X14_next_169  n l0 l2 h = some (r, h')), Ev p l e { frames := 1, cells := mc, slots := ms, locals := 21 } s m args below meth c D B0 X ws0 r h' mc ms 3 mc ms 169 [some (.ref l0), none, some (.int l2)] [] h
  | 0, _, _, _, hs => nomatch hs
  | n + 1, _, _, _, hs => t_X14_next_169_b C  (k169 := s_X14_next_169  n) (fun _ _ _ hs => t_X14_next_169 C  n hs) hs
theorem t_X14_next_127 (C : Cx p l s m args meth c B0 X RX14 "next" cX14_next 3 none []) {k80 : Nat → Int32 → aH → aO} (K80 : ∀ (l0 : Nat) (l2 : Int32) (h : aH), k80 l0 l2 h = some (r, h') → Ev p l e { frames := 1, cells := mc, slots := ms, locals := 21 } s m args below meth c D B0 X ws0 r h' mc ms 3 mc ms 80 [some (.ref l0), none, some (.int l2)] [] h) {l0 : Nat} {l2 : Int32} {h : aH} (hs : s_X14_next_127 k80 l0 l2 h = some (r, h')) : Ev p l e { frames := 1, cells := mc, slots := ms, locals := 21 } s m args below meth c D B0 X ws0 r h' mc ms 3 mc ms 127 [some (.ref l0), none, some (.int l2)] [] h := by
  unfold s_X14_next_127 at hs
  refine ev_iinc C (i := 2) (n := 1) (x := l2) (v := l2 + 1) rfl (congrArg (fun z => l2 + z) (show Int32.ofInt 1 = 1 by decide)) (by decide) dX14_next_127 ?_
  refine ev_aload_n C (x := .ref l0) rfl trivial dX14_next_130 ?_
  refine ev_dup C rfl dX14_next_131 ?_
  obtain ⟨x132, e132, hs⟩ := aB hs
  refine ev_get C (ci := 14) (k := 11) rfl wu_14 (by decide) wf_X14_189 (gI_F e132) dX14_next_132 ?_
  refine ev_iconst C (v := 1) dX14_next_135 (by decide) ?_
  refine ev_iadd C dX14_next_136 ?_
  obtain ⟨h137, e137, hs⟩ := aB hs
  refine ev_put C (ci := 14) (k := 11) rfl wu_14 (by decide) tyX14 tyX14_ok nmX14 wf_X14_189 rfl trivial e137 dX14_next_137 ?_
  refine ev_goto C (tgt := 80) (by decide) dX14_next_140 ?_
  exact (K80 _ _ _ hs)
theorem t_X14_next_80_b (C : Cx p l s m args meth c B0 X RX14 "next" cX14_next 3 none [])   {k80 : Nat → Int32 → aH → aO} (K80 : ∀ (l0 : Nat) (l2 : Int32) (h : aH), k80 l0 l2 h = some (r, h') → Ev p l e { frames := 1, cells := mc, slots := ms, locals := 21 } s m args below meth c D B0 X ws0 r h' mc ms 3 mc ms 80 [some (.ref l0), none, some (.int l2)] [] h) {l0 : Nat} {l2 : Int32} {h : aH} (hs : s_X14_next_80_b  k80 l0 l2 h = some (r, h')) : Ev p l e { frames := 1, cells := mc, slots := ms, locals := 21 } s m args below meth c D B0 X ws0 r h' mc ms 3 mc ms 80 [some (.ref l0), none, some (.int l2)] [] h := by
  unfold s_X14_next_80_b at hs
  refine ev_aload_n C (x := .ref l0) rfl trivial dX14_next_80 ?_
  refine ev_aload_n C (x := .ref l0) rfl trivial dX14_next_81 ?_
  obtain ⟨x82, e82, hs⟩ := aB hs
  refine ev_get C (ci := 14) (k := 11) rfl wu_14 (by decide) wf_X14_189 (gI_F e82) dX14_next_82 ?_
  obtain ⟨eo85, hs⟩ := kO_at hs
  obtain ⟨x85, h85, e85, hs⟩ := cI_at hs
  refine ev_callV C (T_X14_byteAt _ _ _ _ _ e85) (ci := 14) rfl eo85 wc_X14_byteAt wm_X14_192 wi_X14_byteAt ws_X14_byteAt wz_X14 hy_X14_byteAt ⟨(Nat.le_of_ble_eq_true rfl), (Nat.le_of_ble_eq_true rfl)⟩ ⟨(Nat.le_refl _), (Nat.le_refl _)⟩ (Nat.le_of_ble_eq_true rfl) rfl dX14_next_85 ?_
  obtain ⟨x88, h88, e88, hs⟩ := cI_at hs
  refine ev_callS C (T_X14_isLetter _ _ _ _ e88) wc_X14_isLetter wm_X14_202 wt_X14_isLetter wz_X14 hy_X14_isLetter ⟨(Nat.le_of_ble_eq_true rfl), (Nat.le_of_ble_eq_true rfl)⟩ ⟨(Nat.le_refl _), (Nat.le_refl _)⟩ (Nat.le_of_ble_eq_true rfl) rfl dX14_next_88 ?_
  refine ev_if_eq C (tgt := 143) (by decide) dX14_next_91 (fun q91 => ?_) (fun q91 => ?_)
  · replace hs := (if_pos q91).symm.trans hs
    refine ev_iload_n C rfl dX14_next_143 ?_
    refine ev_bipush C (v := 8) dX14_next_144 (by decide) ?_
    refine ev_icmp_gt C (tgt := 267) (by decide) dX14_next_146 (fun q146 => ?_) (fun q146 => ?_)
    · replace hs := (if_pos q146).symm.trans hs
      cases hs
      exact ev_vret C rfl rfl (Nat.le_refl _) (Nat.le_refl _) rfl dX14_next_267
    · replace hs := (if_neg q146).symm.trans hs
      refine ev_aload_n C (x := .ref l0) rfl trivial dX14_next_149 ?_
      refine ev_iconst C (v := 2) dX14_next_150 (by decide) ?_
      obtain ⟨h151, e151, hs⟩ := aB hs
      refine ev_put C (ci := 14) (k := 12) rfl wu_14 (by decide) tyX14 tyX14_ok nmX14 wf_X14_196 rfl trivial e151 dX14_next_151 ?_
      refine ev_goto C (tgt := 267) (by decide) dX14_next_154 ?_
      cases hs
      exact ev_vret C rfl rfl (Nat.le_refl _) (Nat.le_refl _) rfl dX14_next_267
  · replace hs := (if_neg q91).symm.trans hs
    refine ev_iload_n C rfl dX14_next_94 ?_
    refine ev_bipush C (v := 8) dX14_next_95 (by decide) ?_
    refine ev_icmp_ge C (tgt := 127) (by decide) dX14_next_97 (fun q97 => ?_) (fun q97 => ?_)
    · replace hs := (if_pos q97).symm.trans hs
      exact (t_X14_next_127 C K80 hs)
    · replace hs := (if_neg q97).symm.trans hs
      refine ev_aload_n C (x := .ref l0) rfl trivial dX14_next_100 ?_
      refine ev_ldc2 C wv_X14_183 dX14_next_101 ?_
      refine ev_aload_n C (x := .ref l0) rfl trivial dX14_next_104 ?_
      obtain ⟨x105, e105, hs⟩ := aB hs
      refine ev_get C (ci := 14) (k := 18) rfl wu_14 (by decide) wf_X14_206 (gJ_F e105) dX14_next_105 ?_
      refine ev_lmul C dX14_next_108 ?_
      refine ev_aload_n C (x := .ref l0) rfl trivial dX14_next_109 ?_
      refine ev_aload_n C (x := .ref l0) rfl trivial dX14_next_110 ?_
      obtain ⟨x111, e111, hs⟩ := aB hs
      refine ev_get C (ci := 14) (k := 11) rfl wu_14 (by decide) wf_X14_189 (gI_F e111) dX14_next_111 ?_
      obtain ⟨eo114, hs⟩ := kO_at hs
      obtain ⟨x114, h114, e114, hs⟩ := cI_at hs
      refine ev_callV C (T_X14_byteAt _ _ _ _ _ e114) (ci := 14) rfl eo114 wc_X14_byteAt wm_X14_192 wi_X14_byteAt ws_X14_byteAt wz_X14 hy_X14_byteAt ⟨(Nat.le_of_ble_eq_true rfl), (Nat.le_of_ble_eq_true rfl)⟩ ⟨(Nat.le_refl _), (Nat.le_refl _)⟩ (Nat.le_of_ble_eq_true rfl) rfl dX14_next_114 ?_
      refine ev_bipush C (v := 97) dX14_next_117 (by decide) ?_
      refine ev_isub C dX14_next_119 ?_
      refine ev_iconst C (v := 1) dX14_next_120 (by decide) ?_
      refine ev_iadd C dX14_next_121 ?_
      refine ev_i2l C dX14_next_122 ?_
      refine ev_ladd C dX14_next_123 ?_
      obtain ⟨h124, e124, hs⟩ := aB hs
      refine ev_put C (ci := 14) (k := 18) rfl wu_14 (by decide) tyX14 tyX14_ok nmX14 wf_X14_206 rfl trivial e124 dX14_next_124 ?_
      exact (t_X14_next_127 C K80 hs)
theorem t_X14_next_80 (C : Cx p l s m args meth c B0 X RX14 "next" cX14_next 3 none [])   : ∀ (n : Nat) {l0 : Nat} {l2 : Int32} {h : aH} (hs : s_X14_next_80  n l0 l2 h = some (r, h')), Ev p l e { frames := 1, cells := mc, slots := ms, locals := 21 } s m args below meth c D B0 X ws0 r h' mc ms 3 mc ms 80 [some (.ref l0), none, some (.int l2)] [] h
  | 0, _, _, _, hs => nomatch hs
  | n + 1, _, _, _, hs => t_X14_next_80_b C  (k80 := s_X14_next_80  n) (fun _ _ _ hs => t_X14_next_80 C  n hs) hs
theorem t_X14_next_0_b (C : Cx p l s m args meth c B0 X RX14 "next" cX14_next 3 none [])   {k0 : Nat → aH → aO} (K0 : ∀ (l0 : Nat) (h : aH), k0 l0 h = some (r, h') → Ev p l e { frames := 1, cells := mc, slots := ms, locals := 21 } s m args below meth c D B0 X ws0 r h' mc ms 3 mc ms 0 [some (.ref l0), none, none] [] h) {l0 : Nat} {h : aH} (hs : s_X14_next_0_b  k0 l0 h = some (r, h')) : Ev p l e { frames := 1, cells := mc, slots := ms, locals := 21 } s m args below meth c D B0 X ws0 r h' mc ms 3 mc ms 0 [some (.ref l0), none, none] [] h := by
  unfold s_X14_next_0_b at hs
  refine ev_aload_n C (x := .ref l0) rfl trivial dX14_next_0 ?_
  refine ev_aload_n C (x := .ref l0) rfl trivial dX14_next_1 ?_
  obtain ⟨x2, e2, hs⟩ := aB hs
  refine ev_get C (ci := 14) (k := 11) rfl wu_14 (by decide) wf_X14_189 (gI_F e2) dX14_next_2 ?_
  obtain ⟨eo5, hs⟩ := kO_at hs
  obtain ⟨x5, h5, e5, hs⟩ := cI_at hs
  refine ev_callV C (T_X14_byteAt _ _ _ _ _ e5) (ci := 14) rfl eo5 wc_X14_byteAt wm_X14_192 wi_X14_byteAt ws_X14_byteAt wz_X14 hy_X14_byteAt ⟨(Nat.le_of_ble_eq_true rfl), (Nat.le_of_ble_eq_true rfl)⟩ ⟨(Nat.le_refl _), (Nat.le_refl _)⟩ (Nat.le_of_ble_eq_true rfl) rfl dX14_next_5 ?_
  refine ev_bipush C (v := 32) dX14_next_8 (by decide) ?_
  refine ev_icmp_ne C (tgt := 26) (by decide) dX14_next_10 (fun q10 => ?_) (fun q10 => ?_)
  · replace hs := (if_neg q10).symm.trans hs
    refine ev_aload_n C (x := .ref l0) rfl trivial dX14_next_26 ?_
    refine ev_aload_n C (x := .ref l0) rfl trivial dX14_next_27 ?_
    obtain ⟨x28, e28, hs⟩ := aB hs
    refine ev_get C (ci := 14) (k := 11) rfl wu_14 (by decide) wf_X14_189 (gI_F e28) dX14_next_28 ?_
    obtain ⟨h31, e31, hs⟩ := aB hs
    refine ev_put C (ci := 14) (k := 13) rfl wu_14 (by decide) tyX14 tyX14_ok nmX14 wf_X14_169 rfl trivial e31 dX14_next_31 ?_
    refine ev_aload_n C (x := .ref l0) rfl trivial dX14_next_34 ?_
    refine ev_iconst C (v := 0) dX14_next_35 (by decide) ?_
    obtain ⟨h36, e36, hs⟩ := aB hs
    refine ev_put C (ci := 14) (k := 12) rfl wu_14 (by decide) tyX14 tyX14_ok nmX14 wf_X14_196 rfl trivial e36 dX14_next_36 ?_
    refine ev_aload_n C (x := .ref l0) rfl trivial dX14_next_39 ?_
    refine ev_iconst C (v := 0) dX14_next_40 (by decide) ?_
    obtain ⟨h41, e41, hs⟩ := aB hs
    refine ev_put C (ci := 14) (k := 14) rfl wu_14 (by decide) tyX14 tyX14_ok nmX14 wf_X14_199 rfl trivial e41 dX14_next_41 ?_
    refine ev_aload_n C (x := .ref l0) rfl trivial dX14_next_44 ?_
    refine ev_aload_n C (x := .ref l0) rfl trivial dX14_next_45 ?_
    obtain ⟨x46, e46, hs⟩ := aB hs
    refine ev_get C (ci := 14) (k := 11) rfl wu_14 (by decide) wf_X14_189 (gI_F e46) dX14_next_46 ?_
    obtain ⟨eo49, hs⟩ := kO_at hs
    obtain ⟨x49, h49, e49, hs⟩ := cI_at hs
    refine ev_callV C (T_X14_byteAt _ _ _ _ _ e49) (ci := 14) rfl eo49 wc_X14_byteAt wm_X14_192 wi_X14_byteAt ws_X14_byteAt wz_X14 hy_X14_byteAt ⟨(Nat.le_of_ble_eq_true rfl), (Nat.le_of_ble_eq_true rfl)⟩ ⟨(Nat.le_refl _), (Nat.le_refl _)⟩ (Nat.le_of_ble_eq_true rfl) rfl dX14_next_49 ?_
    refine ev_istore_n C (by decide) dX14_next_52 ?_
    refine ev_iconst C (v := 0) dX14_next_53 (by decide) ?_
    refine ev_istore_n C (by decide) dX14_next_54 ?_
    refine ev_iload_n C rfl dX14_next_55 ?_
    refine ev_iconst C (v := (-1)) dX14_next_56 (by decide) ?_
    refine ev_icmp_ne C (tgt := 68) (by decide) dX14_next_57 (fun q57 => ?_) (fun q57 => ?_)
    · replace hs := (if_neg q57).symm.trans hs
      refine ev_iload_n C rfl dX14_next_68 ?_
      obtain ⟨x69, h69, e69, hs⟩ := cI_at hs
      refine ev_callS C (T_X14_isLetter _ _ _ _ e69) wc_X14_isLetter wm_X14_202 wt_X14_isLetter wz_X14 hy_X14_isLetter ⟨(Nat.le_of_ble_eq_true rfl), (Nat.le_of_ble_eq_true rfl)⟩ ⟨(Nat.le_refl _), (Nat.le_refl _)⟩ (Nat.le_of_ble_eq_true rfl) rfl dX14_next_69 ?_
      refine ev_if_eq C (tgt := 157) (by decide) dX14_next_72 (fun q72 => ?_) (fun q72 => ?_)
      · replace hs := (if_pos q72).symm.trans hs
        refine ev_iload_n C rfl dX14_next_157 ?_
        obtain ⟨x158, h158, e158, hs⟩ := cI_at hs
        refine ev_callS C (T_X14_isDigit _ _ _ _ e158) wc_X14_isDigit wm_X14_210 wt_X14_isDigit wz_X14 hy_X14_isDigit ⟨(Nat.le_of_ble_eq_true rfl), (Nat.le_of_ble_eq_true rfl)⟩ ⟨(Nat.le_refl _), (Nat.le_refl _)⟩ (Nat.le_of_ble_eq_true rfl) rfl dX14_next_158 ?_
        refine ev_if_eq C (tgt := 240) (by decide) dX14_next_161 (fun q161 => ?_) (fun q161 => ?_)
        · replace hs := (if_pos q161).symm.trans hs
          refine ev_iload_n C rfl dX14_next_240 ?_
          obtain ⟨x241, h241, e241, hs⟩ := cI_at hs
          refine ev_callS C (T_X14_isMark _ _ _ _ e241) wc_X14_isMark wm_X14_216 wt_X14_isMark wz_X14 hy_X14_isMark ⟨(Nat.le_of_ble_eq_true rfl), (Nat.le_of_ble_eq_true rfl)⟩ ⟨(Nat.le_refl _), (Nat.le_refl _)⟩ (Nat.le_of_ble_eq_true rfl) rfl dX14_next_241 ?_
          refine ev_if_eq C (tgt := 267) (by decide) dX14_next_244 (fun q244 => ?_) (fun q244 => ?_)
          · replace hs := (if_pos q244).symm.trans hs
            cases hs
            exact ev_vret C rfl rfl (Nat.le_refl _) (Nat.le_refl _) rfl dX14_next_267
          · replace hs := (if_neg q244).symm.trans hs
            refine ev_aload_n C (x := .ref l0) rfl trivial dX14_next_247 ?_
            refine ev_iconst C (v := 4) dX14_next_248 (by decide) ?_
            obtain ⟨h249, e249, hs⟩ := aB hs
            refine ev_put C (ci := 14) (k := 12) rfl wu_14 (by decide) tyX14 tyX14_ok nmX14 wf_X14_196 rfl trivial e249 dX14_next_249 ?_
            refine ev_aload_n C (x := .ref l0) rfl trivial dX14_next_252 ?_
            refine ev_iload_n C rfl dX14_next_253 ?_
            obtain ⟨h254, e254, hs⟩ := aB hs
            refine ev_put C (ci := 14) (k := 14) rfl wu_14 (by decide) tyX14 tyX14_ok nmX14 wf_X14_199 rfl trivial e254 dX14_next_254 ?_
            refine ev_aload_n C (x := .ref l0) rfl trivial dX14_next_257 ?_
            refine ev_dup C rfl dX14_next_258 ?_
            obtain ⟨x259, e259, hs⟩ := aB hs
            refine ev_get C (ci := 14) (k := 11) rfl wu_14 (by decide) wf_X14_189 (gI_F e259) dX14_next_259 ?_
            refine ev_iconst C (v := 1) dX14_next_262 (by decide) ?_
            refine ev_iadd C dX14_next_263 ?_
            obtain ⟨h264, e264, hs⟩ := aB hs
            refine ev_put C (ci := 14) (k := 11) rfl wu_14 (by decide) tyX14 tyX14_ok nmX14 wf_X14_189 rfl trivial e264 dX14_next_264 ?_
            cases hs
            exact ev_vret C rfl rfl (Nat.le_refl _) (Nat.le_refl _) rfl dX14_next_267
        · replace hs := (if_neg q161).symm.trans hs
          refine ev_aload_n C (x := .ref l0) rfl trivial dX14_next_164 ?_
          refine ev_iconst C (v := 0) dX14_next_165 (by decide) ?_
          obtain ⟨h166, e166, hs⟩ := aB hs
          refine ev_put C (ci := 14) (k := 15) rfl wu_14 (by decide) tyX14 tyX14_ok nmX14 wf_X14_213 rfl trivial e166 dX14_next_166 ?_
          exact Ev.keep [true, false, true] (t_X14_next_169 C  FU hs)
      · replace hs := (if_neg q72).symm.trans hs
        refine ev_aload_n C (x := .ref l0) rfl trivial dX14_next_75 ?_
        refine ev_lconst C (v := 0) dX14_next_76 (by decide) ?_
        obtain ⟨h77, e77, hs⟩ := aB hs
        refine ev_put C (ci := 14) (k := 18) rfl wu_14 (by decide) tyX14 tyX14_ok nmX14 wf_X14_206 rfl trivial e77 dX14_next_77 ?_
        exact Ev.keep [true, false, true] (t_X14_next_80 C  FU hs)
    · replace hs := (if_pos q57).symm.trans hs
      refine ev_aload_n C (x := .ref l0) rfl trivial dX14_next_60 ?_
      refine ev_iconst C (v := 1) dX14_next_61 (by decide) ?_
      obtain ⟨h62, e62, hs⟩ := aB hs
      refine ev_put C (ci := 14) (k := 12) rfl wu_14 (by decide) tyX14 tyX14_ok nmX14 wf_X14_196 rfl trivial e62 dX14_next_62 ?_
      refine ev_goto C (tgt := 267) (by decide) dX14_next_65 ?_
      cases hs
      exact ev_vret C rfl rfl (Nat.le_refl _) (Nat.le_refl _) rfl dX14_next_267
  · replace hs := (if_pos q10).symm.trans hs
    refine ev_aload_n C (x := .ref l0) rfl trivial dX14_next_13 ?_
    refine ev_dup C rfl dX14_next_14 ?_
    obtain ⟨x15, e15, hs⟩ := aB hs
    refine ev_get C (ci := 14) (k := 11) rfl wu_14 (by decide) wf_X14_189 (gI_F e15) dX14_next_15 ?_
    refine ev_iconst C (v := 1) dX14_next_18 (by decide) ?_
    refine ev_iadd C dX14_next_19 ?_
    obtain ⟨h20, e20, hs⟩ := aB hs
    refine ev_put C (ci := 14) (k := 11) rfl wu_14 (by decide) tyX14 tyX14_ok nmX14 wf_X14_189 rfl trivial e20 dX14_next_20 ?_
    refine ev_goto C (tgt := 0) (by decide) dX14_next_23 ?_
    exact (K0 _ _ hs)
theorem t_X14_next_0 (C : Cx p l s m args meth c B0 X RX14 "next" cX14_next 3 none [])   : ∀ (n : Nat) {l0 : Nat} {h : aH} (hs : s_X14_next_0  n l0 h = some (r, h')), Ev p l e { frames := 1, cells := mc, slots := ms, locals := 21 } s m args below meth c D B0 X ws0 r h' mc ms 3 mc ms 0 [some (.ref l0), none, none] [] h
  | 0, _, _, hs => nomatch hs
  | n + 1, _, _, hs => t_X14_next_0_b C  (k0 := s_X14_next_0  n) (fun _ _ hs => t_X14_next_0 C  n hs) hs
theorem hy_X14_next : yX14_next.cls ≠ "java/lang/invoke/MethodHandle" ∧ yX14_next.cls ≠ "java/lang/invoke/VarHandle" ∧ (parseMethodDescriptor yX14_next.desc).map (fun d => d.parameters.length) = some 0 := by decide +kernel
theorem T_X14_next (o : Nat) (h : aH) (r : aR) (h' : aH) (hs : s_X14_next o h = some (r, h')) : Mt yX14_next (Cond.code yX14_next cX14_next 3 none :: aTB) 1 21 0 0 [.ref o] h r h' := by
  unfold s_X14_next at hs
  refine Mt_of (k := 2) (by decide) rfl (fun p l e s m args below meth c D B0 X ws0 C => ?_)
  show Ev p l e { frames := 1, cells := 0, slots := 0, locals := 21 } s m args below meth c D B0 X ws0 r h' 0 0 3 0 0 0 [some (.ref o), none, none] [] h
  exact (t_X14_next_0 C  FU hs)
end
-- X14_isWord
theorem dX14_isWord_0 : decode cX14_isWord 0 = .ok (.aload_n 0, 1) := by decide +kernel
theorem dX14_isWord_1 : decode cX14_isWord 1 = .ok (.getfield 196, 3) := by decide +kernel
theorem dX14_isWord_4 : decode cX14_isWord 4 = .ok (.iconst 2, 1) := by decide +kernel
theorem dX14_isWord_5 : decode cX14_isWord 5 = .ok (.if_icmp .ne 19, 3) := by decide +kernel
theorem dX14_isWord_8 : decode cX14_isWord 8 = .ok (.aload_n 0, 1) := by decide +kernel
theorem dX14_isWord_9 : decode cX14_isWord 9 = .ok (.getfield 206, 3) := by decide +kernel
theorem dX14_isWord_12 : decode cX14_isWord 12 = .ok (.aload_n 1, 1) := by decide +kernel
theorem dX14_isWord_13 : decode cX14_isWord 13 = .ok (.invokestatic 219, 3) := by decide +kernel
theorem dX14_isWord_16 : decode cX14_isWord 16 = .ok (.lcmp, 1) := by decide +kernel
theorem dX14_isWord_17 : decode cX14_isWord 17 = .ok (.ifCond .ne 7, 3) := by decide +kernel
theorem dX14_isWord_20 : decode cX14_isWord 20 = .ok (.iconst 1, 1) := by decide +kernel
theorem dX14_isWord_21 : decode cX14_isWord 21 = .ok (.goto 4, 3) := by decide +kernel
theorem dX14_isWord_24 : decode cX14_isWord 24 = .ok (.iconst 0, 1) := by decide +kernel
theorem dX14_isWord_25 : decode cX14_isWord 25 = .ok (.ireturn, 1) := by decide +kernel
def s_X14_isWord (o : Nat) (a1 : Nat) (h : aH) : aO :=
  (gI h (.ref o) 14 12).bind fun x1 => if x1 = 2 then ((gJ h (.ref o) 14 18).bind fun x9 => cJ (s_X14_wordOf a1 h) fun x13 h13 => if (lg_cmp x9 x13) = 0 then (rtZ 1 h13) else (rtZ 0 h13)) else (rtZ 0 h)
section
variable {p : Program} {l : Launch} {e : Env} {s : State} {m : MethodId} {args : Array Value} {below : List Frame} {meth : Method} {c : Code} {D : va_G} {B0 : Nat} {X : Nat → Nat} {ws0 : va_W} {r : aR} {h' : aH} {mc ms : Nat}
theorem hy_X14_isWord : yX14_isWord.cls ≠ "java/lang/invoke/MethodHandle" ∧ yX14_isWord.cls ≠ "java/lang/invoke/VarHandle" ∧ (parseMethodDescriptor yX14_isWord.desc).map (fun d => d.parameters.length) = some 1 := by decide +kernel
theorem T_X14_isWord (o : Nat) (a1 : Nat) (h : aH) (r : aR) (h' : aH) (hs : s_X14_isWord o a1 h = some (r, h')) : Mt yX14_isWord (Cond.code yX14_isWord cX14_isWord 2 (some .boolean) :: aTB) 6 137 0 0 [.ref o, .ref a1] h r h' := by
  unfold s_X14_isWord at hs
  refine Mt_of (k := 0) (by decide) rfl (fun p l e s m args below meth c D B0 X ws0 C => ?_)
  show Ev p l e { frames := 6, cells := 0, slots := 0, locals := 137 } s m args below meth c D B0 X ws0 r h' 0 0 2 0 0 0 [some (.ref o), some (.ref a1)] [] h
  refine ev_aload_n C (x := .ref o) rfl trivial dX14_isWord_0 ?_
  obtain ⟨x1, e1, hs⟩ := aB hs
  refine ev_get C (ci := 14) (k := 12) rfl wu_14 (by decide) wf_X14_196 (gI_F e1) dX14_isWord_1 ?_
  refine ev_iconst C (v := 2) dX14_isWord_4 (by decide) ?_
  refine ev_icmp_ne C (tgt := 24) (by decide) dX14_isWord_5 (fun q5 => ?_) (fun q5 => ?_)
  · replace hs := (if_neg q5).symm.trans hs
    refine ev_iconst C (v := 0) dX14_isWord_24 (by decide) ?_
    obtain ⟨hz, rfl, rfl⟩ := rtZ_at hs
    exact ev_zret C rfl hz rfl (Nat.le_refl _) (Nat.le_refl _) rfl dX14_isWord_25
  · replace hs := (if_pos q5).symm.trans hs
    refine ev_aload_n C (x := .ref o) rfl trivial dX14_isWord_8 ?_
    obtain ⟨x9, e9, hs⟩ := aB hs
    refine ev_get C (ci := 14) (k := 18) rfl wu_14 (by decide) wf_X14_206 (gJ_F e9) dX14_isWord_9 ?_
    refine ev_aload_n C (x := .ref a1) rfl trivial dX14_isWord_12 ?_
    obtain ⟨x13, h13, e13, hs⟩ := cJ_at hs
    refine ev_callS C (T_X14_wordOf _ _ _ _ e13) wc_X14_wordOf wm_X14_219 wt_X14_wordOf wz_X14 hy_X14_wordOf ⟨(Nat.le_of_ble_eq_true rfl), (Nat.le_of_ble_eq_true rfl)⟩ ⟨(Nat.le_refl _), (Nat.le_refl _)⟩ (Nat.le_of_ble_eq_true rfl) rfl dX14_isWord_13 ?_
    refine ev_lcmp C dX14_isWord_16 ?_
    refine ev_if_ne C (tgt := 24) (by decide) dX14_isWord_17 (fun q17 => ?_) (fun q17 => ?_)
    · replace hs := (if_neg q17).symm.trans hs
      refine ev_iconst C (v := 0) dX14_isWord_24 (by decide) ?_
      obtain ⟨hz, rfl, rfl⟩ := rtZ_at hs
      exact ev_zret C rfl hz rfl (Nat.le_refl _) (Nat.le_refl _) rfl dX14_isWord_25
    · replace hs := (if_pos q17).symm.trans hs
      refine ev_iconst C (v := 1) dX14_isWord_20 (by decide) ?_
      refine ev_goto C (tgt := 25) (by decide) dX14_isWord_21 ?_
      obtain ⟨hz, rfl, rfl⟩ := rtZ_at hs
      exact ev_zret C rfl hz rfl (Nat.le_refl _) (Nat.le_refl _) rfl dX14_isWord_25
end
-- X14_is
theorem dX14_is_0 : decode cX14_is 0 = .ok (.aload_n 0, 1) := by decide +kernel
theorem dX14_is_1 : decode cX14_is 1 = .ok (.getfield 196, 3) := by decide +kernel
theorem dX14_is_4 : decode cX14_is 4 = .ok (.iconst 4, 1) := by decide +kernel
theorem dX14_is_5 : decode cX14_is 5 = .ok (.if_icmp .ne 15, 3) := by decide +kernel
theorem dX14_is_8 : decode cX14_is 8 = .ok (.aload_n 0, 1) := by decide +kernel
theorem dX14_is_9 : decode cX14_is 9 = .ok (.getfield 199, 3) := by decide +kernel
theorem dX14_is_12 : decode cX14_is 12 = .ok (.iload_n 1, 1) := by decide +kernel
theorem dX14_is_13 : decode cX14_is 13 = .ok (.if_icmp .ne 7, 3) := by decide +kernel
theorem dX14_is_16 : decode cX14_is 16 = .ok (.iconst 1, 1) := by decide +kernel
theorem dX14_is_17 : decode cX14_is 17 = .ok (.goto 4, 3) := by decide +kernel
theorem dX14_is_20 : decode cX14_is 20 = .ok (.iconst 0, 1) := by decide +kernel
theorem dX14_is_21 : decode cX14_is 21 = .ok (.ireturn, 1) := by decide +kernel
def s_X14_is (o : Nat) (a1 : Int32) (h : aH) : aO :=
  (gI h (.ref o) 14 12).bind fun x1 => if x1 = 4 then ((gI h (.ref o) 14 14).bind fun x9 => if x9 = a1 then (rtZ 1 h) else (rtZ 0 h)) else (rtZ 0 h)
section
variable {p : Program} {l : Launch} {e : Env} {s : State} {m : MethodId} {args : Array Value} {below : List Frame} {meth : Method} {c : Code} {D : va_G} {B0 : Nat} {X : Nat → Nat} {ws0 : va_W} {r : aR} {h' : aH} {mc ms : Nat}
theorem hy_X14_is : yX14_is.cls ≠ "java/lang/invoke/MethodHandle" ∧ yX14_is.cls ≠ "java/lang/invoke/VarHandle" ∧ (parseMethodDescriptor yX14_is.desc).map (fun d => d.parameters.length) = some 1 := by decide +kernel
theorem T_X14_is (o : Nat) (a1 : Int32) (h : aH) (r : aR) (h' : aH) (hs : s_X14_is o a1 h = some (r, h')) : Mt yX14_is (Cond.code yX14_is cX14_is 2 (some .boolean) :: aTB) 0 0 0 0 [.ref o, .int a1] h r h' := by
  unfold s_X14_is at hs
  refine Mt_of (k := 0) (by decide) rfl (fun p l e s m args below meth c D B0 X ws0 C => ?_)
  show Ev p l e { frames := 0, cells := 0, slots := 0, locals := 0 } s m args below meth c D B0 X ws0 r h' 0 0 2 0 0 0 [some (.ref o), some (.int a1)] [] h
  refine ev_aload_n C (x := .ref o) rfl trivial dX14_is_0 ?_
  obtain ⟨x1, e1, hs⟩ := aB hs
  refine ev_get C (ci := 14) (k := 12) rfl wu_14 (by decide) wf_X14_196 (gI_F e1) dX14_is_1 ?_
  refine ev_iconst C (v := 4) dX14_is_4 (by decide) ?_
  refine ev_icmp_ne C (tgt := 20) (by decide) dX14_is_5 (fun q5 => ?_) (fun q5 => ?_)
  · replace hs := (if_neg q5).symm.trans hs
    refine ev_iconst C (v := 0) dX14_is_20 (by decide) ?_
    obtain ⟨hz, rfl, rfl⟩ := rtZ_at hs
    exact ev_zret C rfl hz rfl (Nat.le_refl _) (Nat.le_refl _) rfl dX14_is_21
  · replace hs := (if_pos q5).symm.trans hs
    refine ev_aload_n C (x := .ref o) rfl trivial dX14_is_8 ?_
    obtain ⟨x9, e9, hs⟩ := aB hs
    refine ev_get C (ci := 14) (k := 14) rfl wu_14 (by decide) wf_X14_199 (gI_F e9) dX14_is_9 ?_
    refine ev_iload_n C rfl dX14_is_12 ?_
    refine ev_icmp_ne C (tgt := 20) (by decide) dX14_is_13 (fun q13 => ?_) (fun q13 => ?_)
    · replace hs := (if_neg q13).symm.trans hs
      refine ev_iconst C (v := 0) dX14_is_20 (by decide) ?_
      obtain ⟨hz, rfl, rfl⟩ := rtZ_at hs
      exact ev_zret C rfl hz rfl (Nat.le_refl _) (Nat.le_refl _) rfl dX14_is_21
    · replace hs := (if_pos q13).symm.trans hs
      refine ev_iconst C (v := 1) dX14_is_16 (by decide) ?_
      refine ev_goto C (tgt := 21) (by decide) dX14_is_17 ?_
      obtain ⟨hz, rfl, rfl⟩ := rtZ_at hs
      exact ev_zret C rfl hz rfl (Nat.le_refl _) (Nat.le_refl _) rfl dX14_is_21
end
-- X14_kindHere
theorem dX14_kindHere_0 : decode cX14_kindHere 0 = .ok (.aload_n 0, 1) := by decide +kernel
theorem dX14_kindHere_1 : decode cX14_kindHere 1 = .ok (.ldc 223, 2) := by decide +kernel
theorem dX14_kindHere_3 : decode cX14_kindHere 3 = .ok (.invokevirtual 225, 3) := by decide +kernel
theorem dX14_kindHere_6 : decode cX14_kindHere 6 = .ok (.ifCond .eq 7, 3) := by decide +kernel
theorem dX14_kindHere_9 : decode cX14_kindHere 9 = .ok (.iconst 0, 1) := by decide +kernel
theorem dX14_kindHere_10 : decode cX14_kindHere 10 = .ok (.goto 56, 3) := by decide +kernel
theorem dX14_kindHere_13 : decode cX14_kindHere 13 = .ok (.aload_n 0, 1) := by decide +kernel
theorem dX14_kindHere_14 : decode cX14_kindHere 14 = .ok (.ldc 229, 2) := by decide +kernel
theorem dX14_kindHere_16 : decode cX14_kindHere 16 = .ok (.invokevirtual 225, 3) := by decide +kernel
theorem dX14_kindHere_19 : decode cX14_kindHere 19 = .ok (.ifCond .eq 7, 3) := by decide +kernel
theorem dX14_kindHere_22 : decode cX14_kindHere 22 = .ok (.iconst 1, 1) := by decide +kernel
theorem dX14_kindHere_23 : decode cX14_kindHere 23 = .ok (.goto 43, 3) := by decide +kernel
theorem dX14_kindHere_26 : decode cX14_kindHere 26 = .ok (.aload_n 0, 1) := by decide +kernel
theorem dX14_kindHere_27 : decode cX14_kindHere 27 = .ok (.ldc 231, 2) := by decide +kernel
theorem dX14_kindHere_29 : decode cX14_kindHere 29 = .ok (.invokevirtual 225, 3) := by decide +kernel
theorem dX14_kindHere_32 : decode cX14_kindHere 32 = .ok (.ifCond .eq 7, 3) := by decide +kernel
theorem dX14_kindHere_35 : decode cX14_kindHere 35 = .ok (.iconst 2, 1) := by decide +kernel
theorem dX14_kindHere_36 : decode cX14_kindHere 36 = .ok (.goto 30, 3) := by decide +kernel
theorem dX14_kindHere_39 : decode cX14_kindHere 39 = .ok (.aload_n 0, 1) := by decide +kernel
theorem dX14_kindHere_40 : decode cX14_kindHere 40 = .ok (.ldc 233, 2) := by decide +kernel
theorem dX14_kindHere_42 : decode cX14_kindHere 42 = .ok (.invokevirtual 225, 3) := by decide +kernel
theorem dX14_kindHere_45 : decode cX14_kindHere 45 = .ok (.ifCond .eq 7, 3) := by decide +kernel
theorem dX14_kindHere_48 : decode cX14_kindHere 48 = .ok (.iconst 3, 1) := by decide +kernel
theorem dX14_kindHere_49 : decode cX14_kindHere 49 = .ok (.goto 17, 3) := by decide +kernel
theorem dX14_kindHere_52 : decode cX14_kindHere 52 = .ok (.aload_n 0, 1) := by decide +kernel
theorem dX14_kindHere_53 : decode cX14_kindHere 53 = .ok (.ldc 235, 2) := by decide +kernel
theorem dX14_kindHere_55 : decode cX14_kindHere 55 = .ok (.invokevirtual 225, 3) := by decide +kernel
theorem dX14_kindHere_58 : decode cX14_kindHere 58 = .ok (.ifCond .eq 7, 3) := by decide +kernel
theorem dX14_kindHere_61 : decode cX14_kindHere 61 = .ok (.iconst 4, 1) := by decide +kernel
theorem dX14_kindHere_62 : decode cX14_kindHere 62 = .ok (.goto 4, 3) := by decide +kernel
theorem dX14_kindHere_65 : decode cX14_kindHere 65 = .ok (.iconst (-1), 1) := by decide +kernel
theorem dX14_kindHere_66 : decode cX14_kindHere 66 = .ok (.ireturn, 1) := by decide +kernel
def s_X14_kindHere (o : Nat) (h : aH) : aO :=
  kO h o 14 (cI (s_X14_isWord o (aE + 10 + 0) h) fun x3 h3 => if x3 = 0 then (kO h3 o 14 (cI (s_X14_isWord o (aE + 10 + 1) h3) fun x16 h16 => if x16 = 0 then (kO h16 o 14 (cI (s_X14_isWord o (aE + 10 + 2) h16) fun x29 h29 => if x29 = 0 then (kO h29 o 14 (cI (s_X14_isWord o (aE + 10 + 3) h29) fun x42 h42 => if x42 = 0 then (kO h42 o 14 (cI (s_X14_isWord o (aE + 10 + 4) h42) fun x55 h55 => if x55 = 0 then (some (.inl (some (.int (-1))), h55)) else (some (.inl (some (.int 4)), h55)))) else (some (.inl (some (.int 3)), h42)))) else (some (.inl (some (.int 2)), h29)))) else (some (.inl (some (.int 1)), h16)))) else (some (.inl (some (.int 0)), h3)))
section
variable {p : Program} {l : Launch} {e : Env} {s : State} {m : MethodId} {args : Array Value} {below : List Frame} {meth : Method} {c : Code} {D : va_G} {B0 : Nat} {X : Nat → Nat} {ws0 : va_W} {r : aR} {h' : aH} {mc ms : Nat}
theorem hy_X14_kindHere : yX14_kindHere.cls ≠ "java/lang/invoke/MethodHandle" ∧ yX14_kindHere.cls ≠ "java/lang/invoke/VarHandle" ∧ (parseMethodDescriptor yX14_kindHere.desc).map (fun d => d.parameters.length) = some 0 := by decide +kernel
theorem T_X14_kindHere (o : Nat) (h : aH) (r : aR) (h' : aH) (hs : s_X14_kindHere o h = some (r, h')) : Mt yX14_kindHere (Cond.code yX14_kindHere cX14_kindHere 1 (some .int) :: aTB) 7 158 0 0 [.ref o] h r h' := by
  unfold s_X14_kindHere at hs
  refine Mt_of (k := 0) (by decide) rfl (fun p l e s m args below meth c D B0 X ws0 C => ?_)
  show Ev p l e { frames := 7, cells := 0, slots := 0, locals := 158 } s m args below meth c D B0 X ws0 r h' 0 0 1 0 0 0 [some (.ref o)] [] h
  refine ev_aload_n C (x := .ref o) rfl trivial dX14_kindHere_0 ?_
  refine ev_ldcS C (k := 0) rfl rfl dX14_kindHere_1 ?_
  obtain ⟨eo3, hs⟩ := kO_at hs
  obtain ⟨x3, h3, e3, hs⟩ := cI_at hs
  refine ev_callV C (T_X14_isWord _ _ _ _ _ e3) (ci := 14) rfl eo3 wc_X14_isWord wm_X14_225 wi_X14_isWord ws_X14_isWord wz_X14 hy_X14_isWord ⟨(Nat.le_of_ble_eq_true rfl), (Nat.le_of_ble_eq_true rfl)⟩ ⟨(Nat.le_refl _), (Nat.le_refl _)⟩ (Nat.le_of_ble_eq_true rfl) rfl dX14_kindHere_3 ?_
  refine ev_if_eq C (tgt := 13) (by decide) dX14_kindHere_6 (fun q6 => ?_) (fun q6 => ?_)
  · replace hs := (if_pos q6).symm.trans hs
    refine ev_aload_n C (x := .ref o) rfl trivial dX14_kindHere_13 ?_
    refine ev_ldcS C (k := 1) rfl rfl dX14_kindHere_14 ?_
    obtain ⟨eo16, hs⟩ := kO_at hs
    obtain ⟨x16, h16, e16, hs⟩ := cI_at hs
    refine ev_callV C (T_X14_isWord _ _ _ _ _ e16) (ci := 14) rfl eo16 wc_X14_isWord wm_X14_225 wi_X14_isWord ws_X14_isWord wz_X14 hy_X14_isWord ⟨(Nat.le_of_ble_eq_true rfl), (Nat.le_of_ble_eq_true rfl)⟩ ⟨(Nat.le_refl _), (Nat.le_refl _)⟩ (Nat.le_of_ble_eq_true rfl) rfl dX14_kindHere_16 ?_
    refine ev_if_eq C (tgt := 26) (by decide) dX14_kindHere_19 (fun q19 => ?_) (fun q19 => ?_)
    · replace hs := (if_pos q19).symm.trans hs
      refine ev_aload_n C (x := .ref o) rfl trivial dX14_kindHere_26 ?_
      refine ev_ldcS C (k := 2) rfl rfl dX14_kindHere_27 ?_
      obtain ⟨eo29, hs⟩ := kO_at hs
      obtain ⟨x29, h29, e29, hs⟩ := cI_at hs
      refine ev_callV C (T_X14_isWord _ _ _ _ _ e29) (ci := 14) rfl eo29 wc_X14_isWord wm_X14_225 wi_X14_isWord ws_X14_isWord wz_X14 hy_X14_isWord ⟨(Nat.le_of_ble_eq_true rfl), (Nat.le_of_ble_eq_true rfl)⟩ ⟨(Nat.le_refl _), (Nat.le_refl _)⟩ (Nat.le_of_ble_eq_true rfl) rfl dX14_kindHere_29 ?_
      refine ev_if_eq C (tgt := 39) (by decide) dX14_kindHere_32 (fun q32 => ?_) (fun q32 => ?_)
      · replace hs := (if_pos q32).symm.trans hs
        refine ev_aload_n C (x := .ref o) rfl trivial dX14_kindHere_39 ?_
        refine ev_ldcS C (k := 3) rfl rfl dX14_kindHere_40 ?_
        obtain ⟨eo42, hs⟩ := kO_at hs
        obtain ⟨x42, h42, e42, hs⟩ := cI_at hs
        refine ev_callV C (T_X14_isWord _ _ _ _ _ e42) (ci := 14) rfl eo42 wc_X14_isWord wm_X14_225 wi_X14_isWord ws_X14_isWord wz_X14 hy_X14_isWord ⟨(Nat.le_of_ble_eq_true rfl), (Nat.le_of_ble_eq_true rfl)⟩ ⟨(Nat.le_refl _), (Nat.le_refl _)⟩ (Nat.le_of_ble_eq_true rfl) rfl dX14_kindHere_42 ?_
        refine ev_if_eq C (tgt := 52) (by decide) dX14_kindHere_45 (fun q45 => ?_) (fun q45 => ?_)
        · replace hs := (if_pos q45).symm.trans hs
          refine ev_aload_n C (x := .ref o) rfl trivial dX14_kindHere_52 ?_
          refine ev_ldcS C (k := 4) rfl rfl dX14_kindHere_53 ?_
          obtain ⟨eo55, hs⟩ := kO_at hs
          obtain ⟨x55, h55, e55, hs⟩ := cI_at hs
          refine ev_callV C (T_X14_isWord _ _ _ _ _ e55) (ci := 14) rfl eo55 wc_X14_isWord wm_X14_225 wi_X14_isWord ws_X14_isWord wz_X14 hy_X14_isWord ⟨(Nat.le_of_ble_eq_true rfl), (Nat.le_of_ble_eq_true rfl)⟩ ⟨(Nat.le_refl _), (Nat.le_refl _)⟩ (Nat.le_of_ble_eq_true rfl) rfl dX14_kindHere_55 ?_
          refine ev_if_eq C (tgt := 65) (by decide) dX14_kindHere_58 (fun q58 => ?_) (fun q58 => ?_)
          · replace hs := (if_pos q58).symm.trans hs
            refine ev_iconst C (v := (-1)) dX14_kindHere_65 (by decide) ?_
            cases hs
            exact ev_iret C rfl rfl (Nat.le_refl _) (Nat.le_refl _) rfl dX14_kindHere_66
          · replace hs := (if_neg q58).symm.trans hs
            refine ev_iconst C (v := 4) dX14_kindHere_61 (by decide) ?_
            refine ev_goto C (tgt := 66) (by decide) dX14_kindHere_62 ?_
            cases hs
            exact ev_iret C rfl rfl (Nat.le_refl _) (Nat.le_refl _) rfl dX14_kindHere_66
        · replace hs := (if_neg q45).symm.trans hs
          refine ev_iconst C (v := 3) dX14_kindHere_48 (by decide) ?_
          refine ev_goto C (tgt := 66) (by decide) dX14_kindHere_49 ?_
          cases hs
          exact ev_iret C rfl rfl (Nat.le_refl _) (Nat.le_refl _) rfl dX14_kindHere_66
      · replace hs := (if_neg q32).symm.trans hs
        refine ev_iconst C (v := 2) dX14_kindHere_35 (by decide) ?_
        refine ev_goto C (tgt := 66) (by decide) dX14_kindHere_36 ?_
        cases hs
        exact ev_iret C rfl rfl (Nat.le_refl _) (Nat.le_refl _) rfl dX14_kindHere_66
    · replace hs := (if_neg q19).symm.trans hs
      refine ev_iconst C (v := 1) dX14_kindHere_22 (by decide) ?_
      refine ev_goto C (tgt := 66) (by decide) dX14_kindHere_23 ?_
      cases hs
      exact ev_iret C rfl rfl (Nat.le_refl _) (Nat.le_refl _) rfl dX14_kindHere_66
  · replace hs := (if_neg q6).symm.trans hs
    refine ev_iconst C (v := 0) dX14_kindHere_9 (by decide) ?_
    refine ev_goto C (tgt := 66) (by decide) dX14_kindHere_10 ?_
    cases hs
    exact ev_iret C rfl rfl (Nat.le_refl _) (Nat.le_refl _) rfl dX14_kindHere_66
end
-- X14_isKept
theorem dX14_isKept_0 : decode cX14_isKept 0 = .ok (.aload_n 0, 1) := by decide +kernel
theorem dX14_isKept_1 : decode cX14_isKept 1 = .ok (.invokevirtual 237, 3) := by decide +kernel
theorem dX14_isKept_4 : decode cX14_isKept 4 = .ok (.iconst (-1), 1) := by decide +kernel
theorem dX14_isKept_5 : decode cX14_isKept 5 = .ok (.if_icmp .ne 30, 3) := by decide +kernel
theorem dX14_isKept_8 : decode cX14_isKept 8 = .ok (.aload_n 0, 1) := by decide +kernel
theorem dX14_isKept_9 : decode cX14_isKept 9 = .ok (.ldc 240, 2) := by decide +kernel
theorem dX14_isKept_11 : decode cX14_isKept 11 = .ok (.invokevirtual 225, 3) := by decide +kernel
theorem dX14_isKept_14 : decode cX14_isKept 14 = .ok (.ifCond .ne 21, 3) := by decide +kernel
theorem dX14_isKept_17 : decode cX14_isKept 17 = .ok (.aload_n 0, 1) := by decide +kernel
theorem dX14_isKept_18 : decode cX14_isKept 18 = .ok (.ldc 242, 2) := by decide +kernel
theorem dX14_isKept_20 : decode cX14_isKept 20 = .ok (.invokevirtual 225, 3) := by decide +kernel
theorem dX14_isKept_23 : decode cX14_isKept 23 = .ok (.ifCond .ne 12, 3) := by decide +kernel
theorem dX14_isKept_26 : decode cX14_isKept 26 = .ok (.aload_n 0, 1) := by decide +kernel
theorem dX14_isKept_27 : decode cX14_isKept 27 = .ok (.ldc 244, 2) := by decide +kernel
theorem dX14_isKept_29 : decode cX14_isKept 29 = .ok (.invokevirtual 225, 3) := by decide +kernel
theorem dX14_isKept_32 : decode cX14_isKept 32 = .ok (.ifCond .eq 7, 3) := by decide +kernel
theorem dX14_isKept_35 : decode cX14_isKept 35 = .ok (.iconst 1, 1) := by decide +kernel
theorem dX14_isKept_36 : decode cX14_isKept 36 = .ok (.goto 4, 3) := by decide +kernel
theorem dX14_isKept_39 : decode cX14_isKept 39 = .ok (.iconst 0, 1) := by decide +kernel
theorem dX14_isKept_40 : decode cX14_isKept 40 = .ok (.ireturn, 1) := by decide +kernel
def s_X14_isKept (o : Nat) (h : aH) : aO :=
  kO h o 14 (cI (s_X14_kindHere o h) fun x1 h1 => if x1 = (-1) then (kO h1 o 14 (cI (s_X14_isWord o (aE + 10 + 5) h1) fun x11 h11 => if x11 = 0 then (kO h11 o 14 (cI (s_X14_isWord o (aE + 10 + 6) h11) fun x20 h20 => if x20 = 0 then (kO h20 o 14 (cI (s_X14_isWord o (aE + 10 + 7) h20) fun x29 h29 => if x29 = 0 then (rtZ 0 h29) else (rtZ 1 h29))) else (rtZ 1 h20))) else (rtZ 1 h11))) else (rtZ 1 h1))
section
variable {p : Program} {l : Launch} {e : Env} {s : State} {m : MethodId} {args : Array Value} {below : List Frame} {meth : Method} {c : Code} {D : va_G} {B0 : Nat} {X : Nat → Nat} {ws0 : va_W} {r : aR} {h' : aH} {mc ms : Nat}
theorem hy_X14_isKept : yX14_isKept.cls ≠ "java/lang/invoke/MethodHandle" ∧ yX14_isKept.cls ≠ "java/lang/invoke/VarHandle" ∧ (parseMethodDescriptor yX14_isKept.desc).map (fun d => d.parameters.length) = some 0 := by decide +kernel
theorem T_X14_isKept (o : Nat) (h : aH) (r : aR) (h' : aH) (hs : s_X14_isKept o h = some (r, h')) : Mt yX14_isKept (Cond.code yX14_isKept cX14_isKept 1 (some .boolean) :: aTB) 8 178 0 0 [.ref o] h r h' := by
  unfold s_X14_isKept at hs
  refine Mt_of (k := 0) (by decide) rfl (fun p l e s m args below meth c D B0 X ws0 C => ?_)
  show Ev p l e { frames := 8, cells := 0, slots := 0, locals := 178 } s m args below meth c D B0 X ws0 r h' 0 0 1 0 0 0 [some (.ref o)] [] h
  refine ev_aload_n C (x := .ref o) rfl trivial dX14_isKept_0 ?_
  obtain ⟨eo1, hs⟩ := kO_at hs
  obtain ⟨x1, h1, e1, hs⟩ := cI_at hs
  refine ev_callV C (T_X14_kindHere _ _ _ _ e1) (ci := 14) rfl eo1 wc_X14_kindHere wm_X14_237 wi_X14_kindHere ws_X14_kindHere wz_X14 hy_X14_kindHere ⟨(Nat.le_of_ble_eq_true rfl), (Nat.le_of_ble_eq_true rfl)⟩ ⟨(Nat.le_refl _), (Nat.le_refl _)⟩ (Nat.le_of_ble_eq_true rfl) rfl dX14_isKept_1 ?_
  refine ev_iconst C (v := (-1)) dX14_isKept_4 (by decide) ?_
  refine ev_icmp_ne C (tgt := 35) (by decide) dX14_isKept_5 (fun q5 => ?_) (fun q5 => ?_)
  · replace hs := (if_neg q5).symm.trans hs
    refine ev_iconst C (v := 1) dX14_isKept_35 (by decide) ?_
    refine ev_goto C (tgt := 40) (by decide) dX14_isKept_36 ?_
    obtain ⟨hz, rfl, rfl⟩ := rtZ_at hs
    exact ev_zret C rfl hz rfl (Nat.le_refl _) (Nat.le_refl _) rfl dX14_isKept_40
  · replace hs := (if_pos q5).symm.trans hs
    refine ev_aload_n C (x := .ref o) rfl trivial dX14_isKept_8 ?_
    refine ev_ldcS C (k := 5) rfl rfl dX14_isKept_9 ?_
    obtain ⟨eo11, hs⟩ := kO_at hs
    obtain ⟨x11, h11, e11, hs⟩ := cI_at hs
    refine ev_callV C (T_X14_isWord _ _ _ _ _ e11) (ci := 14) rfl eo11 wc_X14_isWord wm_X14_225 wi_X14_isWord ws_X14_isWord wz_X14 hy_X14_isWord ⟨(Nat.le_of_ble_eq_true rfl), (Nat.le_of_ble_eq_true rfl)⟩ ⟨(Nat.le_refl _), (Nat.le_refl _)⟩ (Nat.le_of_ble_eq_true rfl) rfl dX14_isKept_11 ?_
    refine ev_if_ne C (tgt := 35) (by decide) dX14_isKept_14 (fun q14 => ?_) (fun q14 => ?_)
    · replace hs := (if_neg q14).symm.trans hs
      refine ev_iconst C (v := 1) dX14_isKept_35 (by decide) ?_
      refine ev_goto C (tgt := 40) (by decide) dX14_isKept_36 ?_
      obtain ⟨hz, rfl, rfl⟩ := rtZ_at hs
      exact ev_zret C rfl hz rfl (Nat.le_refl _) (Nat.le_refl _) rfl dX14_isKept_40
    · replace hs := (if_pos q14).symm.trans hs
      refine ev_aload_n C (x := .ref o) rfl trivial dX14_isKept_17 ?_
      refine ev_ldcS C (k := 6) rfl rfl dX14_isKept_18 ?_
      obtain ⟨eo20, hs⟩ := kO_at hs
      obtain ⟨x20, h20, e20, hs⟩ := cI_at hs
      refine ev_callV C (T_X14_isWord _ _ _ _ _ e20) (ci := 14) rfl eo20 wc_X14_isWord wm_X14_225 wi_X14_isWord ws_X14_isWord wz_X14 hy_X14_isWord ⟨(Nat.le_of_ble_eq_true rfl), (Nat.le_of_ble_eq_true rfl)⟩ ⟨(Nat.le_refl _), (Nat.le_refl _)⟩ (Nat.le_of_ble_eq_true rfl) rfl dX14_isKept_20 ?_
      refine ev_if_ne C (tgt := 35) (by decide) dX14_isKept_23 (fun q23 => ?_) (fun q23 => ?_)
      · replace hs := (if_neg q23).symm.trans hs
        refine ev_iconst C (v := 1) dX14_isKept_35 (by decide) ?_
        refine ev_goto C (tgt := 40) (by decide) dX14_isKept_36 ?_
        obtain ⟨hz, rfl, rfl⟩ := rtZ_at hs
        exact ev_zret C rfl hz rfl (Nat.le_refl _) (Nat.le_refl _) rfl dX14_isKept_40
      · replace hs := (if_pos q23).symm.trans hs
        refine ev_aload_n C (x := .ref o) rfl trivial dX14_isKept_26 ?_
        refine ev_ldcS C (k := 7) rfl rfl dX14_isKept_27 ?_
        obtain ⟨eo29, hs⟩ := kO_at hs
        obtain ⟨x29, h29, e29, hs⟩ := cI_at hs
        refine ev_callV C (T_X14_isWord _ _ _ _ _ e29) (ci := 14) rfl eo29 wc_X14_isWord wm_X14_225 wi_X14_isWord ws_X14_isWord wz_X14 hy_X14_isWord ⟨(Nat.le_of_ble_eq_true rfl), (Nat.le_of_ble_eq_true rfl)⟩ ⟨(Nat.le_refl _), (Nat.le_refl _)⟩ (Nat.le_of_ble_eq_true rfl) rfl dX14_isKept_29 ?_
        refine ev_if_eq C (tgt := 39) (by decide) dX14_isKept_32 (fun q32 => ?_) (fun q32 => ?_)
        · replace hs := (if_pos q32).symm.trans hs
          refine ev_iconst C (v := 0) dX14_isKept_39 (by decide) ?_
          obtain ⟨hz, rfl, rfl⟩ := rtZ_at hs
          exact ev_zret C rfl hz rfl (Nat.le_refl _) (Nat.le_refl _) rfl dX14_isKept_40
        · replace hs := (if_neg q32).symm.trans hs
          refine ev_iconst C (v := 1) dX14_isKept_35 (by decide) ?_
          refine ev_goto C (tgt := 40) (by decide) dX14_isKept_36 ?_
          obtain ⟨hz, rfl, rfl⟩ := rtZ_at hs
          exact ev_zret C rfl hz rfl (Nat.le_refl _) (Nat.le_refl _) rfl dX14_isKept_40
end
-- X14_slotHere
theorem dX14_slotHere_0 : decode cX14_slotHere 0 = .ok (.iconst 0, 1) := by decide +kernel
theorem dX14_slotHere_1 : decode cX14_slotHere 1 = .ok (.istore_n 1, 1) := by decide +kernel
theorem dX14_slotHere_2 : decode cX14_slotHere 2 = .ok (.iload_n 1, 1) := by decide +kernel
theorem dX14_slotHere_3 : decode cX14_slotHere 3 = .ok (.iconst 5, 1) := by decide +kernel
theorem dX14_slotHere_4 : decode cX14_slotHere 4 = .ok (.if_icmp .ge 57, 3) := by decide +kernel
theorem dX14_slotHere_7 : decode cX14_slotHere 7 = .ok (.iload_n 1, 1) := by decide +kernel
theorem dX14_slotHere_8 : decode cX14_slotHere 8 = .ok (.invokestatic 246, 3) := by decide +kernel
theorem dX14_slotHere_11 : decode cX14_slotHere 11 = .ok (.istore_n 2, 1) := by decide +kernel
theorem dX14_slotHere_12 : decode cX14_slotHere 12 = .ok (.iload_n 2, 1) := by decide +kernel
theorem dX14_slotHere_13 : decode cX14_slotHere 13 = .ok (.iload_n 1, 1) := by decide +kernel
theorem dX14_slotHere_14 : decode cX14_slotHere 14 = .ok (.invokestatic 246, 3) := by decide +kernel
theorem dX14_slotHere_17 : decode cX14_slotHere 17 = .ok (.aload_n 0, 1) := by decide +kernel
theorem dX14_slotHere_18 : decode cX14_slotHere 18 = .ok (.getfield 249, 3) := by decide +kernel
theorem dX14_slotHere_21 : decode cX14_slotHere 21 = .ok (.getfield 252, 3) := by decide +kernel
theorem dX14_slotHere_24 : decode cX14_slotHere 24 = .ok (.iload_n 1, 1) := by decide +kernel
theorem dX14_slotHere_25 : decode cX14_slotHere 25 = .ok (.iaload, 1) := by decide +kernel
theorem dX14_slotHere_26 : decode cX14_slotHere 26 = .ok (.iadd, 1) := by decide +kernel
theorem dX14_slotHere_27 : decode cX14_slotHere 27 = .ok (.if_icmp .ge 28, 3) := by decide +kernel
theorem dX14_slotHere_30 : decode cX14_slotHere 30 = .ok (.aload_n 0, 1) := by decide +kernel
theorem dX14_slotHere_31 : decode cX14_slotHere 31 = .ok (.getfield 249, 3) := by decide +kernel
theorem dX14_slotHere_34 : decode cX14_slotHere 34 = .ok (.getfield 255, 3) := by decide +kernel
theorem dX14_slotHere_37 : decode cX14_slotHere 37 = .ok (.iload_n 2, 1) := by decide +kernel
theorem dX14_slotHere_38 : decode cX14_slotHere 38 = .ok (.laload, 1) := by decide +kernel
theorem dX14_slotHere_39 : decode cX14_slotHere 39 = .ok (.aload_n 0, 1) := by decide +kernel
theorem dX14_slotHere_40 : decode cX14_slotHere 40 = .ok (.getfield 206, 3) := by decide +kernel
theorem dX14_slotHere_43 : decode cX14_slotHere 43 = .ok (.lcmp, 1) := by decide +kernel
theorem dX14_slotHere_44 : decode cX14_slotHere 44 = .ok (.ifCond .ne 5, 3) := by decide +kernel
theorem dX14_slotHere_47 : decode cX14_slotHere 47 = .ok (.iload_n 2, 1) := by decide +kernel
theorem dX14_slotHere_48 : decode cX14_slotHere 48 = .ok (.ireturn, 1) := by decide +kernel
theorem dX14_slotHere_49 : decode cX14_slotHere 49 = .ok (.iinc 2 1, 3) := by decide +kernel
theorem dX14_slotHere_52 : decode cX14_slotHere 52 = .ok (.goto (-40), 3) := by decide +kernel
theorem dX14_slotHere_55 : decode cX14_slotHere 55 = .ok (.iinc 1 1, 3) := by decide +kernel
theorem dX14_slotHere_58 : decode cX14_slotHere 58 = .ok (.goto (-56), 3) := by decide +kernel
theorem dX14_slotHere_61 : decode cX14_slotHere 61 = .ok (.iconst (-1), 1) := by decide +kernel
theorem dX14_slotHere_62 : decode cX14_slotHere 62 = .ok (.ireturn, 1) := by decide +kernel
def s_X14_slotHere_12_b (k2 : Nat → Int32 → aH → aO) (k12 : Nat → Int32 → Int32 → aH → aO) (l0 : Nat) (l1 : Int32) (l2 : Int32) (h : aH) : aO :=
  cI (s_X14_slotOf l1 h) fun x14 h14 => (gO h14 (.ref l0) 14 6).bind fun x18 => (gO h14 (.ref x18) 13 0).bind fun x21 => (ldI .int h14 (.ref x21) l1).bind fun x25 => if (x14 + x25) ≤ l2 then (k2 l0 (l1 + 1) h14) else ((gO h14 (.ref l0) 14 6).bind fun x31 => (gO h14 (.ref x31) 13 5).bind fun x34 => (ldJ h14 (.ref x34) l2).bind fun x38 => (gJ h14 (.ref l0) 14 18).bind fun x40 => if (lg_cmp x38 x40) = 0 then (some (.inl (some (.int l2)), h14)) else (k12 l0 l1 (l2 + 1) h14))
def s_X14_slotHere_12 (k2 : Nat → Int32 → aH → aO) (n : Nat) : Nat → Int32 → Int32 → aH → aO := lpF (fun _ _ _ _ => none) (s_X14_slotHere_12_b k2) n
def s_X14_slotHere_2_b  (k2 : Nat → Int32 → aH → aO) (l0 : Nat) (l1 : Int32) (h : aH) : aO :=
  if 5 ≤ l1 then (some (.inl (some (.int (-1))), h)) else (cI (s_X14_slotOf l1 h) fun x8 h8 => s_X14_slotHere_12 k2 FU l0 l1 x8 h8)
def s_X14_slotHere_2  (n : Nat) : Nat → Int32 → aH → aO := lpF (fun _ _ _ => none) (s_X14_slotHere_2_b ) n
def s_X14_slotHere (o : Nat) (h : aH) : aO :=
  s_X14_slotHere_2 FU o 0 h
section
variable {p : Program} {l : Launch} {e : Env} {s : State} {m : MethodId} {args : Array Value} {below : List Frame} {meth : Method} {c : Code} {D : va_G} {B0 : Nat} {X : Nat → Nat} {ws0 : va_W} {r : aR} {h' : aH} {mc ms : Nat}
theorem t_X14_slotHere_12_b (C : Cx p l s m args meth c B0 X RX14 "slotHere" cX14_slotHere 3 (some .int) []) {k2 : Nat → Int32 → aH → aO} (K2 : ∀ (l0 : Nat) (l1 : Int32) (h : aH), k2 l0 l1 h = some (r, h') → Ev p l e { frames := 1, cells := mc, slots := ms, locals := 20 } s m args below meth c D B0 X ws0 r h' mc ms 3 mc ms 2 [some (.ref l0), some (.int l1), none] [] h) {k12 : Nat → Int32 → Int32 → aH → aO} (K12 : ∀ (l0 : Nat) (l1 : Int32) (l2 : Int32) (h : aH), k12 l0 l1 l2 h = some (r, h') → Ev p l e { frames := 1, cells := mc, slots := ms, locals := 20 } s m args below meth c D B0 X ws0 r h' mc ms 3 mc ms 12 [some (.ref l0), some (.int l1), some (.int l2)] [] h) {l0 : Nat} {l1 : Int32} {l2 : Int32} {h : aH} (hs : s_X14_slotHere_12_b k2 k12 l0 l1 l2 h = some (r, h')) : Ev p l e { frames := 1, cells := mc, slots := ms, locals := 20 } s m args below meth c D B0 X ws0 r h' mc ms 3 mc ms 12 [some (.ref l0), some (.int l1), some (.int l2)] [] h := by
  unfold s_X14_slotHere_12_b at hs
  refine ev_iload_n C rfl dX14_slotHere_12 ?_
  refine ev_iload_n C rfl dX14_slotHere_13 ?_
  obtain ⟨x14, h14, e14, hs⟩ := cI_at hs
  refine ev_callS C (T_X14_slotOf _ _ _ _ e14) wc_X14_slotOf wm_X14_246 wt_X14_slotOf wz_X14 hy_X14_slotOf ⟨(Nat.le_of_ble_eq_true rfl), (Nat.le_of_ble_eq_true rfl)⟩ ⟨(Nat.le_refl _), (Nat.le_refl _)⟩ (Nat.le_of_ble_eq_true rfl) rfl dX14_slotHere_14 ?_
  refine ev_aload_n C (x := .ref l0) rfl trivial dX14_slotHere_17 ?_
  obtain ⟨x18, e18, hs⟩ := aB hs
  refine ev_get C (ci := 14) (k := 6) rfl wu_14 (by decide) wf_X14_249 (gO_F e18) dX14_slotHere_18 ?_
  obtain ⟨x21, e21, hs⟩ := aB hs
  refine ev_getN C (ci := 13) (k := 0) rfl wu_13 (by decide) wg_X14_252 (gO_F e21) dX14_slotHere_21 ?_
  refine ev_iload_n C rfl dX14_slotHere_24 ?_
  obtain ⟨x25, e25, hs⟩ := aB hs
  refine ev_iald C e25 dX14_slotHere_25 ?_
  refine ev_iadd C dX14_slotHere_26 ?_
  refine ev_icmp_ge C (tgt := 55) (by decide) dX14_slotHere_27 (fun q27 => ?_) (fun q27 => ?_)
  · replace hs := (if_pos q27).symm.trans hs
    refine ev_iinc C (i := 1) (n := 1) (x := l1) (v := l1 + 1) rfl (congrArg (fun z => l1 + z) (show Int32.ofInt 1 = 1 by decide)) (by decide) dX14_slotHere_55 ?_
    refine ev_goto C (tgt := 2) (by decide) dX14_slotHere_58 ?_
    exact Ev.keep [true, true, false] (K2 _ _ _ hs)
  · replace hs := (if_neg q27).symm.trans hs
    refine ev_aload_n C (x := .ref l0) rfl trivial dX14_slotHere_30 ?_
    obtain ⟨x31, e31, hs⟩ := aB hs
    refine ev_get C (ci := 14) (k := 6) rfl wu_14 (by decide) wf_X14_249 (gO_F e31) dX14_slotHere_31 ?_
    obtain ⟨x34, e34, hs⟩ := aB hs
    refine ev_getN C (ci := 13) (k := 5) rfl wu_13 (by decide) wg_X14_255 (gO_F e34) dX14_slotHere_34 ?_
    refine ev_iload_n C rfl dX14_slotHere_37 ?_
    obtain ⟨x38, e38, hs⟩ := aB hs
    refine ev_lald C e38 dX14_slotHere_38 ?_
    refine ev_aload_n C (x := .ref l0) rfl trivial dX14_slotHere_39 ?_
    obtain ⟨x40, e40, hs⟩ := aB hs
    refine ev_get C (ci := 14) (k := 18) rfl wu_14 (by decide) wf_X14_206 (gJ_F e40) dX14_slotHere_40 ?_
    refine ev_lcmp C dX14_slotHere_43 ?_
    refine ev_if_ne C (tgt := 49) (by decide) dX14_slotHere_44 (fun q44 => ?_) (fun q44 => ?_)
    · replace hs := (if_neg q44).symm.trans hs
      refine ev_iinc C (i := 2) (n := 1) (x := l2) (v := l2 + 1) rfl (congrArg (fun z => l2 + z) (show Int32.ofInt 1 = 1 by decide)) (by decide) dX14_slotHere_49 ?_
      refine ev_goto C (tgt := 12) (by decide) dX14_slotHere_52 ?_
      exact (K12 _ _ _ _ hs)
    · replace hs := (if_pos q44).symm.trans hs
      refine ev_iload_n C rfl dX14_slotHere_47 ?_
      cases hs
      exact ev_iret C rfl rfl (Nat.le_refl _) (Nat.le_refl _) rfl dX14_slotHere_48
theorem t_X14_slotHere_12 (C : Cx p l s m args meth c B0 X RX14 "slotHere" cX14_slotHere 3 (some .int) []) {k2 : Nat → Int32 → aH → aO} (K2 : ∀ (l0 : Nat) (l1 : Int32) (h : aH), k2 l0 l1 h = some (r, h') → Ev p l e { frames := 1, cells := mc, slots := ms, locals := 20 } s m args below meth c D B0 X ws0 r h' mc ms 3 mc ms 2 [some (.ref l0), some (.int l1), none] [] h) : ∀ (n : Nat) {l0 : Nat} {l1 : Int32} {l2 : Int32} {h : aH} (hs : s_X14_slotHere_12 k2 n l0 l1 l2 h = some (r, h')), Ev p l e { frames := 1, cells := mc, slots := ms, locals := 20 } s m args below meth c D B0 X ws0 r h' mc ms 3 mc ms 12 [some (.ref l0), some (.int l1), some (.int l2)] [] h
  | 0, _, _, _, _, hs => nomatch hs
  | n + 1, _, _, _, _, hs => t_X14_slotHere_12_b C K2 (k12 := s_X14_slotHere_12 k2 n) (fun _ _ _ _ hs => t_X14_slotHere_12 C K2 n hs) hs
theorem t_X14_slotHere_2_b (C : Cx p l s m args meth c B0 X RX14 "slotHere" cX14_slotHere 3 (some .int) [])   {k2 : Nat → Int32 → aH → aO} (K2 : ∀ (l0 : Nat) (l1 : Int32) (h : aH), k2 l0 l1 h = some (r, h') → Ev p l e { frames := 1, cells := mc, slots := ms, locals := 20 } s m args below meth c D B0 X ws0 r h' mc ms 3 mc ms 2 [some (.ref l0), some (.int l1), none] [] h) {l0 : Nat} {l1 : Int32} {h : aH} (hs : s_X14_slotHere_2_b  k2 l0 l1 h = some (r, h')) : Ev p l e { frames := 1, cells := mc, slots := ms, locals := 20 } s m args below meth c D B0 X ws0 r h' mc ms 3 mc ms 2 [some (.ref l0), some (.int l1), none] [] h := by
  unfold s_X14_slotHere_2_b at hs
  refine ev_iload_n C rfl dX14_slotHere_2 ?_
  refine ev_iconst C (v := 5) dX14_slotHere_3 (by decide) ?_
  refine ev_icmp_ge C (tgt := 61) (by decide) dX14_slotHere_4 (fun q4 => ?_) (fun q4 => ?_)
  · replace hs := (if_pos q4).symm.trans hs
    refine ev_iconst C (v := (-1)) dX14_slotHere_61 (by decide) ?_
    cases hs
    exact ev_iret C rfl rfl (Nat.le_refl _) (Nat.le_refl _) rfl dX14_slotHere_62
  · replace hs := (if_neg q4).symm.trans hs
    refine ev_iload_n C rfl dX14_slotHere_7 ?_
    obtain ⟨x8, h8, e8, hs⟩ := cI_at hs
    refine ev_callS C (T_X14_slotOf _ _ _ _ e8) wc_X14_slotOf wm_X14_246 wt_X14_slotOf wz_X14 hy_X14_slotOf ⟨(Nat.le_of_ble_eq_true rfl), (Nat.le_of_ble_eq_true rfl)⟩ ⟨(Nat.le_refl _), (Nat.le_refl _)⟩ (Nat.le_of_ble_eq_true rfl) rfl dX14_slotHere_8 ?_
    refine ev_istore_n C (by decide) dX14_slotHere_11 ?_
    exact (t_X14_slotHere_12 C K2 FU hs)
theorem t_X14_slotHere_2 (C : Cx p l s m args meth c B0 X RX14 "slotHere" cX14_slotHere 3 (some .int) [])   : ∀ (n : Nat) {l0 : Nat} {l1 : Int32} {h : aH} (hs : s_X14_slotHere_2  n l0 l1 h = some (r, h')), Ev p l e { frames := 1, cells := mc, slots := ms, locals := 20 } s m args below meth c D B0 X ws0 r h' mc ms 3 mc ms 2 [some (.ref l0), some (.int l1), none] [] h
  | 0, _, _, _, hs => nomatch hs
  | n + 1, _, _, _, hs => t_X14_slotHere_2_b C  (k2 := s_X14_slotHere_2  n) (fun _ _ _ hs => t_X14_slotHere_2 C  n hs) hs
theorem hy_X14_slotHere : yX14_slotHere.cls ≠ "java/lang/invoke/MethodHandle" ∧ yX14_slotHere.cls ≠ "java/lang/invoke/VarHandle" ∧ (parseMethodDescriptor yX14_slotHere.desc).map (fun d => d.parameters.length) = some 0 := by decide +kernel
theorem T_X14_slotHere (o : Nat) (h : aH) (r : aR) (h' : aH) (hs : s_X14_slotHere o h = some (r, h')) : Mt yX14_slotHere (Cond.code yX14_slotHere cX14_slotHere 3 (some .int) :: aTB) 1 20 0 0 [.ref o] h r h' := by
  unfold s_X14_slotHere at hs
  refine Mt_of (k := 2) (by decide) rfl (fun p l e s m args below meth c D B0 X ws0 C => ?_)
  show Ev p l e { frames := 1, cells := 0, slots := 0, locals := 20 } s m args below meth c D B0 X ws0 r h' 0 0 3 0 0 0 [some (.ref o), none, none] [] h
  refine ev_iconst C (v := 0) dX14_slotHere_0 (by decide) ?_
  refine ev_istore_n C (by decide) dX14_slotHere_1 ?_
  exact (t_X14_slotHere_2 C  FU hs)
end
