-- X14_proved
theorem dX14_proved_0 : decode cX14_proved 0 = .ok (.aload_n 0, 1) := by decide +kernel
theorem dX14_proved_1 : decode cX14_proved 1 = .ok (.iconst 0, 1) := by decide +kernel
theorem dX14_proved_2 : decode cX14_proved 2 = .ok (.putfield 154, 3) := by decide +kernel
theorem dX14_proved_5 : decode cX14_proved 5 = .ok (.aload_n 0, 1) := by decide +kernel
theorem dX14_proved_6 : decode cX14_proved 6 = .ok (.iload_n 1, 1) := by decide +kernel
theorem dX14_proved_7 : decode cX14_proved 7 = .ok (.invokevirtual 474, 3) := by decide +kernel
theorem dX14_proved_10 : decode cX14_proved 10 = .ok (.ifCond .ne 9, 3) := by decide +kernel
theorem dX14_proved_13 : decode cX14_proved 13 = .ok (.aload_n 0, 1) := by decide +kernel
theorem dX14_proved_14 : decode cX14_proved 14 = .ok (.iconst 1, 1) := by decide +kernel
theorem dX14_proved_15 : decode cX14_proved 15 = .ok (.invokevirtual 360, 3) := by decide +kernel
theorem dX14_proved_18 : decode cX14_proved 18 = .ok (.ireturn, 1) := by decide +kernel
theorem dX14_proved_19 : decode cX14_proved 19 = .ok (.aload_n 0, 1) := by decide +kernel
theorem dX14_proved_20 : decode cX14_proved 20 = .ok (.aload_n 0, 1) := by decide +kernel
theorem dX14_proved_21 : decode cX14_proved 21 = .ok (.getfield 51, 3) := by decide +kernel
theorem dX14_proved_24 : decode cX14_proved 24 = .ok (.iload_n 1, 1) := by decide +kernel
theorem dX14_proved_25 : decode cX14_proved 25 = .ok (.iaload, 1) := by decide +kernel
theorem dX14_proved_26 : decode cX14_proved 26 = .ok (.iconst (-1), 1) := by decide +kernel
theorem dX14_proved_27 : decode cX14_proved 27 = .ok (.if_icmp .eq 16, 3) := by decide +kernel
theorem dX14_proved_30 : decode cX14_proved 30 = .ok (.aload_n 0, 1) := by decide +kernel
theorem dX14_proved_31 : decode cX14_proved 31 = .ok (.invokevirtual 638, 3) := by decide +kernel
theorem dX14_proved_34 : decode cX14_proved 34 = .ok (.bipush (-2), 2) := by decide +kernel
theorem dX14_proved_36 : decode cX14_proved 36 = .ok (.if_icmp .ne 7, 3) := by decide +kernel
theorem dX14_proved_39 : decode cX14_proved 39 = .ok (.iconst 1, 1) := by decide +kernel
theorem dX14_proved_40 : decode cX14_proved 40 = .ok (.goto 4, 3) := by decide +kernel
theorem dX14_proved_43 : decode cX14_proved 43 = .ok (.iconst 0, 1) := by decide +kernel
theorem dX14_proved_44 : decode cX14_proved 44 = .ok (.invokevirtual 413, 3) := by decide +kernel
theorem dX14_proved_47 : decode cX14_proved 47 = .ok (.ireturn, 1) := by decide +kernel
def s_X14_proved_44  (s0 : Int32) (s1 : Nat) (h : aH) : aO :=
  kO h s1 14 (cI (s_X14_done s1 s0 h) fun x44 h44 => some (.inl (some (.int x44)), h44))
def s_X14_proved_43  (s0 : Nat) (h : aH) : aO :=
  s_X14_proved_44 0 s0 h
def s_X14_proved (o : Nat) (a1 : Int32) (h : aH) : aO :=
  (pF h (.ref o) 14 0 (.int 0)).bind fun h2 => kO h2 o 14 (cI (s_X14_isCell o a1 h2) fun x7 h7 => if x7 = 0 then (kO h7 o 14 (cI (s_X14_refused o 1 h7) fun x15 h15 => some (.inl (some (.int x15)), h15))) else ((gO h7 (.ref o) 14 31).bind fun x21 => (ldI .int h7 (.ref x21) a1).bind fun x25 => if x25 = (-1) then (s_X14_proved_43 o h7) else (kO h7 o 14 (cI (s_X14_firstBreak o h7) fun x31 h31 => if x31 = (-2) then (s_X14_proved_44 1 o h31) else (s_X14_proved_43 o h31)))))
section
variable {p : Program} {l : Launch} {e : Env} {s : State} {m : MethodId} {args : Array Value} {below : List Frame} {meth : Method} {c : Code} {D : va_G} {B0 : Nat} {X : Nat → Nat} {ws0 : va_W} {r : aR} {h' : aH} {mc ms : Nat}
theorem t_X14_proved_44 (C : Cx p l s m args meth c B0 X RX14 "proved" cX14_proved 2 (some .int) [])   {s0 : Int32} {s1 : Nat} {h : aH} (hs : s_X14_proved_44  s0 s1 h = some (r, h')) : Ev p l e { frames := 3, cells := mc, slots := ms, locals := 70 } s m args below meth c D B0 X ws0 r h' mc ms 2 mc ms 44 [none, none] [.int s0, .ref s1] h := by
  unfold s_X14_proved_44 at hs
  obtain ⟨eo44, hs⟩ := kO_at hs
  obtain ⟨x44, h44, e44, hs⟩ := cI_at hs
  refine ev_callV C (T_X14_done _ _ _ _ _ e44) (ci := 14) rfl eo44 wc_X14_done wm_X14_413 wi_X14_done ws_X14_done wz_X14 hy_X14_done ⟨(Nat.le_of_ble_eq_true rfl), (Nat.le_of_ble_eq_true rfl)⟩ ⟨(Nat.le_refl _), (Nat.le_refl _)⟩ (Nat.le_of_ble_eq_true rfl) rfl dX14_proved_44 ?_
  cases hs
  exact ev_iret C rfl rfl (Nat.le_refl _) (Nat.le_refl _) rfl dX14_proved_47
theorem t_X14_proved_43 (C : Cx p l s m args meth c B0 X RX14 "proved" cX14_proved 2 (some .int) [])   {s0 : Nat} {h : aH} (hs : s_X14_proved_43  s0 h = some (r, h')) : Ev p l e { frames := 3, cells := mc, slots := ms, locals := 70 } s m args below meth c D B0 X ws0 r h' mc ms 2 mc ms 43 [none, none] [.ref s0] h := by
  unfold s_X14_proved_43 at hs
  refine ev_iconst C (v := 0) dX14_proved_43 (by decide) ?_
  exact (t_X14_proved_44 C  hs)
theorem hy_X14_proved : yX14_proved.cls ≠ "java/lang/invoke/MethodHandle" ∧ yX14_proved.cls ≠ "java/lang/invoke/VarHandle" ∧ (parseMethodDescriptor yX14_proved.desc).map (fun d => d.parameters.length) = some 1 := by decide +kernel
theorem T_X14_proved (o : Nat) (a1 : Int32) (h : aH) (r : aR) (h' : aH) (hs : s_X14_proved o a1 h = some (r, h')) : Mt yX14_proved (Cond.code yX14_proved cX14_proved 2 (some .int) :: aTB) 3 70 0 0 [.ref o, .int a1] h r h' := by
  unfold s_X14_proved at hs
  refine Mt_of (k := 0) (by decide) rfl (fun p l e s m args below meth c D B0 X ws0 C => ?_)
  show Ev p l e { frames := 3, cells := 0, slots := 0, locals := 70 } s m args below meth c D B0 X ws0 r h' 0 0 2 0 0 0 [some (.ref o), some (.int a1)] [] h
  refine ev_aload_n C (x := .ref o) rfl trivial dX14_proved_0 ?_
  refine ev_iconst C (v := 0) dX14_proved_1 (by decide) ?_
  obtain ⟨h2, e2, hs⟩ := aB hs
  refine ev_put C (ci := 14) (k := 0) rfl wu_14 (by decide) tyX14 tyX14_ok nmX14 wf_X14_154 rfl trivial e2 dX14_proved_2 ?_
  refine ev_aload_n C (x := .ref o) rfl trivial dX14_proved_5 ?_
  refine ev_iload_n C rfl dX14_proved_6 ?_
  obtain ⟨eo7, hs⟩ := kO_at hs
  obtain ⟨x7, h7, e7, hs⟩ := cI_at hs
  refine ev_callV C (T_X14_isCell _ _ _ _ _ e7) (ci := 14) rfl eo7 wc_X14_isCell wm_X14_474 wi_X14_isCell ws_X14_isCell wz_X14 hy_X14_isCell ⟨(Nat.le_of_ble_eq_true rfl), (Nat.le_of_ble_eq_true rfl)⟩ ⟨(Nat.le_refl _), (Nat.le_refl _)⟩ (Nat.le_of_ble_eq_true rfl) rfl dX14_proved_7 ?_
  refine ev_if_ne C (tgt := 19) (by decide) dX14_proved_10 (fun q10 => ?_) (fun q10 => ?_)
  · replace hs := (if_neg q10).symm.trans hs
    refine ev_aload_n C (x := .ref o) rfl trivial dX14_proved_19 ?_
    refine ev_aload_n C (x := .ref o) rfl trivial dX14_proved_20 ?_
    obtain ⟨x21, e21, hs⟩ := aB hs
    refine ev_get C (ci := 14) (k := 31) rfl wu_14 (by decide) wf_X14_51 (gO_F e21) dX14_proved_21 ?_
    refine ev_iload_n C rfl dX14_proved_24 ?_
    obtain ⟨x25, e25, hs⟩ := aB hs
    refine ev_iald C e25 dX14_proved_25 ?_
    refine ev_iconst C (v := (-1)) dX14_proved_26 (by decide) ?_
    refine ev_icmp_eq C (tgt := 43) (by decide) dX14_proved_27 (fun q27 => ?_) (fun q27 => ?_)
    · replace hs := (if_pos q27).symm.trans hs
      exact Ev.keep [false, false] (t_X14_proved_43 C  hs)
    · replace hs := (if_neg q27).symm.trans hs
      refine ev_aload_n C (x := .ref o) rfl trivial dX14_proved_30 ?_
      obtain ⟨eo31, hs⟩ := kO_at hs
      obtain ⟨x31, h31, e31, hs⟩ := cI_at hs
      refine ev_callV C (T_X14_firstBreak _ _ _ _ e31) (ci := 14) rfl eo31 wc_X14_firstBreak wm_X14_638 wi_X14_firstBreak ws_X14_firstBreak wz_X14 hy_X14_firstBreak ⟨(Nat.le_of_ble_eq_true rfl), (Nat.le_of_ble_eq_true rfl)⟩ ⟨(Nat.le_refl _), (Nat.le_refl _)⟩ (Nat.le_of_ble_eq_true rfl) rfl dX14_proved_31 ?_
      refine ev_bipush C (v := (-2)) dX14_proved_34 (by decide) ?_
      refine ev_icmp_ne C (tgt := 43) (by decide) dX14_proved_36 (fun q36 => ?_) (fun q36 => ?_)
      · replace hs := (if_neg q36).symm.trans hs
        exact Ev.keep [false, false] (t_X14_proved_43 C  hs)
      · replace hs := (if_pos q36).symm.trans hs
        refine ev_iconst C (v := 1) dX14_proved_39 (by decide) ?_
        refine ev_goto C (tgt := 44) (by decide) dX14_proved_40 ?_
        exact Ev.keep [false, false] (t_X14_proved_44 C  hs)
  · replace hs := (if_pos q10).symm.trans hs
    refine ev_aload_n C (x := .ref o) rfl trivial dX14_proved_13 ?_
    refine ev_iconst C (v := 1) dX14_proved_14 (by decide) ?_
    obtain ⟨eo15, hs⟩ := kO_at hs
    obtain ⟨x15, h15, e15, hs⟩ := cI_at hs
    refine ev_callV C (T_X14_refused _ _ _ _ _ e15) (ci := 14) rfl eo15 wc_X14_refused wm_X14_360 wi_X14_refused ws_X14_refused wz_X14 hy_X14_refused ⟨(Nat.le_of_ble_eq_true rfl), (Nat.le_of_ble_eq_true rfl)⟩ ⟨(Nat.le_refl _), (Nat.le_refl _)⟩ (Nat.le_of_ble_eq_true rfl) rfl dX14_proved_15 ?_
    cases hs
    exact ev_iret C rfl rfl (Nat.le_refl _) (Nat.le_refl _) rfl dX14_proved_18
end
-- X14_breaks
theorem dX14_breaks_0 : decode cX14_breaks 0 = .ok (.aload_n 0, 1) := by decide +kernel
theorem dX14_breaks_1 : decode cX14_breaks 1 = .ok (.iconst 0, 1) := by decide +kernel
theorem dX14_breaks_2 : decode cX14_breaks 2 = .ok (.putfield 154, 3) := by decide +kernel
theorem dX14_breaks_5 : decode cX14_breaks 5 = .ok (.aload_n 0, 1) := by decide +kernel
theorem dX14_breaks_6 : decode cX14_breaks 6 = .ok (.getfield 376, 3) := by decide +kernel
theorem dX14_breaks_9 : decode cX14_breaks 9 = .ok (.ifnonnull 11, 3) := by decide +kernel
theorem dX14_breaks_12 : decode cX14_breaks 12 = .ok (.aload_n 0, 1) := by decide +kernel
theorem dX14_breaks_13 : decode cX14_breaks 13 = .ok (.iconst 1, 1) := by decide +kernel
theorem dX14_breaks_14 : decode cX14_breaks 14 = .ok (.invokevirtual 360, 3) := by decide +kernel
theorem dX14_breaks_17 : decode cX14_breaks 17 = .ok (.goto 11, 3) := by decide +kernel
theorem dX14_breaks_20 : decode cX14_breaks 20 = .ok (.aload_n 0, 1) := by decide +kernel
theorem dX14_breaks_21 : decode cX14_breaks 21 = .ok (.aload_n 0, 1) := by decide +kernel
theorem dX14_breaks_22 : decode cX14_breaks 22 = .ok (.invokevirtual 638, 3) := by decide +kernel
theorem dX14_breaks_25 : decode cX14_breaks 25 = .ok (.invokevirtual 413, 3) := by decide +kernel
theorem dX14_breaks_28 : decode cX14_breaks 28 = .ok (.ireturn, 1) := by decide +kernel
def s_X14_breaks (o : Nat) (h : aH) : aO :=
  (pF h (.ref o) 14 0 (.int 0)).bind fun h2 => (gW h2 (.ref o) 14 4).bind fun x6 => match x6 with | .null => (kO h2 o 14 (cI (s_X14_refused o 1 h2) fun x14 h14 => some (.inl (some (.int x14)), h14))) | .ref n9 => (kO h2 o 14 (cI (s_X14_firstBreak o h2) fun x22 h22 => kO h22 o 14 (cI (s_X14_done o x22 h22) fun x25 h25 => some (.inl (some (.int x25)), h25)))) | _ => none
section
variable {p : Program} {l : Launch} {e : Env} {s : State} {m : MethodId} {args : Array Value} {below : List Frame} {meth : Method} {c : Code} {D : va_G} {B0 : Nat} {X : Nat → Nat} {ws0 : va_W} {r : aR} {h' : aH} {mc ms : Nat}
theorem hy_X14_breaks : yX14_breaks.cls ≠ "java/lang/invoke/MethodHandle" ∧ yX14_breaks.cls ≠ "java/lang/invoke/VarHandle" ∧ (parseMethodDescriptor yX14_breaks.desc).map (fun d => d.parameters.length) = some 0 := by decide +kernel
theorem T_X14_breaks (o : Nat) (h : aH) (r : aR) (h' : aH) (hs : s_X14_breaks o h = some (r, h')) : Mt yX14_breaks (Cond.code yX14_breaks cX14_breaks 1 (some .int) :: aTB) 3 70 0 0 [.ref o] h r h' := by
  unfold s_X14_breaks at hs
  refine Mt_of (k := 0) (by decide) rfl (fun p l e s m args below meth c D B0 X ws0 C => ?_)
  show Ev p l e { frames := 3, cells := 0, slots := 0, locals := 70 } s m args below meth c D B0 X ws0 r h' 0 0 1 0 0 0 [some (.ref o)] [] h
  refine ev_aload_n C (x := .ref o) rfl trivial dX14_breaks_0 ?_
  refine ev_iconst C (v := 0) dX14_breaks_1 (by decide) ?_
  obtain ⟨h2, e2, hs⟩ := aB hs
  refine ev_put C (ci := 14) (k := 0) rfl wu_14 (by decide) tyX14 tyX14_ok nmX14 wf_X14_154 rfl trivial e2 dX14_breaks_2 ?_
  refine ev_aload_n C (x := .ref o) rfl trivial dX14_breaks_5 ?_
  obtain ⟨x6, e6, hs⟩ := aB hs
  refine ev_get C (ci := 14) (k := 4) rfl wu_14 (by decide) wf_X14_376 (gW_F e6).1 dX14_breaks_6 ?_
  cases x6 with
  | null =>
    refine ev_ifnonnull_n C dX14_breaks_9 ?_
    refine ev_aload_n C (x := .ref o) rfl trivial dX14_breaks_12 ?_
    refine ev_iconst C (v := 1) dX14_breaks_13 (by decide) ?_
    obtain ⟨eo14, hs⟩ := kO_at hs
    obtain ⟨x14, h14, e14, hs⟩ := cI_at hs
    refine ev_callV C (T_X14_refused _ _ _ _ _ e14) (ci := 14) rfl eo14 wc_X14_refused wm_X14_360 wi_X14_refused ws_X14_refused wz_X14 hy_X14_refused ⟨(Nat.le_of_ble_eq_true rfl), (Nat.le_of_ble_eq_true rfl)⟩ ⟨(Nat.le_refl _), (Nat.le_refl _)⟩ (Nat.le_of_ble_eq_true rfl) rfl dX14_breaks_14 ?_
    refine ev_goto C (tgt := 28) (by decide) dX14_breaks_17 ?_
    cases hs
    exact ev_iret C rfl rfl (Nat.le_refl _) (Nat.le_refl _) rfl dX14_breaks_28
  | ref n9 =>
    refine ev_ifnonnull_r C (tgt := 20) (by decide) dX14_breaks_9 ?_
    refine ev_aload_n C (x := .ref o) rfl trivial dX14_breaks_20 ?_
    refine ev_aload_n C (x := .ref o) rfl trivial dX14_breaks_21 ?_
    obtain ⟨eo22, hs⟩ := kO_at hs
    obtain ⟨x22, h22, e22, hs⟩ := cI_at hs
    refine ev_callV C (T_X14_firstBreak _ _ _ _ e22) (ci := 14) rfl eo22 wc_X14_firstBreak wm_X14_638 wi_X14_firstBreak ws_X14_firstBreak wz_X14 hy_X14_firstBreak ⟨(Nat.le_of_ble_eq_true rfl), (Nat.le_of_ble_eq_true rfl)⟩ ⟨(Nat.le_refl _), (Nat.le_refl _)⟩ (Nat.le_of_ble_eq_true rfl) rfl dX14_breaks_22 ?_
    obtain ⟨eo25, hs⟩ := kO_at hs
    obtain ⟨x25, h25, e25, hs⟩ := cI_at hs
    refine ev_callV C (T_X14_done _ _ _ _ _ e25) (ci := 14) rfl eo25 wc_X14_done wm_X14_413 wi_X14_done ws_X14_done wz_X14 hy_X14_done ⟨(Nat.le_of_ble_eq_true rfl), (Nat.le_of_ble_eq_true rfl)⟩ ⟨(Nat.le_refl _), (Nat.le_refl _)⟩ (Nat.le_of_ble_eq_true rfl) rfl dX14_breaks_25 ?_
    cases hs
    exact ev_iret C rfl rfl (Nat.le_refl _) (Nat.le_refl _) rfl dX14_breaks_28
  | _ => cases hs
end
-- X14_trouble
theorem dX14_trouble_0 : decode cX14_trouble 0 = .ok (.aload_n 0, 1) := by decide +kernel
theorem dX14_trouble_1 : decode cX14_trouble 1 = .ok (.iconst 0, 1) := by decide +kernel
theorem dX14_trouble_2 : decode cX14_trouble 2 = .ok (.putfield 154, 3) := by decide +kernel
theorem dX14_trouble_5 : decode cX14_trouble 5 = .ok (.aload_n 0, 1) := by decide +kernel
theorem dX14_trouble_6 : decode cX14_trouble 6 = .ok (.getfield 157, 3) := by decide +kernel
theorem dX14_trouble_9 : decode cX14_trouble 9 = .ok (.ireturn, 1) := by decide +kernel
def s_X14_trouble (o : Nat) (h : aH) : aO :=
  (pF h (.ref o) 14 0 (.int 0)).bind fun h2 => (gI h2 (.ref o) 14 1).bind fun x6 => some (.inl (some (.int x6)), h2)
section
variable {p : Program} {l : Launch} {e : Env} {s : State} {m : MethodId} {args : Array Value} {below : List Frame} {meth : Method} {c : Code} {D : va_G} {B0 : Nat} {X : Nat → Nat} {ws0 : va_W} {r : aR} {h' : aH} {mc ms : Nat}
theorem hy_X14_trouble : yX14_trouble.cls ≠ "java/lang/invoke/MethodHandle" ∧ yX14_trouble.cls ≠ "java/lang/invoke/VarHandle" ∧ (parseMethodDescriptor yX14_trouble.desc).map (fun d => d.parameters.length) = some 0 := by decide +kernel
theorem T_X14_trouble (o : Nat) (h : aH) (r : aR) (h' : aH) (hs : s_X14_trouble o h = some (r, h')) : Mt yX14_trouble (Cond.code yX14_trouble cX14_trouble 1 (some .int) :: aTB) 0 0 0 0 [.ref o] h r h' := by
  unfold s_X14_trouble at hs
  refine Mt_of (k := 0) (by decide) rfl (fun p l e s m args below meth c D B0 X ws0 C => ?_)
  show Ev p l e { frames := 0, cells := 0, slots := 0, locals := 0 } s m args below meth c D B0 X ws0 r h' 0 0 1 0 0 0 [some (.ref o)] [] h
  refine ev_aload_n C (x := .ref o) rfl trivial dX14_trouble_0 ?_
  refine ev_iconst C (v := 0) dX14_trouble_1 (by decide) ?_
  obtain ⟨h2, e2, hs⟩ := aB hs
  refine ev_put C (ci := 14) (k := 0) rfl wu_14 (by decide) tyX14 tyX14_ok nmX14 wf_X14_154 rfl trivial e2 dX14_trouble_2 ?_
  refine ev_aload_n C (x := .ref o) rfl trivial dX14_trouble_5 ?_
  obtain ⟨x6, e6, hs⟩ := aB hs
  refine ev_get C (ci := 14) (k := 1) rfl wu_14 (by decide) wf_X14_157 (gI_F e6) dX14_trouble_6 ?_
  cases hs
  exact ev_iret C rfl rfl (Nat.le_refl _) (Nat.le_refl _) rfl dX14_trouble_9
end
