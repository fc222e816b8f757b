-- X6_sum
theorem dX6_sum_0 : decode cX6_sum 0 = .ok (.iconst 0, 1) := by decide +kernel
theorem dX6_sum_1 : decode cX6_sum 1 = .ok (.istore_n 1, 1) := by decide +kernel
theorem dX6_sum_2 : decode cX6_sum 2 = .ok (.aload_n 0, 1) := by decide +kernel
theorem dX6_sum_3 : decode cX6_sum 3 = .ok (.invokevirtual 44, 3) := by decide +kernel
theorem dX6_sum_6 : decode cX6_sum 6 = .ok (.bipush 45, 2) := by decide +kernel
theorem dX6_sum_8 : decode cX6_sum 8 = .ok (.if_icmp .ne 15, 3) := by decide +kernel
theorem dX6_sum_11 : decode cX6_sum 11 = .ok (.iconst 1, 1) := by decide +kernel
theorem dX6_sum_12 : decode cX6_sum 12 = .ok (.istore_n 1, 1) := by decide +kernel
theorem dX6_sum_13 : decode cX6_sum 13 = .ok (.aload_n 0, 1) := by decide +kernel
theorem dX6_sum_14 : decode cX6_sum 14 = .ok (.dup, 1) := by decide +kernel
theorem dX6_sum_15 : decode cX6_sum 15 = .ok (.getfield 75, 3) := by decide +kernel
theorem dX6_sum_18 : decode cX6_sum 18 = .ok (.iconst 1, 1) := by decide +kernel
theorem dX6_sum_19 : decode cX6_sum 19 = .ok (.iadd, 1) := by decide +kernel
theorem dX6_sum_20 : decode cX6_sum 20 = .ok (.putfield 75, 3) := by decide +kernel
theorem dX6_sum_23 : decode cX6_sum 23 = .ok (.iconst 0, 1) := by decide +kernel
theorem dX6_sum_24 : decode cX6_sum 24 = .ok (.istore_n 2, 1) := by decide +kernel
theorem dX6_sum_25 : decode cX6_sum 25 = .ok (.iload_n 2, 1) := by decide +kernel
theorem dX6_sum_26 : decode cX6_sum 26 = .ok (.bipush 60, 2) := by decide +kernel
theorem dX6_sum_28 : decode cX6_sum 28 = .ok (.if_icmp .gt 76, 3) := by decide +kernel
theorem dX6_sum_31 : decode cX6_sum 31 = .ok (.aload_n 0, 1) := by decide +kernel
theorem dX6_sum_32 : decode cX6_sum 32 = .ok (.iload_n 1, 1) := by decide +kernel
theorem dX6_sum_33 : decode cX6_sum 33 = .ok (.invokevirtual 155, 3) := by decide +kernel
theorem dX6_sum_36 : decode cX6_sum 36 = .ok (.ifCond .ne 5, 3) := by decide +kernel
theorem dX6_sum_39 : decode cX6_sum 39 = .ok (.iconst 0, 1) := by decide +kernel
theorem dX6_sum_40 : decode cX6_sum 40 = .ok (.ireturn, 1) := by decide +kernel
theorem dX6_sum_41 : decode cX6_sum 41 = .ok (.aload_n 0, 1) := by decide +kernel
theorem dX6_sum_42 : decode cX6_sum 42 = .ok (.invokevirtual 44, 3) := by decide +kernel
theorem dX6_sum_45 : decode cX6_sum 45 = .ok (.istore_n 3, 1) := by decide +kernel
theorem dX6_sum_46 : decode cX6_sum 46 = .ok (.iload_n 3, 1) := by decide +kernel
theorem dX6_sum_47 : decode cX6_sum 47 = .ok (.bipush 43, 2) := by decide +kernel
theorem dX6_sum_49 : decode cX6_sum 49 = .ok (.if_icmp .eq 17, 3) := by decide +kernel
theorem dX6_sum_52 : decode cX6_sum 52 = .ok (.iload_n 3, 1) := by decide +kernel
theorem dX6_sum_53 : decode cX6_sum 53 = .ok (.bipush 45, 2) := by decide +kernel
theorem dX6_sum_55 : decode cX6_sum 55 = .ok (.if_icmp .eq 11, 3) := by decide +kernel
theorem dX6_sum_58 : decode cX6_sum 58 = .ok (.iload_n 3, 1) := by decide +kernel
theorem dX6_sum_59 : decode cX6_sum 59 = .ok (.bipush 42, 2) := by decide +kernel
theorem dX6_sum_61 : decode cX6_sum 61 = .ok (.if_icmp .eq 5, 3) := by decide +kernel
theorem dX6_sum_64 : decode cX6_sum 64 = .ok (.iconst 1, 1) := by decide +kernel
theorem dX6_sum_65 : decode cX6_sum 65 = .ok (.ireturn, 1) := by decide +kernel
theorem dX6_sum_66 : decode cX6_sum 66 = .ok (.iload_n 3, 1) := by decide +kernel
theorem dX6_sum_67 : decode cX6_sum 67 = .ok (.bipush 43, 2) := by decide +kernel
theorem dX6_sum_69 : decode cX6_sum 69 = .ok (.if_icmp .ne 7, 3) := by decide +kernel
theorem dX6_sum_72 : decode cX6_sum 72 = .ok (.iconst 0, 1) := by decide +kernel
theorem dX6_sum_73 : decode cX6_sum 73 = .ok (.goto 14, 3) := by decide +kernel
theorem dX6_sum_76 : decode cX6_sum 76 = .ok (.iload_n 3, 1) := by decide +kernel
theorem dX6_sum_77 : decode cX6_sum 77 = .ok (.bipush 45, 2) := by decide +kernel
theorem dX6_sum_79 : decode cX6_sum 79 = .ok (.if_icmp .ne 7, 3) := by decide +kernel
theorem dX6_sum_82 : decode cX6_sum 82 = .ok (.iconst 1, 1) := by decide +kernel
theorem dX6_sum_83 : decode cX6_sum 83 = .ok (.goto 4, 3) := by decide +kernel
theorem dX6_sum_86 : decode cX6_sum 86 = .ok (.iconst 2, 1) := by decide +kernel
theorem dX6_sum_87 : decode cX6_sum 87 = .ok (.istore_n 1, 1) := by decide +kernel
theorem dX6_sum_88 : decode cX6_sum 88 = .ok (.aload_n 0, 1) := by decide +kernel
theorem dX6_sum_89 : decode cX6_sum 89 = .ok (.dup, 1) := by decide +kernel
theorem dX6_sum_90 : decode cX6_sum 90 = .ok (.getfield 75, 3) := by decide +kernel
theorem dX6_sum_93 : decode cX6_sum 93 = .ok (.iconst 1, 1) := by decide +kernel
theorem dX6_sum_94 : decode cX6_sum 94 = .ok (.iadd, 1) := by decide +kernel
theorem dX6_sum_95 : decode cX6_sum 95 = .ok (.putfield 75, 3) := by decide +kernel
theorem dX6_sum_98 : decode cX6_sum 98 = .ok (.iinc 2 1, 3) := by decide +kernel
theorem dX6_sum_101 : decode cX6_sum 101 = .ok (.goto (-76), 3) := by decide +kernel
theorem dX6_sum_104 : decode cX6_sum 104 = .ok (.aload_n 0, 1) := by decide +kernel
theorem dX6_sum_105 : decode cX6_sum 105 = .ok (.iconst 1, 1) := by decide +kernel
theorem dX6_sum_106 : decode cX6_sum 106 = .ok (.invokevirtual 51, 3) := by decide +kernel
theorem dX6_sum_109 : decode cX6_sum 109 = .ok (.ireturn, 1) := by decide +kernel
def s_X6_sum_87 (k25 : Nat → Int32 → Int32 → aH → aO) (l0 : Nat) (l2 : Int32) (s0 : Int32) (h : aH) : aO :=
  (gI h (.ref l0) 6 2).bind fun x90 => (pF h (.ref l0) 6 2 (.int (x90 + 1))).bind fun h95 => k25 l0 s0 (l2 + 1) h95
def s_X6_sum_66 (k25 : Nat → Int32 → Int32 → aH → aO) (l0 : Nat) (l2 : Int32) (l3 : Int32) (h : aH) : aO :=
  if l3 = 43 then (s_X6_sum_87 k25 l0 l2 0 h) else (if l3 = 45 then (s_X6_sum_87 k25 l0 l2 1 h) else (s_X6_sum_87 k25 l0 l2 2 h))
def s_X6_sum_25_b  (k25 : Nat → Int32 → Int32 → aH → aO) (l0 : Nat) (l1 : Int32) (l2 : Int32) (h : aH) : aO :=
  if 60 < l2 then (kO h l0 6 (cI (s_X6_fail l0 1 h) fun x106 h106 => rtZ x106 h106)) else (kO h l0 6 (cI (s_X6_factor l0 l1 h) fun x33 h33 => if x33 = 0 then (rtZ 0 h33) else (kO h33 l0 6 (cI (s_X6_kind l0 h33) fun x42 h42 => if x42 = 43 then (s_X6_sum_66 k25 l0 l2 x42 h42) else (if x42 = 45 then (s_X6_sum_66 k25 l0 l2 x42 h42) else (if x42 = 42 then (s_X6_sum_66 k25 l0 l2 x42 h42) else (rtZ 1 h42)))))))
def s_X6_sum_25  (n : Nat) : Nat → Int32 → Int32 → aH → aO := lpF (fun _ _ _ _ => none) (s_X6_sum_25_b ) n
def s_X6_sum_23  (l0 : Nat) (l1 : Int32) (h : aH) : aO :=
  s_X6_sum_25 FU l0 l1 0 h
def s_X6_sum (o : Nat) (h : aH) : aO :=
  kO h o 6 (cI (s_X6_kind o h) fun x3 h3 => if x3 = 45 then ((gI h3 (.ref o) 6 2).bind fun x15 => (pF h3 (.ref o) 6 2 (.int (x15 + 1))).bind fun h20 => s_X6_sum_23 o 1 h20) else (s_X6_sum_23 o 0 h3))
section
variable {p : Program} {l : Launch} {e : Env} {s : State} {m : MethodId} {args : Array Value} {below : List Frame} {meth : Method} {c : Code} {D : va_G} {B0 : Nat} {X : Nat → Nat} {ws0 : va_W} {r : aR} {h' : aH} {mc ms : Nat}
theorem t_X6_sum_87 (C : Cx p l s m args meth c B0 X RX6 "sum" cX6_sum 4 (some .boolean) []) {k25 : Nat → Int32 → Int32 → aH → aO} (K25 : ∀ (l0 : Nat) (l1 : Int32) (l2 : Int32) (h : aH), k25 l0 l1 l2 h = some (r, h') → Ev p l e { frames := 2, cells := mc, slots := ms, locals := 47 } s m args below meth c D B0 X ws0 r h' mc ms 4 mc ms 25 [some (.ref l0), some (.int l1), some (.int l2), none] [] h) {l0 : Nat} {l2 : Int32} {s0 : Int32} {h : aH} (hs : s_X6_sum_87 k25 l0 l2 s0 h = some (r, h')) : Ev p l e { frames := 2, cells := mc, slots := ms, locals := 47 } s m args below meth c D B0 X ws0 r h' mc ms 4 mc ms 87 [some (.ref l0), none, some (.int l2), none] [.int s0] h := by
  unfold s_X6_sum_87 at hs
  refine ev_istore_n C (by decide) dX6_sum_87 ?_
  refine ev_aload_n C (x := .ref l0) rfl trivial dX6_sum_88 ?_
  refine ev_dup C rfl dX6_sum_89 ?_
  obtain ⟨x90, e90, hs⟩ := aB hs
  refine ev_get C (ci := 6) (k := 2) rfl wu_6 (by decide) wf_X6_75 (gI_F e90) dX6_sum_90 ?_
  refine ev_iconst C (v := 1) dX6_sum_93 (by decide) ?_
  refine ev_iadd C dX6_sum_94 ?_
  obtain ⟨h95, e95, hs⟩ := aB hs
  refine ev_put C (ci := 6) (k := 2) rfl wu_6 (by decide) tyX6 tyX6_ok nmX6 wf_X6_75 rfl trivial e95 dX6_sum_95 ?_
  refine ev_iinc C (i := 2) (n := 1) (x := l2) (v := l2 + 1) rfl (congrArg (fun z => l2 + z) (show Int32.ofInt 1 = 1 by decide)) (by decide) dX6_sum_98 ?_
  refine ev_goto C (tgt := 25) (by decide) dX6_sum_101 ?_
  exact (K25 _ _ _ _ hs)
theorem t_X6_sum_66 (C : Cx p l s m args meth c B0 X RX6 "sum" cX6_sum 4 (some .boolean) []) {k25 : Nat → Int32 → Int32 → aH → aO} (K25 : ∀ (l0 : Nat) (l1 : Int32) (l2 : Int32) (h : aH), k25 l0 l1 l2 h = some (r, h') → Ev p l e { frames := 2, cells := mc, slots := ms, locals := 47 } s m args below meth c D B0 X ws0 r h' mc ms 4 mc ms 25 [some (.ref l0), some (.int l1), some (.int l2), none] [] h) {l0 : Nat} {l2 : Int32} {l3 : Int32} {h : aH} (hs : s_X6_sum_66 k25 l0 l2 l3 h = some (r, h')) : Ev p l e { frames := 2, cells := mc, slots := ms, locals := 47 } s m args below meth c D B0 X ws0 r h' mc ms 4 mc ms 66 [some (.ref l0), none, some (.int l2), some (.int l3)] [] h := by
  unfold s_X6_sum_66 at hs
  refine ev_iload_n C rfl dX6_sum_66 ?_
  refine ev_bipush C (v := 43) dX6_sum_67 (by decide) ?_
  refine ev_icmp_ne C (tgt := 76) (by decide) dX6_sum_69 (fun q69 => ?_) (fun q69 => ?_)
  · replace hs := (if_neg q69).symm.trans hs
    refine ev_iload_n C rfl dX6_sum_76 ?_
    refine ev_bipush C (v := 45) dX6_sum_77 (by decide) ?_
    refine ev_icmp_ne C (tgt := 86) (by decide) dX6_sum_79 (fun q79 => ?_) (fun q79 => ?_)
    · replace hs := (if_neg q79).symm.trans hs
      refine ev_iconst C (v := 2) dX6_sum_86 (by decide) ?_
      exact Ev.keep [true, true, true, false] (t_X6_sum_87 C K25 hs)
    · replace hs := (if_pos q79).symm.trans hs
      refine ev_iconst C (v := 1) dX6_sum_82 (by decide) ?_
      refine ev_goto C (tgt := 87) (by decide) dX6_sum_83 ?_
      exact Ev.keep [true, true, true, false] (t_X6_sum_87 C K25 hs)
  · replace hs := (if_pos q69).symm.trans hs
    refine ev_iconst C (v := 0) dX6_sum_72 (by decide) ?_
    refine ev_goto C (tgt := 87) (by decide) dX6_sum_73 ?_
    exact Ev.keep [true, true, true, false] (t_X6_sum_87 C K25 hs)
theorem t_X6_sum_25_b (C : Cx p l s m args meth c B0 X RX6 "sum" cX6_sum 4 (some .boolean) [])   {k25 : Nat → Int32 → Int32 → aH → aO} (K25 : ∀ (l0 : Nat) (l1 : Int32) (l2 : Int32) (h : aH), k25 l0 l1 l2 h = some (r, h') → Ev p l e { frames := 2, cells := mc, slots := ms, locals := 47 } s m args below meth c D B0 X ws0 r h' mc ms 4 mc ms 25 [some (.ref l0), some (.int l1), some (.int l2), none] [] h) {l0 : Nat} {l1 : Int32} {l2 : Int32} {h : aH} (hs : s_X6_sum_25_b  k25 l0 l1 l2 h = some (r, h')) : Ev p l e { frames := 2, cells := mc, slots := ms, locals := 47 } s m args below meth c D B0 X ws0 r h' mc ms 4 mc ms 25 [some (.ref l0), some (.int l1), some (.int l2), none] [] h := by
  unfold s_X6_sum_25_b at hs
  refine ev_iload_n C rfl dX6_sum_25 ?_
  refine ev_bipush C (v := 60) dX6_sum_26 (by decide) ?_
  refine ev_icmp_gt C (tgt := 104) (by decide) dX6_sum_28 (fun q28 => ?_) (fun q28 => ?_)
  · replace hs := (if_pos q28).symm.trans hs
    refine ev_aload_n C (x := .ref l0) rfl trivial dX6_sum_104 ?_
    refine ev_iconst C (v := 1) dX6_sum_105 (by decide) ?_
    obtain ⟨eo106, hs⟩ := kO_at hs
    obtain ⟨x106, h106, e106, hs⟩ := cI_at hs
    refine ev_callV C (T_X6_fail _ _ _ _ _ e106) (ci := 6) rfl eo106 wc_X6_fail wm_X6_51 wi_X6_fail ws_X6_fail wz_X6 hy_X6_fail ⟨(Nat.le_of_ble_eq_true rfl), (Nat.le_of_ble_eq_true rfl)⟩ ⟨(Nat.le_refl _), (Nat.le_refl _)⟩ (Nat.le_of_ble_eq_true rfl) rfl dX6_sum_106 ?_
    obtain ⟨hz, rfl, rfl⟩ := rtZ_at hs
    exact ev_zret C rfl hz rfl (Nat.le_refl _) (Nat.le_refl _) rfl dX6_sum_109
  · replace hs := (if_neg q28).symm.trans hs
    refine ev_aload_n C (x := .ref l0) rfl trivial dX6_sum_31 ?_
    refine ev_iload_n C rfl dX6_sum_32 ?_
    obtain ⟨eo33, hs⟩ := kO_at hs
    obtain ⟨x33, h33, e33, hs⟩ := cI_at hs
    refine ev_callV C (T_X6_factor _ _ _ _ _ e33) (ci := 6) rfl eo33 wc_X6_factor wm_X6_155 wi_X6_factor ws_X6_factor wz_X6 hy_X6_factor ⟨(Nat.le_of_ble_eq_true rfl), (Nat.le_of_ble_eq_true rfl)⟩ ⟨(Nat.le_refl _), (Nat.le_refl _)⟩ (Nat.le_of_ble_eq_true rfl) rfl dX6_sum_33 ?_
    refine ev_if_ne C (tgt := 41) (by decide) dX6_sum_36 (fun q36 => ?_) (fun q36 => ?_)
    · replace hs := (if_neg q36).symm.trans hs
      refine ev_aload_n C (x := .ref l0) rfl trivial dX6_sum_41 ?_
      obtain ⟨eo42, hs⟩ := kO_at hs
      obtain ⟨x42, h42, e42, hs⟩ := cI_at hs
      refine ev_callV C (T_X6_kind _ _ _ _ e42) (ci := 6) rfl eo42 wc_X6_kind wm_X6_44 wi_X6_kind ws_X6_kind wz_X6 hy_X6_kind ⟨(Nat.le_of_ble_eq_true rfl), (Nat.le_of_ble_eq_true rfl)⟩ ⟨(Nat.le_refl _), (Nat.le_refl _)⟩ (Nat.le_of_ble_eq_true rfl) rfl dX6_sum_42 ?_
      refine ev_istore_n C (by decide) dX6_sum_45 ?_
      refine ev_iload_n C rfl dX6_sum_46 ?_
      refine ev_bipush C (v := 43) dX6_sum_47 (by decide) ?_
      refine ev_icmp_eq C (tgt := 66) (by decide) dX6_sum_49 (fun q49 => ?_) (fun q49 => ?_)
      · replace hs := (if_pos q49).symm.trans hs
        exact Ev.keep [true, false, true, true] (t_X6_sum_66 C K25 hs)
      · replace hs := (if_neg q49).symm.trans hs
        refine ev_iload_n C rfl dX6_sum_52 ?_
        refine ev_bipush C (v := 45) dX6_sum_53 (by decide) ?_
        refine ev_icmp_eq C (tgt := 66) (by decide) dX6_sum_55 (fun q55 => ?_) (fun q55 => ?_)
        · replace hs := (if_pos q55).symm.trans hs
          exact Ev.keep [true, false, true, true] (t_X6_sum_66 C K25 hs)
        · replace hs := (if_neg q55).symm.trans hs
          refine ev_iload_n C rfl dX6_sum_58 ?_
          refine ev_bipush C (v := 42) dX6_sum_59 (by decide) ?_
          refine ev_icmp_eq C (tgt := 66) (by decide) dX6_sum_61 (fun q61 => ?_) (fun q61 => ?_)
          · replace hs := (if_pos q61).symm.trans hs
            exact Ev.keep [true, false, true, true] (t_X6_sum_66 C K25 hs)
          · replace hs := (if_neg q61).symm.trans hs
            refine ev_iconst C (v := 1) dX6_sum_64 (by decide) ?_
            obtain ⟨hz, rfl, rfl⟩ := rtZ_at hs
            exact ev_zret C rfl hz rfl (Nat.le_refl _) (Nat.le_refl _) rfl dX6_sum_65
    · replace hs := (if_pos q36).symm.trans hs
      refine ev_iconst C (v := 0) dX6_sum_39 (by decide) ?_
      obtain ⟨hz, rfl, rfl⟩ := rtZ_at hs
      exact ev_zret C rfl hz rfl (Nat.le_refl _) (Nat.le_refl _) rfl dX6_sum_40
theorem t_X6_sum_25 (C : Cx p l s m args meth c B0 X RX6 "sum" cX6_sum 4 (some .boolean) [])   : ∀ (n : Nat) {l0 : Nat} {l1 : Int32} {l2 : Int32} {h : aH} (hs : s_X6_sum_25  n l0 l1 l2 h = some (r, h')), Ev p l e { frames := 2, cells := mc, slots := ms, locals := 47 } s m args below meth c D B0 X ws0 r h' mc ms 4 mc ms 25 [some (.ref l0), some (.int l1), some (.int l2), none] [] h
  | 0, _, _, _, _, hs => nomatch hs
  | n + 1, _, _, _, _, hs => t_X6_sum_25_b C  (k25 := s_X6_sum_25  n) (fun _ _ _ _ hs => t_X6_sum_25 C  n hs) hs
theorem t_X6_sum_23 (C : Cx p l s m args meth c B0 X RX6 "sum" cX6_sum 4 (some .boolean) [])   {l0 : Nat} {l1 : Int32} {h : aH} (hs : s_X6_sum_23  l0 l1 h = some (r, h')) : Ev p l e { frames := 2, cells := mc, slots := ms, locals := 47 } s m args below meth c D B0 X ws0 r h' mc ms 4 mc ms 23 [some (.ref l0), some (.int l1), none, none] [] h := by
  unfold s_X6_sum_23 at hs
  refine ev_iconst C (v := 0) dX6_sum_23 (by decide) ?_
  refine ev_istore_n C (by decide) dX6_sum_24 ?_
  exact (t_X6_sum_25 C  FU hs)
theorem hy_X6_sum : yX6_sum.cls ≠ "java/lang/invoke/MethodHandle" ∧ yX6_sum.cls ≠ "java/lang/invoke/VarHandle" ∧ (parseMethodDescriptor yX6_sum.desc).map (fun d => d.parameters.length) = some 0 := by decide +kernel
theorem T_X6_sum (o : Nat) (h : aH) (r : aR) (h' : aH) (hs : s_X6_sum o h = some (r, h')) : Mt yX6_sum (Cond.code yX6_sum cX6_sum 4 (some .boolean) :: aTB) 2 47 0 0 [.ref o] h r h' := by
  unfold s_X6_sum at hs
  refine Mt_of (k := 3) (by decide) rfl (fun p l e s m args below meth c D B0 X ws0 C => ?_)
  show Ev p l e { frames := 2, cells := 0, slots := 0, locals := 47 } s m args below meth c D B0 X ws0 r h' 0 0 4 0 0 0 [some (.ref o), none, none, none] [] h
  refine ev_iconst C (v := 0) dX6_sum_0 (by decide) ?_
  refine ev_istore_n C (by decide) dX6_sum_1 ?_
  refine ev_aload_n C (x := .ref o) rfl trivial dX6_sum_2 ?_
  obtain ⟨eo3, hs⟩ := kO_at hs
  obtain ⟨x3, h3, e3, hs⟩ := cI_at hs
  refine ev_callV C (T_X6_kind _ _ _ _ e3) (ci := 6) rfl eo3 wc_X6_kind wm_X6_44 wi_X6_kind ws_X6_kind wz_X6 hy_X6_kind ⟨(Nat.le_of_ble_eq_true rfl), (Nat.le_of_ble_eq_true rfl)⟩ ⟨(Nat.le_refl _), (Nat.le_refl _)⟩ (Nat.le_of_ble_eq_true rfl) rfl dX6_sum_3 ?_
  refine ev_bipush C (v := 45) dX6_sum_6 (by decide) ?_
  refine ev_icmp_ne C (tgt := 23) (by decide) dX6_sum_8 (fun q8 => ?_) (fun q8 => ?_)
  · replace hs := (if_neg q8).symm.trans hs
    exact (t_X6_sum_23 C  hs)
  · replace hs := (if_pos q8).symm.trans hs
    refine ev_iconst C (v := 1) dX6_sum_11 (by decide) ?_
    refine ev_istore_n C (by decide) dX6_sum_12 ?_
    refine ev_aload_n C (x := .ref o) rfl trivial dX6_sum_13 ?_
    refine ev_dup C rfl dX6_sum_14 ?_
    obtain ⟨x15, e15, hs⟩ := aB hs
    refine ev_get C (ci := 6) (k := 2) rfl wu_6 (by decide) wf_X6_75 (gI_F e15) dX6_sum_15 ?_
    refine ev_iconst C (v := 1) dX6_sum_18 (by decide) ?_
    refine ev_iadd C dX6_sum_19 ?_
    obtain ⟨h20, e20, hs⟩ := aB hs
    refine ev_put C (ci := 6) (k := 2) rfl wu_6 (by decide) tyX6 tyX6_ok nmX6 wf_X6_75 rfl trivial e20 dX6_sum_20 ?_
    exact (t_X6_sum_23 C  hs)
end
-- X6_sightLine
theorem dX6_sightLine_0 : decode cX6_sightLine 0 = .ok (.aload_n 0, 1) := by decide +kernel
theorem dX6_sightLine_1 : decode cX6_sightLine 1 = .ok (.iconst 4, 1) := by decide +kernel
theorem dX6_sightLine_2 : decode cX6_sightLine 2 = .ok (.invokevirtual 104, 3) := by decide +kernel
theorem dX6_sightLine_5 : decode cX6_sightLine 5 = .ok (.ifCond .ne 5, 3) := by decide +kernel
theorem dX6_sightLine_8 : decode cX6_sightLine 8 = .ok (.iconst 0, 1) := by decide +kernel
theorem dX6_sightLine_9 : decode cX6_sightLine 9 = .ok (.ireturn, 1) := by decide +kernel
theorem dX6_sightLine_10 : decode cX6_sightLine 10 = .ok (.aload_n 0, 1) := by decide +kernel
theorem dX6_sightLine_11 : decode cX6_sightLine 11 = .ok (.getfield 18, 3) := by decide +kernel
theorem dX6_sightLine_14 : decode cX6_sightLine 14 = .ok (.iconst 4, 1) := by decide +kernel
theorem dX6_sightLine_15 : decode cX6_sightLine 15 = .ok (.aload_n 0, 1) := by decide +kernel
theorem dX6_sightLine_16 : decode cX6_sightLine 16 = .ok (.invokevirtual 93, 3) := by decide +kernel
theorem dX6_sightLine_19 : decode cX6_sightLine 19 = .ok (.invokevirtual 107, 3) := by decide +kernel
theorem dX6_sightLine_22 : decode cX6_sightLine 22 = .ok (.getstatic 61, 3) := by decide +kernel
theorem dX6_sightLine_25 : decode cX6_sightLine 25 = .ok (.iconst 4, 1) := by decide +kernel
theorem dX6_sightLine_26 : decode cX6_sightLine 26 = .ok (.iaload, 1) := by decide +kernel
theorem dX6_sightLine_27 : decode cX6_sightLine 27 = .ok (.isub, 1) := by decide +kernel
theorem dX6_sightLine_28 : decode cX6_sightLine 28 = .ok (.istore_n 1, 1) := by decide +kernel
theorem dX6_sightLine_29 : decode cX6_sightLine 29 = .ok (.aload_n 0, 1) := by decide +kernel
theorem dX6_sightLine_30 : decode cX6_sightLine 30 = .ok (.dup, 1) := by decide +kernel
theorem dX6_sightLine_31 : decode cX6_sightLine 31 = .ok (.getfield 75, 3) := by decide +kernel
theorem dX6_sightLine_34 : decode cX6_sightLine 34 = .ok (.iconst 1, 1) := by decide +kernel
theorem dX6_sightLine_35 : decode cX6_sightLine 35 = .ok (.iadd, 1) := by decide +kernel
theorem dX6_sightLine_36 : decode cX6_sightLine 36 = .ok (.putfield 75, 3) := by decide +kernel
theorem dX6_sightLine_39 : decode cX6_sightLine 39 = .ok (.aload_n 0, 1) := by decide +kernel
theorem dX6_sightLine_40 : decode cX6_sightLine 40 = .ok (.getfield 28, 3) := by decide +kernel
theorem dX6_sightLine_43 : decode cX6_sightLine 43 = .ok (.getfield 126, 3) := by decide +kernel
theorem dX6_sightLine_46 : decode cX6_sightLine 46 = .ok (.istore_n 2, 1) := by decide +kernel
theorem dX6_sightLine_47 : decode cX6_sightLine 47 = .ok (.aload_n 0, 1) := by decide +kernel
theorem dX6_sightLine_48 : decode cX6_sightLine 48 = .ok (.bipush 61, 2) := by decide +kernel
theorem dX6_sightLine_50 : decode cX6_sightLine 50 = .ok (.invokevirtual 55, 3) := by decide +kernel
theorem dX6_sightLine_53 : decode cX6_sightLine 53 = .ok (.ifCond .eq 10, 3) := by decide +kernel
theorem dX6_sightLine_56 : decode cX6_sightLine 56 = .ok (.aload_n 0, 1) := by decide +kernel
theorem dX6_sightLine_57 : decode cX6_sightLine 57 = .ok (.invokevirtual 68, 3) := by decide +kernel
theorem dX6_sightLine_60 : decode cX6_sightLine 60 = .ok (.ifCond .ne 5, 3) := by decide +kernel
theorem dX6_sightLine_63 : decode cX6_sightLine 63 = .ok (.iconst 0, 1) := by decide +kernel
theorem dX6_sightLine_64 : decode cX6_sightLine 64 = .ok (.ireturn, 1) := by decide +kernel
theorem dX6_sightLine_65 : decode cX6_sightLine 65 = .ok (.aload_n 0, 1) := by decide +kernel
theorem dX6_sightLine_66 : decode cX6_sightLine 66 = .ok (.getfield 18, 3) := by decide +kernel
theorem dX6_sightLine_69 : decode cX6_sightLine 69 = .ok (.getfield 129, 3) := by decide +kernel
theorem dX6_sightLine_72 : decode cX6_sightLine 72 = .ok (.iload_n 1, 1) := by decide +kernel
theorem dX6_sightLine_73 : decode cX6_sightLine 73 = .ok (.iload_n 2, 1) := by decide +kernel
theorem dX6_sightLine_74 : decode cX6_sightLine 74 = .ok (.iastore, 1) := by decide +kernel
theorem dX6_sightLine_75 : decode cX6_sightLine 75 = .ok (.aload_n 0, 1) := by decide +kernel
theorem dX6_sightLine_76 : decode cX6_sightLine 76 = .ok (.getfield 18, 3) := by decide +kernel
theorem dX6_sightLine_79 : decode cX6_sightLine 79 = .ok (.getfield 132, 3) := by decide +kernel
theorem dX6_sightLine_82 : decode cX6_sightLine 82 = .ok (.iload_n 1, 1) := by decide +kernel
theorem dX6_sightLine_83 : decode cX6_sightLine 83 = .ok (.aload_n 0, 1) := by decide +kernel
theorem dX6_sightLine_84 : decode cX6_sightLine 84 = .ok (.getfield 28, 3) := by decide +kernel
theorem dX6_sightLine_87 : decode cX6_sightLine 87 = .ok (.getfield 126, 3) := by decide +kernel
theorem dX6_sightLine_90 : decode cX6_sightLine 90 = .ok (.iastore, 1) := by decide +kernel
theorem dX6_sightLine_91 : decode cX6_sightLine 91 = .ok (.iconst 1, 1) := by decide +kernel
theorem dX6_sightLine_92 : decode cX6_sightLine 92 = .ok (.ireturn, 1) := by decide +kernel
def s_X6_sightLine (o : Nat) (h : aH) : aO :=
  kO h o 6 (cI (s_X6_newName o 4 h) fun x2 h2 => if x2 = 0 then (rtZ 0 h2) else ((gO h2 (.ref o) 6 5).bind fun x11 => kO h2 o 6 (cJ (s_X6_meaning o h2) fun x16 h16 => kO h16 x11 2 (cI (s_X2_addName x11 4 x16 h16) fun x19 h19 => (ldI .int h19 (.ref (aE + 1)) 4).bind fun x26 => (gI h19 (.ref o) 6 2).bind fun x31 => (pF h19 (.ref o) 6 2 (.int (x31 + 1))).bind fun h36 => (gO h36 (.ref o) 6 6).bind fun x40 => (gI h36 (.ref x40) 0 0).bind fun x43 => kO h36 o 6 (cI (s_X6_pass o 61 h36) fun x50 h50 => if x50 = 0 then (rtZ 0 h50) else (kO h50 o 6 (cI (s_X6_sum o h50) fun x57 h57 => if x57 = 0 then (rtZ 0 h57) else ((gO h57 (.ref o) 6 5).bind fun x66 => (gO h57 (.ref x66) 2 10).bind fun x69 => (stI h57 (.ref x69) (x19 - x26) x43).bind fun h74 => (gO h74 (.ref o) 6 5).bind fun x76 => (gO h74 (.ref x76) 2 11).bind fun x79 => (gO h74 (.ref o) 6 6).bind fun x84 => (gI h74 (.ref x84) 0 0).bind fun x87 => (stI h74 (.ref x79) (x19 - x26) x87).bind fun h90 => rtZ 1 h90))))))))
section
variable {p : Program} {l : Launch} {e : Env} {s : State} {m : MethodId} {args : Array Value} {below : List Frame} {meth : Method} {c : Code} {D : va_G} {B0 : Nat} {X : Nat → Nat} {ws0 : va_W} {r : aR} {h' : aH} {mc ms : Nat}
theorem hy_X6_sightLine : yX6_sightLine.cls ≠ "java/lang/invoke/MethodHandle" ∧ yX6_sightLine.cls ≠ "java/lang/invoke/VarHandle" ∧ (parseMethodDescriptor yX6_sightLine.desc).map (fun d => d.parameters.length) = some 0 := by decide +kernel
theorem T_X6_sightLine (o : Nat) (h : aH) (r : aR) (h' : aH) (hs : s_X6_sightLine o h = some (r, h')) : Mt yX6_sightLine (Cond.code yX6_sightLine cX6_sightLine 3 (some .boolean) :: aTB) 3 70 0 0 [.ref o] h r h' := by
  unfold s_X6_sightLine at hs
  refine Mt_of (k := 2) (by decide) rfl (fun p l e s m args below meth c D B0 X ws0 C => ?_)
  show Ev p l e { frames := 3, cells := 0, slots := 0, locals := 70 } s m args below meth c D B0 X ws0 r h' 0 0 3 0 0 0 [some (.ref o), none, none] [] h
  refine ev_aload_n C (x := .ref o) rfl trivial dX6_sightLine_0 ?_
  refine ev_iconst C (v := 4) dX6_sightLine_1 (by decide) ?_
  obtain ⟨eo2, hs⟩ := kO_at hs
  obtain ⟨x2, h2, e2, hs⟩ := cI_at hs
  refine ev_callV C (T_X6_newName _ _ _ _ _ e2) (ci := 6) rfl eo2 wc_X6_newName wm_X6_104 wi_X6_newName ws_X6_newName wz_X6 hy_X6_newName ⟨(Nat.le_of_ble_eq_true rfl), (Nat.le_of_ble_eq_true rfl)⟩ ⟨(Nat.le_refl _), (Nat.le_refl _)⟩ (Nat.le_of_ble_eq_true rfl) rfl dX6_sightLine_2 ?_
  refine ev_if_ne C (tgt := 10) (by decide) dX6_sightLine_5 (fun q5 => ?_) (fun q5 => ?_)
  · replace hs := (if_neg q5).symm.trans hs
    refine ev_aload_n C (x := .ref o) rfl trivial dX6_sightLine_10 ?_
    obtain ⟨x11, e11, hs⟩ := aB hs
    refine ev_get C (ci := 6) (k := 5) rfl wu_6 (by decide) wf_X6_18 (gO_F e11) dX6_sightLine_11 ?_
    refine ev_iconst C (v := 4) dX6_sightLine_14 (by decide) ?_
    refine ev_aload_n C (x := .ref o) rfl trivial dX6_sightLine_15 ?_
    obtain ⟨eo16, hs⟩ := kO_at hs
    obtain ⟨x16, h16, e16, hs⟩ := cJ_at hs
    refine ev_callV C (T_X6_meaning _ _ _ _ e16) (ci := 6) rfl eo16 wc_X6_meaning wm_X6_93 wi_X6_meaning ws_X6_meaning wz_X6 hy_X6_meaning ⟨(Nat.le_of_ble_eq_true rfl), (Nat.le_of_ble_eq_true rfl)⟩ ⟨(Nat.le_refl _), (Nat.le_refl _)⟩ (Nat.le_of_ble_eq_true rfl) rfl dX6_sightLine_16 ?_
    obtain ⟨eo19, hs⟩ := kO_at hs
    obtain ⟨x19, h19, e19, hs⟩ := cI_at hs
    refine ev_callVN C (T_X2_addName _ _ _ _ _ _ e19) (ci := 2) rfl eo19 wc_X2_addName wn_X6_107 wi_X2_addName ws_X2_addName wz_X2 hy_X2_addName ⟨(Nat.le_of_ble_eq_true rfl), (Nat.le_of_ble_eq_true rfl)⟩ ⟨(Nat.le_refl _), (Nat.le_refl _)⟩ (Nat.le_of_ble_eq_true rfl) rfl dX6_sightLine_19 ?_
    refine ev_getsBASEN C wg_X6_61 dX6_sightLine_22 ?_
    refine ev_iconst C (v := 4) dX6_sightLine_25 (by decide) ?_
    obtain ⟨x26, e26, hs⟩ := aB hs
    refine ev_iald C e26 dX6_sightLine_26 ?_
    refine ev_isub C dX6_sightLine_27 ?_
    refine ev_istore_n C (by decide) dX6_sightLine_28 ?_
    refine ev_aload_n C (x := .ref o) rfl trivial dX6_sightLine_29 ?_
    refine ev_dup C rfl dX6_sightLine_30 ?_
    obtain ⟨x31, e31, hs⟩ := aB hs
    refine ev_get C (ci := 6) (k := 2) rfl wu_6 (by decide) wf_X6_75 (gI_F e31) dX6_sightLine_31 ?_
    refine ev_iconst C (v := 1) dX6_sightLine_34 (by decide) ?_
    refine ev_iadd C dX6_sightLine_35 ?_
    obtain ⟨h36, e36, hs⟩ := aB hs
    refine ev_put C (ci := 6) (k := 2) rfl wu_6 (by decide) tyX6 tyX6_ok nmX6 wf_X6_75 rfl trivial e36 dX6_sightLine_36 ?_
    refine ev_aload_n C (x := .ref o) rfl trivial dX6_sightLine_39 ?_
    obtain ⟨x40, e40, hs⟩ := aB hs
    refine ev_get C (ci := 6) (k := 6) rfl wu_6 (by decide) wf_X6_28 (gO_F e40) dX6_sightLine_40 ?_
    obtain ⟨x43, e43, hs⟩ := aB hs
    refine ev_getN C (ci := 0) (k := 0) rfl wu_0 (by decide) wg_X6_126 (gI_F e43) dX6_sightLine_43 ?_
    refine ev_istore_n C (by decide) dX6_sightLine_46 ?_
    refine ev_aload_n C (x := .ref o) rfl trivial dX6_sightLine_47 ?_
    refine ev_bipush C (v := 61) dX6_sightLine_48 (by decide) ?_
    obtain ⟨eo50, hs⟩ := kO_at hs
    obtain ⟨x50, h50, e50, hs⟩ := cI_at hs
    refine ev_callV C (T_X6_pass _ _ _ _ _ e50) (ci := 6) rfl eo50 wc_X6_pass wm_X6_55 wi_X6_pass ws_X6_pass wz_X6 hy_X6_pass ⟨(Nat.le_of_ble_eq_true rfl), (Nat.le_of_ble_eq_true rfl)⟩ ⟨(Nat.le_refl _), (Nat.le_refl _)⟩ (Nat.le_of_ble_eq_true rfl) rfl dX6_sightLine_50 ?_
    refine ev_if_eq C (tgt := 63) (by decide) dX6_sightLine_53 (fun q53 => ?_) (fun q53 => ?_)
    · replace hs := (if_pos q53).symm.trans hs
      refine ev_iconst C (v := 0) dX6_sightLine_63 (by decide) ?_
      obtain ⟨hz, rfl, rfl⟩ := rtZ_at hs
      exact ev_zret C rfl hz rfl (Nat.le_refl _) (Nat.le_refl _) rfl dX6_sightLine_64
    · replace hs := (if_neg q53).symm.trans hs
      refine ev_aload_n C (x := .ref o) rfl trivial dX6_sightLine_56 ?_
      obtain ⟨eo57, hs⟩ := kO_at hs
      obtain ⟨x57, h57, e57, hs⟩ := cI_at hs
      refine ev_callV C (T_X6_sum _ _ _ _ e57) (ci := 6) rfl eo57 wc_X6_sum wm_X6_68 wi_X6_sum ws_X6_sum wz_X6 hy_X6_sum ⟨(Nat.le_of_ble_eq_true rfl), (Nat.le_of_ble_eq_true rfl)⟩ ⟨(Nat.le_refl _), (Nat.le_refl _)⟩ (Nat.le_of_ble_eq_true rfl) rfl dX6_sightLine_57 ?_
      refine ev_if_ne C (tgt := 65) (by decide) dX6_sightLine_60 (fun q60 => ?_) (fun q60 => ?_)
      · replace hs := (if_neg q60).symm.trans hs
        refine ev_aload_n C (x := .ref o) rfl trivial dX6_sightLine_65 ?_
        obtain ⟨x66, e66, hs⟩ := aB hs
        refine ev_get C (ci := 6) (k := 5) rfl wu_6 (by decide) wf_X6_18 (gO_F e66) dX6_sightLine_66 ?_
        obtain ⟨x69, e69, hs⟩ := aB hs
        refine ev_getN C (ci := 2) (k := 10) rfl wu_2 (by decide) wg_X6_129 (gO_F e69) dX6_sightLine_69 ?_
        refine ev_iload_n C rfl dX6_sightLine_72 ?_
        refine ev_iload_n C rfl dX6_sightLine_73 ?_
        obtain ⟨h74, e74, hs⟩ := aB hs
        refine ev_iast C e74 dX6_sightLine_74 ?_
        refine ev_aload_n C (x := .ref o) rfl trivial dX6_sightLine_75 ?_
        obtain ⟨x76, e76, hs⟩ := aB hs
        refine ev_get C (ci := 6) (k := 5) rfl wu_6 (by decide) wf_X6_18 (gO_F e76) dX6_sightLine_76 ?_
        obtain ⟨x79, e79, hs⟩ := aB hs
        refine ev_getN C (ci := 2) (k := 11) rfl wu_2 (by decide) wg_X6_132 (gO_F e79) dX6_sightLine_79 ?_
        refine ev_iload_n C rfl dX6_sightLine_82 ?_
        refine ev_aload_n C (x := .ref o) rfl trivial dX6_sightLine_83 ?_
        obtain ⟨x84, e84, hs⟩ := aB hs
        refine ev_get C (ci := 6) (k := 6) rfl wu_6 (by decide) wf_X6_28 (gO_F e84) dX6_sightLine_84 ?_
        obtain ⟨x87, e87, hs⟩ := aB hs
        refine ev_getN C (ci := 0) (k := 0) rfl wu_0 (by decide) wg_X6_126 (gI_F e87) dX6_sightLine_87 ?_
        obtain ⟨h90, e90, hs⟩ := aB hs
        refine ev_iast C e90 dX6_sightLine_90 ?_
        refine ev_iconst C (v := 1) dX6_sightLine_91 (by decide) ?_
        obtain ⟨hz, rfl, rfl⟩ := rtZ_at hs
        exact ev_zret C rfl hz rfl (Nat.le_refl _) (Nat.le_refl _) rfl dX6_sightLine_92
      · replace hs := (if_pos q60).symm.trans hs
        refine ev_iconst C (v := 0) dX6_sightLine_63 (by decide) ?_
        obtain ⟨hz, rfl, rfl⟩ := rtZ_at hs
        exact ev_zret C rfl hz rfl (Nat.le_refl _) (Nat.le_refl _) rfl dX6_sightLine_64
  · replace hs := (if_pos q5).symm.trans hs
    refine ev_iconst C (v := 0) dX6_sightLine_8 (by decide) ?_
    obtain ⟨hz, rfl, rfl⟩ := rtZ_at hs
    exact ev_zret C rfl hz rfl (Nat.le_refl _) (Nat.le_refl _) rfl dX6_sightLine_9
end
-- X6_integer
theorem dX6_integer_0 : decode cX6_integer 0 = .ok (.aload_n 0, 1) := by decide +kernel
theorem dX6_integer_1 : decode cX6_integer 1 = .ok (.invokevirtual 44, 3) := by decide +kernel
theorem dX6_integer_4 : decode cX6_integer 4 = .ok (.bipush 45, 2) := by decide +kernel
theorem dX6_integer_6 : decode cX6_integer 6 = .ok (.if_icmp .ne 7, 3) := by decide +kernel
theorem dX6_integer_9 : decode cX6_integer 9 = .ok (.iconst 1, 1) := by decide +kernel
theorem dX6_integer_10 : decode cX6_integer 10 = .ok (.goto 4, 3) := by decide +kernel
theorem dX6_integer_13 : decode cX6_integer 13 = .ok (.iconst 0, 1) := by decide +kernel
theorem dX6_integer_14 : decode cX6_integer 14 = .ok (.istore_n 1, 1) := by decide +kernel
theorem dX6_integer_15 : decode cX6_integer 15 = .ok (.iload_n 1, 1) := by decide +kernel
theorem dX6_integer_16 : decode cX6_integer 16 = .ok (.ifCond .eq 13, 3) := by decide +kernel
theorem dX6_integer_19 : decode cX6_integer 19 = .ok (.aload_n 0, 1) := by decide +kernel
theorem dX6_integer_20 : decode cX6_integer 20 = .ok (.dup, 1) := by decide +kernel
theorem dX6_integer_21 : decode cX6_integer 21 = .ok (.getfield 75, 3) := by decide +kernel
theorem dX6_integer_24 : decode cX6_integer 24 = .ok (.iconst 1, 1) := by decide +kernel
theorem dX6_integer_25 : decode cX6_integer 25 = .ok (.iadd, 1) := by decide +kernel
theorem dX6_integer_26 : decode cX6_integer 26 = .ok (.putfield 75, 3) := by decide +kernel
theorem dX6_integer_29 : decode cX6_integer 29 = .ok (.aload_n 0, 1) := by decide +kernel
theorem dX6_integer_30 : decode cX6_integer 30 = .ok (.invokevirtual 44, 3) := by decide +kernel
theorem dX6_integer_33 : decode cX6_integer 33 = .ok (.iconst 2, 1) := by decide +kernel
theorem dX6_integer_34 : decode cX6_integer 34 = .ok (.if_icmp .eq 9, 3) := by decide +kernel
theorem dX6_integer_37 : decode cX6_integer 37 = .ok (.aload_n 0, 1) := by decide +kernel
theorem dX6_integer_38 : decode cX6_integer 38 = .ok (.iconst 1, 1) := by decide +kernel
theorem dX6_integer_39 : decode cX6_integer 39 = .ok (.invokevirtual 51, 3) := by decide +kernel
theorem dX6_integer_42 : decode cX6_integer 42 = .ok (.ireturn, 1) := by decide +kernel
theorem dX6_integer_43 : decode cX6_integer 43 = .ok (.aload_n 0, 1) := by decide +kernel
theorem dX6_integer_44 : decode cX6_integer 44 = .ok (.iload_n 1, 1) := by decide +kernel
theorem dX6_integer_45 : decode cX6_integer 45 = .ok (.ifCond .eq 11, 3) := by decide +kernel
theorem dX6_integer_48 : decode cX6_integer 48 = .ok (.aload_n 0, 1) := by decide +kernel
theorem dX6_integer_49 : decode cX6_integer 49 = .ok (.invokevirtual 93, 3) := by decide +kernel
theorem dX6_integer_52 : decode cX6_integer 52 = .ok (.lneg, 1) := by decide +kernel
theorem dX6_integer_53 : decode cX6_integer 53 = .ok (.goto 7, 3) := by decide +kernel
theorem dX6_integer_56 : decode cX6_integer 56 = .ok (.aload_n 0, 1) := by decide +kernel
theorem dX6_integer_57 : decode cX6_integer 57 = .ok (.invokevirtual 93, 3) := by decide +kernel
theorem dX6_integer_60 : decode cX6_integer 60 = .ok (.l2i, 1) := by decide +kernel
theorem dX6_integer_61 : decode cX6_integer 61 = .ok (.putfield 114, 3) := by decide +kernel
theorem dX6_integer_64 : decode cX6_integer 64 = .ok (.aload_n 0, 1) := by decide +kernel
theorem dX6_integer_65 : decode cX6_integer 65 = .ok (.dup, 1) := by decide +kernel
theorem dX6_integer_66 : decode cX6_integer 66 = .ok (.getfield 75, 3) := by decide +kernel
theorem dX6_integer_69 : decode cX6_integer 69 = .ok (.iconst 1, 1) := by decide +kernel
theorem dX6_integer_70 : decode cX6_integer 70 = .ok (.iadd, 1) := by decide +kernel
theorem dX6_integer_71 : decode cX6_integer 71 = .ok (.putfield 75, 3) := by decide +kernel
theorem dX6_integer_74 : decode cX6_integer 74 = .ok (.iconst 1, 1) := by decide +kernel
theorem dX6_integer_75 : decode cX6_integer 75 = .ok (.ireturn, 1) := by decide +kernel
def s_X6_integer_60  (l0 : Nat) (s0 : Int64) (s1 : Nat) (h : aH) : aO :=
  (pF h (.ref s1) 6 3 (.int s0.toInt32)).bind fun h61 => (gI h61 (.ref l0) 6 2).bind fun x66 => (pF h61 (.ref l0) 6 2 (.int (x66 + 1))).bind fun h71 => rtZ 1 h71
def s_X6_integer_29  (l0 : Nat) (l1 : Int32) (h : aH) : aO :=
  kO h l0 6 (cI (s_X6_kind l0 h) fun x30 h30 => if x30 = 2 then (if l1 = 0 then (kO h30 l0 6 (cJ (s_X6_meaning l0 h30) fun x57 h57 => s_X6_integer_60 l0 x57 l0 h57)) else (kO h30 l0 6 (cJ (s_X6_meaning l0 h30) fun x49 h49 => s_X6_integer_60 l0 (-x49) l0 h49))) else (kO h30 l0 6 (cI (s_X6_fail l0 1 h30) fun x39 h39 => rtZ x39 h39)))
def s_X6_integer_14  (l0 : Nat) (s0 : Int32) (h : aH) : aO :=
  if s0 = 0 then (s_X6_integer_29 l0 s0 h) else ((gI h (.ref l0) 6 2).bind fun x21 => (pF h (.ref l0) 6 2 (.int (x21 + 1))).bind fun h26 => s_X6_integer_29 l0 s0 h26)
def s_X6_integer (o : Nat) (h : aH) : aO :=
  kO h o 6 (cI (s_X6_kind o h) fun x1 h1 => if x1 = 45 then (s_X6_integer_14 o 1 h1) else (s_X6_integer_14 o 0 h1))
section
variable {p : Program} {l : Launch} {e : Env} {s : State} {m : MethodId} {args : Array Value} {below : List Frame} {meth : Method} {c : Code} {D : va_G} {B0 : Nat} {X : Nat → Nat} {ws0 : va_W} {r : aR} {h' : aH} {mc ms : Nat}
theorem t_X6_integer_60 (C : Cx p l s m args meth c B0 X RX6 "integer" cX6_integer 2 (some .boolean) [])   {l0 : Nat} {s0 : Int64} {s1 : Nat} {h : aH} (hs : s_X6_integer_60  l0 s0 s1 h = some (r, h')) : Ev p l e { frames := 1, cells := mc, slots := ms, locals := 21 } s m args below meth c D B0 X ws0 r h' mc ms 2 mc ms 60 [some (.ref l0), none] [.long s0, .ref s1] h := by
  unfold s_X6_integer_60 at hs
  refine ev_l2i C dX6_integer_60 ?_
  obtain ⟨h61, e61, hs⟩ := aB hs
  refine ev_put C (ci := 6) (k := 3) rfl wu_6 (by decide) tyX6 tyX6_ok nmX6 wf_X6_114 rfl trivial e61 dX6_integer_61 ?_
  refine ev_aload_n C (x := .ref l0) rfl trivial dX6_integer_64 ?_
  refine ev_dup C rfl dX6_integer_65 ?_
  obtain ⟨x66, e66, hs⟩ := aB hs
  refine ev_get C (ci := 6) (k := 2) rfl wu_6 (by decide) wf_X6_75 (gI_F e66) dX6_integer_66 ?_
  refine ev_iconst C (v := 1) dX6_integer_69 (by decide) ?_
  refine ev_iadd C dX6_integer_70 ?_
  obtain ⟨h71, e71, hs⟩ := aB hs
  refine ev_put C (ci := 6) (k := 2) rfl wu_6 (by decide) tyX6 tyX6_ok nmX6 wf_X6_75 rfl trivial e71 dX6_integer_71 ?_
  refine ev_iconst C (v := 1) dX6_integer_74 (by decide) ?_
  obtain ⟨hz, rfl, rfl⟩ := rtZ_at hs
  exact ev_zret C rfl hz rfl (Nat.le_refl _) (Nat.le_refl _) rfl dX6_integer_75
theorem t_X6_integer_29 (C : Cx p l s m args meth c B0 X RX6 "integer" cX6_integer 2 (some .boolean) [])   {l0 : Nat} {l1 : Int32} {h : aH} (hs : s_X6_integer_29  l0 l1 h = some (r, h')) : Ev p l e { frames := 1, cells := mc, slots := ms, locals := 21 } s m args below meth c D B0 X ws0 r h' mc ms 2 mc ms 29 [some (.ref l0), some (.int l1)] [] h := by
  unfold s_X6_integer_29 at hs
  refine ev_aload_n C (x := .ref l0) rfl trivial dX6_integer_29 ?_
  obtain ⟨eo30, hs⟩ := kO_at hs
  obtain ⟨x30, h30, e30, hs⟩ := cI_at hs
  refine ev_callV C (T_X6_kind _ _ _ _ e30) (ci := 6) rfl eo30 wc_X6_kind wm_X6_44 wi_X6_kind ws_X6_kind wz_X6 hy_X6_kind ⟨(Nat.le_of_ble_eq_true rfl), (Nat.le_of_ble_eq_true rfl)⟩ ⟨(Nat.le_refl _), (Nat.le_refl _)⟩ (Nat.le_of_ble_eq_true rfl) rfl dX6_integer_30 ?_
  refine ev_iconst C (v := 2) dX6_integer_33 (by decide) ?_
  refine ev_icmp_eq C (tgt := 43) (by decide) dX6_integer_34 (fun q34 => ?_) (fun q34 => ?_)
  · replace hs := (if_pos q34).symm.trans hs
    refine ev_aload_n C (x := .ref l0) rfl trivial dX6_integer_43 ?_
    refine ev_iload_n C rfl dX6_integer_44 ?_
    refine ev_if_eq C (tgt := 56) (by decide) dX6_integer_45 (fun q45 => ?_) (fun q45 => ?_)
    · replace hs := (if_pos q45).symm.trans hs
      refine ev_aload_n C (x := .ref l0) rfl trivial dX6_integer_56 ?_
      obtain ⟨eo57, hs⟩ := kO_at hs
      obtain ⟨x57, h57, e57, hs⟩ := cJ_at hs
      refine ev_callV C (T_X6_meaning _ _ _ _ e57) (ci := 6) rfl eo57 wc_X6_meaning wm_X6_93 wi_X6_meaning ws_X6_meaning wz_X6 hy_X6_meaning ⟨(Nat.le_of_ble_eq_true rfl), (Nat.le_of_ble_eq_true rfl)⟩ ⟨(Nat.le_refl _), (Nat.le_refl _)⟩ (Nat.le_of_ble_eq_true rfl) rfl dX6_integer_57 ?_
      exact Ev.keep [true, false] (t_X6_integer_60 C  hs)
    · replace hs := (if_neg q45).symm.trans hs
      refine ev_aload_n C (x := .ref l0) rfl trivial dX6_integer_48 ?_
      obtain ⟨eo49, hs⟩ := kO_at hs
      obtain ⟨x49, h49, e49, hs⟩ := cJ_at hs
      refine ev_callV C (T_X6_meaning _ _ _ _ e49) (ci := 6) rfl eo49 wc_X6_meaning wm_X6_93 wi_X6_meaning ws_X6_meaning wz_X6 hy_X6_meaning ⟨(Nat.le_of_ble_eq_true rfl), (Nat.le_of_ble_eq_true rfl)⟩ ⟨(Nat.le_refl _), (Nat.le_refl _)⟩ (Nat.le_of_ble_eq_true rfl) rfl dX6_integer_49 ?_
      refine ev_lneg C dX6_integer_52 ?_
      refine ev_goto C (tgt := 60) (by decide) dX6_integer_53 ?_
      exact Ev.keep [true, false] (t_X6_integer_60 C  hs)
  · replace hs := (if_neg q34).symm.trans hs
    refine ev_aload_n C (x := .ref l0) rfl trivial dX6_integer_37 ?_
    refine ev_iconst C (v := 1) dX6_integer_38 (by decide) ?_
    obtain ⟨eo39, hs⟩ := kO_at hs
    obtain ⟨x39, h39, e39, hs⟩ := cI_at hs
    refine ev_callV C (T_X6_fail _ _ _ _ _ e39) (ci := 6) rfl eo39 wc_X6_fail wm_X6_51 wi_X6_fail ws_X6_fail wz_X6 hy_X6_fail ⟨(Nat.le_of_ble_eq_true rfl), (Nat.le_of_ble_eq_true rfl)⟩ ⟨(Nat.le_refl _), (Nat.le_refl _)⟩ (Nat.le_of_ble_eq_true rfl) rfl dX6_integer_39 ?_
    obtain ⟨hz, rfl, rfl⟩ := rtZ_at hs
    exact ev_zret C rfl hz rfl (Nat.le_refl _) (Nat.le_refl _) rfl dX6_integer_42
theorem t_X6_integer_14 (C : Cx p l s m args meth c B0 X RX6 "integer" cX6_integer 2 (some .boolean) [])   {l0 : Nat} {s0 : Int32} {h : aH} (hs : s_X6_integer_14  l0 s0 h = some (r, h')) : Ev p l e { frames := 1, cells := mc, slots := ms, locals := 21 } s m args below meth c D B0 X ws0 r h' mc ms 2 mc ms 14 [some (.ref l0), none] [.int s0] h := by
  unfold s_X6_integer_14 at hs
  refine ev_istore_n C (by decide) dX6_integer_14 ?_
  refine ev_iload_n C rfl dX6_integer_15 ?_
  refine ev_if_eq C (tgt := 29) (by decide) dX6_integer_16 (fun q16 => ?_) (fun q16 => ?_)
  · replace hs := (if_pos q16).symm.trans hs
    exact (t_X6_integer_29 C  hs)
  · replace hs := (if_neg q16).symm.trans hs
    refine ev_aload_n C (x := .ref l0) rfl trivial dX6_integer_19 ?_
    refine ev_dup C rfl dX6_integer_20 ?_
    obtain ⟨x21, e21, hs⟩ := aB hs
    refine ev_get C (ci := 6) (k := 2) rfl wu_6 (by decide) wf_X6_75 (gI_F e21) dX6_integer_21 ?_
    refine ev_iconst C (v := 1) dX6_integer_24 (by decide) ?_
    refine ev_iadd C dX6_integer_25 ?_
    obtain ⟨h26, e26, hs⟩ := aB hs
    refine ev_put C (ci := 6) (k := 2) rfl wu_6 (by decide) tyX6 tyX6_ok nmX6 wf_X6_75 rfl trivial e26 dX6_integer_26 ?_
    exact (t_X6_integer_29 C  hs)
theorem hy_X6_integer : yX6_integer.cls ≠ "java/lang/invoke/MethodHandle" ∧ yX6_integer.cls ≠ "java/lang/invoke/VarHandle" ∧ (parseMethodDescriptor yX6_integer.desc).map (fun d => d.parameters.length) = some 0 := by decide +kernel
theorem T_X6_integer (o : Nat) (h : aH) (r : aR) (h' : aH) (hs : s_X6_integer o h = some (r, h')) : Mt yX6_integer (Cond.code yX6_integer cX6_integer 2 (some .boolean) :: aTB) 1 21 0 0 [.ref o] h r h' := by
  unfold s_X6_integer at hs
  refine Mt_of (k := 1) (by decide) rfl (fun p l e s m args below meth c D B0 X ws0 C => ?_)
  show Ev p l e { frames := 1, cells := 0, slots := 0, locals := 21 } s m args below meth c D B0 X ws0 r h' 0 0 2 0 0 0 [some (.ref o), none] [] h
  refine ev_aload_n C (x := .ref o) rfl trivial dX6_integer_0 ?_
  obtain ⟨eo1, hs⟩ := kO_at hs
  obtain ⟨x1, h1, e1, hs⟩ := cI_at hs
  refine ev_callV C (T_X6_kind _ _ _ _ e1) (ci := 6) rfl eo1 wc_X6_kind wm_X6_44 wi_X6_kind ws_X6_kind wz_X6 hy_X6_kind ⟨(Nat.le_of_ble_eq_true rfl), (Nat.le_of_ble_eq_true rfl)⟩ ⟨(Nat.le_refl _), (Nat.le_refl _)⟩ (Nat.le_of_ble_eq_true rfl) rfl dX6_integer_1 ?_
  refine ev_bipush C (v := 45) dX6_integer_4 (by decide) ?_
  refine ev_icmp_ne C (tgt := 13) (by decide) dX6_integer_6 (fun q6 => ?_) (fun q6 => ?_)
  · replace hs := (if_neg q6).symm.trans hs
    refine ev_iconst C (v := 0) dX6_integer_13 (by decide) ?_
    exact (t_X6_integer_14 C  hs)
  · replace hs := (if_pos q6).symm.trans hs
    refine ev_iconst C (v := 1) dX6_integer_9 (by decide) ?_
    refine ev_goto C (tgt := 14) (by decide) dX6_integer_10 ?_
    exact (t_X6_integer_14 C  hs)
end
-- X6_isWord
theorem dX6_isWord_0 : decode cX6_isWord 0 = .ok (.aload_n 0, 1) := by decide +kernel
theorem dX6_isWord_1 : decode cX6_isWord 1 = .ok (.invokevirtual 44, 3) := by decide +kernel
theorem dX6_isWord_4 : decode cX6_isWord 4 = .ok (.iconst 1, 1) := by decide +kernel
theorem dX6_isWord_5 : decode cX6_isWord 5 = .ok (.if_icmp .ne 15, 3) := by decide +kernel
theorem dX6_isWord_8 : decode cX6_isWord 8 = .ok (.aload_n 0, 1) := by decide +kernel
theorem dX6_isWord_9 : decode cX6_isWord 9 = .ok (.invokevirtual 84, 3) := by decide +kernel
theorem dX6_isWord_12 : decode cX6_isWord 12 = .ok (.iload_n 1, 1) := by decide +kernel
theorem dX6_isWord_13 : decode cX6_isWord 13 = .ok (.if_icmp .ne 7, 3) := by decide +kernel
theorem dX6_isWord_16 : decode cX6_isWord 16 = .ok (.iconst 1, 1) := by decide +kernel
theorem dX6_isWord_17 : decode cX6_isWord 17 = .ok (.goto 4, 3) := by decide +kernel
theorem dX6_isWord_20 : decode cX6_isWord 20 = .ok (.iconst 0, 1) := by decide +kernel
theorem dX6_isWord_21 : decode cX6_isWord 21 = .ok (.ireturn, 1) := by decide +kernel
def s_X6_isWord (o : Nat) (a1 : Int32) (h : aH) : aO :=
  kO h o 6 (cI (s_X6_kind o h) fun x1 h1 => if x1 = 1 then (kO h1 o 6 (cI (s_X6_reserved o h1) fun x9 h9 => if x9 = a1 then (rtZ 1 h9) else (rtZ 0 h9))) else (rtZ 0 h1))
section
variable {p : Program} {l : Launch} {e : Env} {s : State} {m : MethodId} {args : Array Value} {below : List Frame} {meth : Method} {c : Code} {D : va_G} {B0 : Nat} {X : Nat → Nat} {ws0 : va_W} {r : aR} {h' : aH} {mc ms : Nat}
theorem hy_X6_isWord : yX6_isWord.cls ≠ "java/lang/invoke/MethodHandle" ∧ yX6_isWord.cls ≠ "java/lang/invoke/VarHandle" ∧ (parseMethodDescriptor yX6_isWord.desc).map (fun d => d.parameters.length) = some 1 := by decide +kernel
theorem T_X6_isWord (o : Nat) (a1 : Int32) (h : aH) (r : aR) (h' : aH) (hs : s_X6_isWord o a1 h = some (r, h')) : Mt yX6_isWord (Cond.code yX6_isWord cX6_isWord 2 (some .boolean) :: aTB) 1 23 0 0 [.ref o, .int a1] h r h' := by
  unfold s_X6_isWord at hs
  refine Mt_of (k := 0) (by decide) rfl (fun p l e s m args below meth c D B0 X ws0 C => ?_)
  show Ev p l e { frames := 1, cells := 0, slots := 0, locals := 23 } s m args below meth c D B0 X ws0 r h' 0 0 2 0 0 0 [some (.ref o), some (.int a1)] [] h
  refine ev_aload_n C (x := .ref o) rfl trivial dX6_isWord_0 ?_
  obtain ⟨eo1, hs⟩ := kO_at hs
  obtain ⟨x1, h1, e1, hs⟩ := cI_at hs
  refine ev_callV C (T_X6_kind _ _ _ _ e1) (ci := 6) rfl eo1 wc_X6_kind wm_X6_44 wi_X6_kind ws_X6_kind wz_X6 hy_X6_kind ⟨(Nat.le_of_ble_eq_true rfl), (Nat.le_of_ble_eq_true rfl)⟩ ⟨(Nat.le_refl _), (Nat.le_refl _)⟩ (Nat.le_of_ble_eq_true rfl) rfl dX6_isWord_1 ?_
  refine ev_iconst C (v := 1) dX6_isWord_4 (by decide) ?_
  refine ev_icmp_ne C (tgt := 20) (by decide) dX6_isWord_5 (fun q5 => ?_) (fun q5 => ?_)
  · replace hs := (if_neg q5).symm.trans hs
    refine ev_iconst C (v := 0) dX6_isWord_20 (by decide) ?_
    obtain ⟨hz, rfl, rfl⟩ := rtZ_at hs
    exact ev_zret C rfl hz rfl (Nat.le_refl _) (Nat.le_refl _) rfl dX6_isWord_21
  · replace hs := (if_pos q5).symm.trans hs
    refine ev_aload_n C (x := .ref o) rfl trivial dX6_isWord_8 ?_
    obtain ⟨eo9, hs⟩ := kO_at hs
    obtain ⟨x9, h9, e9, hs⟩ := cI_at hs
    refine ev_callV C (T_X6_reserved _ _ _ _ e9) (ci := 6) rfl eo9 wc_X6_reserved wm_X6_84 wi_X6_reserved ws_X6_reserved wz_X6 hy_X6_reserved ⟨(Nat.le_of_ble_eq_true rfl), (Nat.le_of_ble_eq_true rfl)⟩ ⟨(Nat.le_refl _), (Nat.le_refl _)⟩ (Nat.le_of_ble_eq_true rfl) rfl dX6_isWord_9 ?_
    refine ev_iload_n C rfl dX6_isWord_12 ?_
    refine ev_icmp_ne C (tgt := 20) (by decide) dX6_isWord_13 (fun q13 => ?_) (fun q13 => ?_)
    · replace hs := (if_neg q13).symm.trans hs
      refine ev_iconst C (v := 0) dX6_isWord_20 (by decide) ?_
      obtain ⟨hz, rfl, rfl⟩ := rtZ_at hs
      exact ev_zret C rfl hz rfl (Nat.le_refl _) (Nat.le_refl _) rfl dX6_isWord_21
    · replace hs := (if_pos q13).symm.trans hs
      refine ev_iconst C (v := 1) dX6_isWord_16 (by decide) ?_
      refine ev_goto C (tgt := 21) (by decide) dX6_isWord_17 ?_
      obtain ⟨hz, rfl, rfl⟩ := rtZ_at hs
      exact ev_zret C rfl hz rfl (Nat.le_refl _) (Nat.le_refl _) rfl dX6_isWord_21
end
-- X6_spanLine
theorem dX6_spanLine_0 : decode cX6_spanLine 0 = .ok (.aload_n 0, 1) := by decide +kernel
theorem dX6_spanLine_1 : decode cX6_spanLine 1 = .ok (.iload_n 1, 1) := by decide +kernel
theorem dX6_spanLine_2 : decode cX6_spanLine 2 = .ok (.invokevirtual 104, 3) := by decide +kernel
theorem dX6_spanLine_5 : decode cX6_spanLine 5 = .ok (.ifCond .ne 5, 3) := by decide +kernel
theorem dX6_spanLine_8 : decode cX6_spanLine 8 = .ok (.iconst 0, 1) := by decide +kernel
theorem dX6_spanLine_9 : decode cX6_spanLine 9 = .ok (.ireturn, 1) := by decide +kernel
theorem dX6_spanLine_10 : decode cX6_spanLine 10 = .ok (.aload_n 0, 1) := by decide +kernel
theorem dX6_spanLine_11 : decode cX6_spanLine 11 = .ok (.getfield 18, 3) := by decide +kernel
theorem dX6_spanLine_14 : decode cX6_spanLine 14 = .ok (.iload_n 1, 1) := by decide +kernel
theorem dX6_spanLine_15 : decode cX6_spanLine 15 = .ok (.aload_n 0, 1) := by decide +kernel
theorem dX6_spanLine_16 : decode cX6_spanLine 16 = .ok (.invokevirtual 93, 3) := by decide +kernel
theorem dX6_spanLine_19 : decode cX6_spanLine 19 = .ok (.invokevirtual 107, 3) := by decide +kernel
theorem dX6_spanLine_22 : decode cX6_spanLine 22 = .ok (.istore_n 2, 1) := by decide +kernel
theorem dX6_spanLine_23 : decode cX6_spanLine 23 = .ok (.aload_n 0, 1) := by decide +kernel
theorem dX6_spanLine_24 : decode cX6_spanLine 24 = .ok (.dup, 1) := by decide +kernel
theorem dX6_spanLine_25 : decode cX6_spanLine 25 = .ok (.getfield 75, 3) := by decide +kernel
theorem dX6_spanLine_28 : decode cX6_spanLine 28 = .ok (.iconst 1, 1) := by decide +kernel
theorem dX6_spanLine_29 : decode cX6_spanLine 29 = .ok (.iadd, 1) := by decide +kernel
theorem dX6_spanLine_30 : decode cX6_spanLine 30 = .ok (.putfield 75, 3) := by decide +kernel
theorem dX6_spanLine_33 : decode cX6_spanLine 33 = .ok (.aload_n 0, 1) := by decide +kernel
theorem dX6_spanLine_34 : decode cX6_spanLine 34 = .ok (.invokevirtual 111, 3) := by decide +kernel
theorem dX6_spanLine_37 : decode cX6_spanLine 37 = .ok (.ifCond .ne 5, 3) := by decide +kernel
theorem dX6_spanLine_40 : decode cX6_spanLine 40 = .ok (.iconst 0, 1) := by decide +kernel
theorem dX6_spanLine_41 : decode cX6_spanLine 41 = .ok (.ireturn, 1) := by decide +kernel
theorem dX6_spanLine_42 : decode cX6_spanLine 42 = .ok (.aload_n 0, 1) := by decide +kernel
theorem dX6_spanLine_43 : decode cX6_spanLine 43 = .ok (.getfield 114, 3) := by decide +kernel
theorem dX6_spanLine_46 : decode cX6_spanLine 46 = .ok (.istore_n 3, 1) := by decide +kernel
theorem dX6_spanLine_47 : decode cX6_spanLine 47 = .ok (.aload_n 0, 1) := by decide +kernel
theorem dX6_spanLine_48 : decode cX6_spanLine 48 = .ok (.iconst 5, 1) := by decide +kernel
theorem dX6_spanLine_49 : decode cX6_spanLine 49 = .ok (.invokevirtual 117, 3) := by decide +kernel
theorem dX6_spanLine_52 : decode cX6_spanLine 52 = .ok (.ifCond .ne 9, 3) := by decide +kernel
theorem dX6_spanLine_55 : decode cX6_spanLine 55 = .ok (.aload_n 0, 1) := by decide +kernel
theorem dX6_spanLine_56 : decode cX6_spanLine 56 = .ok (.iconst 1, 1) := by decide +kernel
theorem dX6_spanLine_57 : decode cX6_spanLine 57 = .ok (.invokevirtual 51, 3) := by decide +kernel
theorem dX6_spanLine_60 : decode cX6_spanLine 60 = .ok (.ireturn, 1) := by decide +kernel
theorem dX6_spanLine_61 : decode cX6_spanLine 61 = .ok (.aload_n 0, 1) := by decide +kernel
theorem dX6_spanLine_62 : decode cX6_spanLine 62 = .ok (.getfield 75, 3) := by decide +kernel
theorem dX6_spanLine_65 : decode cX6_spanLine 65 = .ok (.istore 4, 2) := by decide +kernel
theorem dX6_spanLine_67 : decode cX6_spanLine 67 = .ok (.iload_n 3, 1) := by decide +kernel
theorem dX6_spanLine_68 : decode cX6_spanLine 68 = .ok (.bipush (-20), 2) := by decide +kernel
theorem dX6_spanLine_70 : decode cX6_spanLine 70 = .ok (.if_icmp .lt 9, 3) := by decide +kernel
theorem dX6_spanLine_73 : decode cX6_spanLine 73 = .ok (.iload_n 3, 1) := by decide +kernel
theorem dX6_spanLine_74 : decode cX6_spanLine 74 = .ok (.bipush 20, 2) := by decide +kernel
theorem dX6_spanLine_76 : decode cX6_spanLine 76 = .ok (.if_icmp .le 9, 3) := by decide +kernel
theorem dX6_spanLine_79 : decode cX6_spanLine 79 = .ok (.aload_n 0, 1) := by decide +kernel
theorem dX6_spanLine_80 : decode cX6_spanLine 80 = .ok (.iconst 4, 1) := by decide +kernel
theorem dX6_spanLine_81 : decode cX6_spanLine 81 = .ok (.invokevirtual 51, 3) := by decide +kernel
theorem dX6_spanLine_84 : decode cX6_spanLine 84 = .ok (.ireturn, 1) := by decide +kernel
theorem dX6_spanLine_85 : decode cX6_spanLine 85 = .ok (.aload_n 0, 1) := by decide +kernel
theorem dX6_spanLine_86 : decode cX6_spanLine 86 = .ok (.dup, 1) := by decide +kernel
theorem dX6_spanLine_87 : decode cX6_spanLine 87 = .ok (.getfield 75, 3) := by decide +kernel
theorem dX6_spanLine_90 : decode cX6_spanLine 90 = .ok (.iconst 1, 1) := by decide +kernel
theorem dX6_spanLine_91 : decode cX6_spanLine 91 = .ok (.iadd, 1) := by decide +kernel
theorem dX6_spanLine_92 : decode cX6_spanLine 92 = .ok (.putfield 75, 3) := by decide +kernel
theorem dX6_spanLine_95 : decode cX6_spanLine 95 = .ok (.aload_n 0, 1) := by decide +kernel
theorem dX6_spanLine_96 : decode cX6_spanLine 96 = .ok (.invokevirtual 111, 3) := by decide +kernel
theorem dX6_spanLine_99 : decode cX6_spanLine 99 = .ok (.ifCond .ne 5, 3) := by decide +kernel
theorem dX6_spanLine_102 : decode cX6_spanLine 102 = .ok (.iconst 0, 1) := by decide +kernel
theorem dX6_spanLine_103 : decode cX6_spanLine 103 = .ok (.ireturn, 1) := by decide +kernel
theorem dX6_spanLine_104 : decode cX6_spanLine 104 = .ok (.aload_n 0, 1) := by decide +kernel
theorem dX6_spanLine_105 : decode cX6_spanLine 105 = .ok (.getfield 114, 3) := by decide +kernel
theorem dX6_spanLine_108 : decode cX6_spanLine 108 = .ok (.bipush 20, 2) := by decide +kernel
theorem dX6_spanLine_110 : decode cX6_spanLine 110 = .ok (.if_icmp .gt 11, 3) := by decide +kernel
theorem dX6_spanLine_113 : decode cX6_spanLine 113 = .ok (.aload_n 0, 1) := by decide +kernel
theorem dX6_spanLine_114 : decode cX6_spanLine 114 = .ok (.getfield 114, 3) := by decide +kernel
theorem dX6_spanLine_117 : decode cX6_spanLine 117 = .ok (.iload_n 3, 1) := by decide +kernel
theorem dX6_spanLine_118 : decode cX6_spanLine 118 = .ok (.if_icmp .ge 15, 3) := by decide +kernel
theorem dX6_spanLine_121 : decode cX6_spanLine 121 = .ok (.aload_n 0, 1) := by decide +kernel
theorem dX6_spanLine_122 : decode cX6_spanLine 122 = .ok (.iload 4, 2) := by decide +kernel
theorem dX6_spanLine_124 : decode cX6_spanLine 124 = .ok (.putfield 75, 3) := by decide +kernel
theorem dX6_spanLine_127 : decode cX6_spanLine 127 = .ok (.aload_n 0, 1) := by decide +kernel
theorem dX6_spanLine_128 : decode cX6_spanLine 128 = .ok (.iconst 4, 1) := by decide +kernel
theorem dX6_spanLine_129 : decode cX6_spanLine 129 = .ok (.invokevirtual 51, 3) := by decide +kernel
theorem dX6_spanLine_132 : decode cX6_spanLine 132 = .ok (.ireturn, 1) := by decide +kernel
theorem dX6_spanLine_133 : decode cX6_spanLine 133 = .ok (.aload_n 0, 1) := by decide +kernel
theorem dX6_spanLine_134 : decode cX6_spanLine 134 = .ok (.getfield 18, 3) := by decide +kernel
theorem dX6_spanLine_137 : decode cX6_spanLine 137 = .ok (.getfield 120, 3) := by decide +kernel
theorem dX6_spanLine_140 : decode cX6_spanLine 140 = .ok (.iload_n 2, 1) := by decide +kernel
theorem dX6_spanLine_141 : decode cX6_spanLine 141 = .ok (.iload_n 3, 1) := by decide +kernel
theorem dX6_spanLine_142 : decode cX6_spanLine 142 = .ok (.iastore, 1) := by decide +kernel
theorem dX6_spanLine_143 : decode cX6_spanLine 143 = .ok (.aload_n 0, 1) := by decide +kernel
theorem dX6_spanLine_144 : decode cX6_spanLine 144 = .ok (.getfield 18, 3) := by decide +kernel
theorem dX6_spanLine_147 : decode cX6_spanLine 147 = .ok (.getfield 123, 3) := by decide +kernel
theorem dX6_spanLine_150 : decode cX6_spanLine 150 = .ok (.iload_n 2, 1) := by decide +kernel
theorem dX6_spanLine_151 : decode cX6_spanLine 151 = .ok (.aload_n 0, 1) := by decide +kernel
theorem dX6_spanLine_152 : decode cX6_spanLine 152 = .ok (.getfield 114, 3) := by decide +kernel
theorem dX6_spanLine_155 : decode cX6_spanLine 155 = .ok (.iastore, 1) := by decide +kernel
theorem dX6_spanLine_156 : decode cX6_spanLine 156 = .ok (.iconst 1, 1) := by decide +kernel
theorem dX6_spanLine_157 : decode cX6_spanLine 157 = .ok (.ireturn, 1) := by decide +kernel
def s_X6_spanLine_79  (l0 : Nat) (h : aH) : aO :=
  kO h l0 6 (cI (s_X6_fail l0 4 h) fun x81 h81 => rtZ x81 h81)
def s_X6_spanLine_121  (l0 : Nat) (l4 : Int32) (h : aH) : aO :=
  (pF h (.ref l0) 6 2 (.int l4)).bind fun h124 => kO h124 l0 6 (cI (s_X6_fail l0 4 h124) fun x129 h129 => rtZ x129 h129)
def s_X6_spanLine (o : Nat) (a1 : Int32) (h : aH) : aO :=
  kO h o 6 (cI (s_X6_newName o a1 h) fun x2 h2 => if x2 = 0 then (rtZ 0 h2) else ((gO h2 (.ref o) 6 5).bind fun x11 => kO h2 o 6 (cJ (s_X6_meaning o h2) fun x16 h16 => kO h16 x11 2 (cI (s_X2_addName x11 a1 x16 h16) fun x19 h19 => (gI h19 (.ref o) 6 2).bind fun x25 => (pF h19 (.ref o) 6 2 (.int (x25 + 1))).bind fun h30 => kO h30 o 6 (cI (s_X6_integer o h30) fun x34 h34 => if x34 = 0 then (rtZ 0 h34) else ((gI h34 (.ref o) 6 3).bind fun x43 => kO h34 o 6 (cI (s_X6_isWord o 5 h34) fun x49 h49 => if x49 = 0 then (kO h49 o 6 (cI (s_X6_fail o 1 h49) fun x57 h57 => rtZ x57 h57)) else ((gI h49 (.ref o) 6 2).bind fun x62 => if x43 < (-20) then (s_X6_spanLine_79 o h49) else (if x43 ≤ 20 then ((gI h49 (.ref o) 6 2).bind fun x87 => (pF h49 (.ref o) 6 2 (.int (x87 + 1))).bind fun h92 => kO h92 o 6 (cI (s_X6_integer o h92) fun x96 h96 => if x96 = 0 then (rtZ 0 h96) else ((gI h96 (.ref o) 6 3).bind fun x105 => if 20 < x105 then (s_X6_spanLine_121 o x62 h96) else ((gI h96 (.ref o) 6 3).bind fun x114 => if x43 ≤ x114 then ((gO h96 (.ref o) 6 5).bind fun x134 => (gO h96 (.ref x134) 2 2).bind fun x137 => (stI h96 (.ref x137) x19 x43).bind fun h142 => (gO h142 (.ref o) 6 5).bind fun x144 => (gO h142 (.ref x144) 2 3).bind fun x147 => (gI h142 (.ref o) 6 3).bind fun x152 => (stI h142 (.ref x147) x19 x152).bind fun h155 => rtZ 1 h155) else (s_X6_spanLine_121 o x62 h96))))) else (s_X6_spanLine_79 o h49))))))))))
section
variable {p : Program} {l : Launch} {e : Env} {s : State} {m : MethodId} {args : Array Value} {below : List Frame} {meth : Method} {c : Code} {D : va_G} {B0 : Nat} {X : Nat → Nat} {ws0 : va_W} {r : aR} {h' : aH} {mc ms : Nat}
theorem t_X6_spanLine_79 (C : Cx p l s m args meth c B0 X RX6 "spanLine" cX6_spanLine 5 (some .boolean) [])   {l0 : Nat} {h : aH} (hs : s_X6_spanLine_79  l0 h = some (r, h')) : Ev p l e { frames := 2, cells := mc, slots := ms, locals := 45 } s m args below meth c D B0 X ws0 r h' mc ms 5 mc ms 79 [some (.ref l0), none, none, none, none] [] h := by
  unfold s_X6_spanLine_79 at hs
  refine ev_aload_n C (x := .ref l0) rfl trivial dX6_spanLine_79 ?_
  refine ev_iconst C (v := 4) dX6_spanLine_80 (by decide) ?_
  obtain ⟨eo81, hs⟩ := kO_at hs
  obtain ⟨x81, h81, e81, hs⟩ := cI_at hs
  refine ev_callV C (T_X6_fail _ _ _ _ _ e81) (ci := 6) rfl eo81 wc_X6_fail wm_X6_51 wi_X6_fail ws_X6_fail wz_X6 hy_X6_fail ⟨(Nat.le_of_ble_eq_true rfl), (Nat.le_of_ble_eq_true rfl)⟩ ⟨(Nat.le_refl _), (Nat.le_refl _)⟩ (Nat.le_of_ble_eq_true rfl) rfl dX6_spanLine_81 ?_
  obtain ⟨hz, rfl, rfl⟩ := rtZ_at hs
  exact ev_zret C rfl hz rfl (Nat.le_refl _) (Nat.le_refl _) rfl dX6_spanLine_84
theorem t_X6_spanLine_121 (C : Cx p l s m args meth c B0 X RX6 "spanLine" cX6_spanLine 5 (some .boolean) [])   {l0 : Nat} {l4 : Int32} {h : aH} (hs : s_X6_spanLine_121  l0 l4 h = some (r, h')) : Ev p l e { frames := 2, cells := mc, slots := ms, locals := 45 } s m args below meth c D B0 X ws0 r h' mc ms 5 mc ms 121 [some (.ref l0), none, none, none, some (.int l4)] [] h := by
  unfold s_X6_spanLine_121 at hs
  refine ev_aload_n C (x := .ref l0) rfl trivial dX6_spanLine_121 ?_
  refine ev_iload C rfl dX6_spanLine_122 ?_
  obtain ⟨h124, e124, hs⟩ := aB hs
  refine ev_put C (ci := 6) (k := 2) rfl wu_6 (by decide) tyX6 tyX6_ok nmX6 wf_X6_75 rfl trivial e124 dX6_spanLine_124 ?_
  refine ev_aload_n C (x := .ref l0) rfl trivial dX6_spanLine_127 ?_
  refine ev_iconst C (v := 4) dX6_spanLine_128 (by decide) ?_
  obtain ⟨eo129, hs⟩ := kO_at hs
  obtain ⟨x129, h129, e129, hs⟩ := cI_at hs
  refine ev_callV C (T_X6_fail _ _ _ _ _ e129) (ci := 6) rfl eo129 wc_X6_fail wm_X6_51 wi_X6_fail ws_X6_fail wz_X6 hy_X6_fail ⟨(Nat.le_of_ble_eq_true rfl), (Nat.le_of_ble_eq_true rfl)⟩ ⟨(Nat.le_refl _), (Nat.le_refl _)⟩ (Nat.le_of_ble_eq_true rfl) rfl dX6_spanLine_129 ?_
  obtain ⟨hz, rfl, rfl⟩ := rtZ_at hs
  exact ev_zret C rfl hz rfl (Nat.le_refl _) (Nat.le_refl _) rfl dX6_spanLine_132
theorem hy_X6_spanLine : yX6_spanLine.cls ≠ "java/lang/invoke/MethodHandle" ∧ yX6_spanLine.cls ≠ "java/lang/invoke/VarHandle" ∧ (parseMethodDescriptor yX6_spanLine.desc).map (fun d => d.parameters.length) = some 1 := by decide +kernel
theorem T_X6_spanLine (o : Nat) (a1 : Int32) (h : aH) (r : aR) (h' : aH) (hs : s_X6_spanLine o a1 h = some (r, h')) : Mt yX6_spanLine (Cond.code yX6_spanLine cX6_spanLine 5 (some .boolean) :: aTB) 2 45 0 0 [.ref o, .int a1] h r h' := by
  unfold s_X6_spanLine at hs
  refine Mt_of (k := 3) (by decide) rfl (fun p l e s m args below meth c D B0 X ws0 C => ?_)
  show Ev p l e { frames := 2, cells := 0, slots := 0, locals := 45 } s m args below meth c D B0 X ws0 r h' 0 0 5 0 0 0 [some (.ref o), some (.int a1), none, none, none] [] h
  refine ev_aload_n C (x := .ref o) rfl trivial dX6_spanLine_0 ?_
  refine ev_iload_n C rfl dX6_spanLine_1 ?_
  obtain ⟨eo2, hs⟩ := kO_at hs
  obtain ⟨x2, h2, e2, hs⟩ := cI_at hs
  refine ev_callV C (T_X6_newName _ _ _ _ _ e2) (ci := 6) rfl eo2 wc_X6_newName wm_X6_104 wi_X6_newName ws_X6_newName wz_X6 hy_X6_newName ⟨(Nat.le_of_ble_eq_true rfl), (Nat.le_of_ble_eq_true rfl)⟩ ⟨(Nat.le_refl _), (Nat.le_refl _)⟩ (Nat.le_of_ble_eq_true rfl) rfl dX6_spanLine_2 ?_
  refine ev_if_ne C (tgt := 10) (by decide) dX6_spanLine_5 (fun q5 => ?_) (fun q5 => ?_)
  · replace hs := (if_neg q5).symm.trans hs
    refine ev_aload_n C (x := .ref o) rfl trivial dX6_spanLine_10 ?_
    obtain ⟨x11, e11, hs⟩ := aB hs
    refine ev_get C (ci := 6) (k := 5) rfl wu_6 (by decide) wf_X6_18 (gO_F e11) dX6_spanLine_11 ?_
    refine ev_iload_n C rfl dX6_spanLine_14 ?_
    refine ev_aload_n C (x := .ref o) rfl trivial dX6_spanLine_15 ?_
    obtain ⟨eo16, hs⟩ := kO_at hs
    obtain ⟨x16, h16, e16, hs⟩ := cJ_at hs
    refine ev_callV C (T_X6_meaning _ _ _ _ e16) (ci := 6) rfl eo16 wc_X6_meaning wm_X6_93 wi_X6_meaning ws_X6_meaning wz_X6 hy_X6_meaning ⟨(Nat.le_of_ble_eq_true rfl), (Nat.le_of_ble_eq_true rfl)⟩ ⟨(Nat.le_refl _), (Nat.le_refl _)⟩ (Nat.le_of_ble_eq_true rfl) rfl dX6_spanLine_16 ?_
    obtain ⟨eo19, hs⟩ := kO_at hs
    obtain ⟨x19, h19, e19, hs⟩ := cI_at hs
    refine ev_callVN C (T_X2_addName _ _ _ _ _ _ e19) (ci := 2) rfl eo19 wc_X2_addName wn_X6_107 wi_X2_addName ws_X2_addName wz_X2 hy_X2_addName ⟨(Nat.le_of_ble_eq_true rfl), (Nat.le_of_ble_eq_true rfl)⟩ ⟨(Nat.le_refl _), (Nat.le_refl _)⟩ (Nat.le_of_ble_eq_true rfl) rfl dX6_spanLine_19 ?_
    refine ev_istore_n C (by decide) dX6_spanLine_22 ?_
    refine ev_aload_n C (x := .ref o) rfl trivial dX6_spanLine_23 ?_
    refine ev_dup C rfl dX6_spanLine_24 ?_
    obtain ⟨x25, e25, hs⟩ := aB hs
    refine ev_get C (ci := 6) (k := 2) rfl wu_6 (by decide) wf_X6_75 (gI_F e25) dX6_spanLine_25 ?_
    refine ev_iconst C (v := 1) dX6_spanLine_28 (by decide) ?_
    refine ev_iadd C dX6_spanLine_29 ?_
    obtain ⟨h30, e30, hs⟩ := aB hs
    refine ev_put C (ci := 6) (k := 2) rfl wu_6 (by decide) tyX6 tyX6_ok nmX6 wf_X6_75 rfl trivial e30 dX6_spanLine_30 ?_
    refine ev_aload_n C (x := .ref o) rfl trivial dX6_spanLine_33 ?_
    obtain ⟨eo34, hs⟩ := kO_at hs
    obtain ⟨x34, h34, e34, hs⟩ := cI_at hs
    refine ev_callV C (T_X6_integer _ _ _ _ e34) (ci := 6) rfl eo34 wc_X6_integer wm_X6_111 wi_X6_integer ws_X6_integer wz_X6 hy_X6_integer ⟨(Nat.le_of_ble_eq_true rfl), (Nat.le_of_ble_eq_true rfl)⟩ ⟨(Nat.le_refl _), (Nat.le_refl _)⟩ (Nat.le_of_ble_eq_true rfl) rfl dX6_spanLine_34 ?_
    refine ev_if_ne C (tgt := 42) (by decide) dX6_spanLine_37 (fun q37 => ?_) (fun q37 => ?_)
    · replace hs := (if_neg q37).symm.trans hs
      refine ev_aload_n C (x := .ref o) rfl trivial dX6_spanLine_42 ?_
      obtain ⟨x43, e43, hs⟩ := aB hs
      refine ev_get C (ci := 6) (k := 3) rfl wu_6 (by decide) wf_X6_114 (gI_F e43) dX6_spanLine_43 ?_
      refine ev_istore_n C (by decide) dX6_spanLine_46 ?_
      refine ev_aload_n C (x := .ref o) rfl trivial dX6_spanLine_47 ?_
      refine ev_iconst C (v := 5) dX6_spanLine_48 (by decide) ?_
      obtain ⟨eo49, hs⟩ := kO_at hs
      obtain ⟨x49, h49, e49, hs⟩ := cI_at hs
      refine ev_callV C (T_X6_isWord _ _ _ _ _ e49) (ci := 6) rfl eo49 wc_X6_isWord wm_X6_117 wi_X6_isWord ws_X6_isWord wz_X6 hy_X6_isWord ⟨(Nat.le_of_ble_eq_true rfl), (Nat.le_of_ble_eq_true rfl)⟩ ⟨(Nat.le_refl _), (Nat.le_refl _)⟩ (Nat.le_of_ble_eq_true rfl) rfl dX6_spanLine_49 ?_
      refine ev_if_ne C (tgt := 61) (by decide) dX6_spanLine_52 (fun q52 => ?_) (fun q52 => ?_)
      · replace hs := (if_neg q52).symm.trans hs
        refine ev_aload_n C (x := .ref o) rfl trivial dX6_spanLine_61 ?_
        obtain ⟨x62, e62, hs⟩ := aB hs
        refine ev_get C (ci := 6) (k := 2) rfl wu_6 (by decide) wf_X6_75 (gI_F e62) dX6_spanLine_62 ?_
        refine ev_istore C (by decide) dX6_spanLine_65 ?_
        refine ev_iload_n C rfl dX6_spanLine_67 ?_
        refine ev_bipush C (v := (-20)) dX6_spanLine_68 (by decide) ?_
        refine ev_icmp_lt C (tgt := 79) (by decide) dX6_spanLine_70 (fun q70 => ?_) (fun q70 => ?_)
        · replace hs := (if_pos q70).symm.trans hs
          exact Ev.keep [true, false, false, false, false] (t_X6_spanLine_79 C  hs)
        · replace hs := (if_neg q70).symm.trans hs
          refine ev_iload_n C rfl dX6_spanLine_73 ?_
          refine ev_bipush C (v := 20) dX6_spanLine_74 (by decide) ?_
          refine ev_icmp_le C (tgt := 85) (by decide) dX6_spanLine_76 (fun q76 => ?_) (fun q76 => ?_)
          · replace hs := (if_pos q76).symm.trans hs
            refine ev_aload_n C (x := .ref o) rfl trivial dX6_spanLine_85 ?_
            refine ev_dup C rfl dX6_spanLine_86 ?_
            obtain ⟨x87, e87, hs⟩ := aB hs
            refine ev_get C (ci := 6) (k := 2) rfl wu_6 (by decide) wf_X6_75 (gI_F e87) dX6_spanLine_87 ?_
            refine ev_iconst C (v := 1) dX6_spanLine_90 (by decide) ?_
            refine ev_iadd C dX6_spanLine_91 ?_
            obtain ⟨h92, e92, hs⟩ := aB hs
            refine ev_put C (ci := 6) (k := 2) rfl wu_6 (by decide) tyX6 tyX6_ok nmX6 wf_X6_75 rfl trivial e92 dX6_spanLine_92 ?_
            refine ev_aload_n C (x := .ref o) rfl trivial dX6_spanLine_95 ?_
            obtain ⟨eo96, hs⟩ := kO_at hs
            obtain ⟨x96, h96, e96, hs⟩ := cI_at hs
            refine ev_callV C (T_X6_integer _ _ _ _ e96) (ci := 6) rfl eo96 wc_X6_integer wm_X6_111 wi_X6_integer ws_X6_integer wz_X6 hy_X6_integer ⟨(Nat.le_of_ble_eq_true rfl), (Nat.le_of_ble_eq_true rfl)⟩ ⟨(Nat.le_refl _), (Nat.le_refl _)⟩ (Nat.le_of_ble_eq_true rfl) rfl dX6_spanLine_96 ?_
            refine ev_if_ne C (tgt := 104) (by decide) dX6_spanLine_99 (fun q99 => ?_) (fun q99 => ?_)
            · replace hs := (if_neg q99).symm.trans hs
              refine ev_aload_n C (x := .ref o) rfl trivial dX6_spanLine_104 ?_
              obtain ⟨x105, e105, hs⟩ := aB hs
              refine ev_get C (ci := 6) (k := 3) rfl wu_6 (by decide) wf_X6_114 (gI_F e105) dX6_spanLine_105 ?_
              refine ev_bipush C (v := 20) dX6_spanLine_108 (by decide) ?_
              refine ev_icmp_gt C (tgt := 121) (by decide) dX6_spanLine_110 (fun q110 => ?_) (fun q110 => ?_)
              · replace hs := (if_pos q110).symm.trans hs
                exact Ev.keep [true, false, false, false, true] (t_X6_spanLine_121 C  hs)
              · replace hs := (if_neg q110).symm.trans hs
                refine ev_aload_n C (x := .ref o) rfl trivial dX6_spanLine_113 ?_
                obtain ⟨x114, e114, hs⟩ := aB hs
                refine ev_get C (ci := 6) (k := 3) rfl wu_6 (by decide) wf_X6_114 (gI_F e114) dX6_spanLine_114 ?_
                refine ev_iload_n C rfl dX6_spanLine_117 ?_
                refine ev_icmp_ge C (tgt := 133) (by decide) dX6_spanLine_118 (fun q118 => ?_) (fun q118 => ?_)
                · replace hs := (if_pos q118).symm.trans hs
                  refine ev_aload_n C (x := .ref o) rfl trivial dX6_spanLine_133 ?_
                  obtain ⟨x134, e134, hs⟩ := aB hs
                  refine ev_get C (ci := 6) (k := 5) rfl wu_6 (by decide) wf_X6_18 (gO_F e134) dX6_spanLine_134 ?_
                  obtain ⟨x137, e137, hs⟩ := aB hs
                  refine ev_getN C (ci := 2) (k := 2) rfl wu_2 (by decide) wg_X6_120 (gO_F e137) dX6_spanLine_137 ?_
                  refine ev_iload_n C rfl dX6_spanLine_140 ?_
                  refine ev_iload_n C rfl dX6_spanLine_141 ?_
                  obtain ⟨h142, e142, hs⟩ := aB hs
                  refine ev_iast C e142 dX6_spanLine_142 ?_
                  refine ev_aload_n C (x := .ref o) rfl trivial dX6_spanLine_143 ?_
                  obtain ⟨x144, e144, hs⟩ := aB hs
                  refine ev_get C (ci := 6) (k := 5) rfl wu_6 (by decide) wf_X6_18 (gO_F e144) dX6_spanLine_144 ?_
                  obtain ⟨x147, e147, hs⟩ := aB hs
                  refine ev_getN C (ci := 2) (k := 3) rfl wu_2 (by decide) wg_X6_123 (gO_F e147) dX6_spanLine_147 ?_
                  refine ev_iload_n C rfl dX6_spanLine_150 ?_
                  refine ev_aload_n C (x := .ref o) rfl trivial dX6_spanLine_151 ?_
                  obtain ⟨x152, e152, hs⟩ := aB hs
                  refine ev_get C (ci := 6) (k := 3) rfl wu_6 (by decide) wf_X6_114 (gI_F e152) dX6_spanLine_152 ?_
                  obtain ⟨h155, e155, hs⟩ := aB hs
                  refine ev_iast C e155 dX6_spanLine_155 ?_
                  refine ev_iconst C (v := 1) dX6_spanLine_156 (by decide) ?_
                  obtain ⟨hz, rfl, rfl⟩ := rtZ_at hs
                  exact ev_zret C rfl hz rfl (Nat.le_refl _) (Nat.le_refl _) rfl dX6_spanLine_157
                · replace hs := (if_neg q118).symm.trans hs
                  exact Ev.keep [true, false, false, false, true] (t_X6_spanLine_121 C  hs)
            · replace hs := (if_pos q99).symm.trans hs
              refine ev_iconst C (v := 0) dX6_spanLine_102 (by decide) ?_
              obtain ⟨hz, rfl, rfl⟩ := rtZ_at hs
              exact ev_zret C rfl hz rfl (Nat.le_refl _) (Nat.le_refl _) rfl dX6_spanLine_103
          · replace hs := (if_neg q76).symm.trans hs
            exact Ev.keep [true, false, false, false, false] (t_X6_spanLine_79 C  hs)
      · replace hs := (if_pos q52).symm.trans hs
        refine ev_aload_n C (x := .ref o) rfl trivial dX6_spanLine_55 ?_
        refine ev_iconst C (v := 1) dX6_spanLine_56 (by decide) ?_
        obtain ⟨eo57, hs⟩ := kO_at hs
        obtain ⟨x57, h57, e57, hs⟩ := cI_at hs
        refine ev_callV C (T_X6_fail _ _ _ _ _ e57) (ci := 6) rfl eo57 wc_X6_fail wm_X6_51 wi_X6_fail ws_X6_fail wz_X6 hy_X6_fail ⟨(Nat.le_of_ble_eq_true rfl), (Nat.le_of_ble_eq_true rfl)⟩ ⟨(Nat.le_refl _), (Nat.le_refl _)⟩ (Nat.le_of_ble_eq_true rfl) rfl dX6_spanLine_57 ?_
        obtain ⟨hz, rfl, rfl⟩ := rtZ_at hs
        exact ev_zret C rfl hz rfl (Nat.le_refl _) (Nat.le_refl _) rfl dX6_spanLine_60
    · replace hs := (if_pos q37).symm.trans hs
      refine ev_iconst C (v := 0) dX6_spanLine_40 (by decide) ?_
      obtain ⟨hz, rfl, rfl⟩ := rtZ_at hs
      exact ev_zret C rfl hz rfl (Nat.le_refl _) (Nat.le_refl _) rfl dX6_spanLine_41
  · replace hs := (if_pos q5).symm.trans hs
    refine ev_iconst C (v := 0) dX6_spanLine_8 (by decide) ?_
    obtain ⟨hz, rfl, rfl⟩ := rtZ_at hs
    exact ev_zret C rfl hz rfl (Nat.le_refl _) (Nat.le_refl _) rfl dX6_spanLine_9
end
-- X6_test
theorem dX6_test_0 : decode cX6_test 0 = .ok (.iconst 0, 1) := by decide +kernel
theorem dX6_test_1 : decode cX6_test 1 = .ok (.istore_n 1, 1) := by decide +kernel
theorem dX6_test_2 : decode cX6_test 2 = .ok (.iload_n 1, 1) := by decide +kernel
theorem dX6_test_3 : decode cX6_test 3 = .ok (.bipush 30, 2) := by decide +kernel
theorem dX6_test_5 : decode cX6_test 5 = .ok (.if_icmp .gt 118, 3) := by decide +kernel
theorem dX6_test_8 : decode cX6_test 8 = .ok (.aload_n 0, 1) := by decide +kernel
theorem dX6_test_9 : decode cX6_test 9 = .ok (.getfield 28, 3) := by decide +kernel
theorem dX6_test_12 : decode cX6_test 12 = .ok (.getfield 126, 3) := by decide +kernel
theorem dX6_test_15 : decode cX6_test 15 = .ok (.istore_n 2, 1) := by decide +kernel
theorem dX6_test_16 : decode cX6_test 16 = .ok (.aload_n 0, 1) := by decide +kernel
theorem dX6_test_17 : decode cX6_test 17 = .ok (.invokevirtual 68, 3) := by decide +kernel
theorem dX6_test_20 : decode cX6_test 20 = .ok (.ifCond .ne 5, 3) := by decide +kernel
theorem dX6_test_23 : decode cX6_test 23 = .ok (.iconst 0, 1) := by decide +kernel
theorem dX6_test_24 : decode cX6_test 24 = .ok (.ireturn, 1) := by decide +kernel
theorem dX6_test_25 : decode cX6_test 25 = .ok (.aload_n 0, 1) := by decide +kernel
theorem dX6_test_26 : decode cX6_test 26 = .ok (.getfield 28, 3) := by decide +kernel
theorem dX6_test_29 : decode cX6_test 29 = .ok (.getfield 126, 3) := by decide +kernel
theorem dX6_test_32 : decode cX6_test 32 = .ok (.istore_n 3, 1) := by decide +kernel
theorem dX6_test_33 : decode cX6_test 33 = .ok (.aload_n 0, 1) := by decide +kernel
theorem dX6_test_34 : decode cX6_test 34 = .ok (.invokevirtual 44, 3) := by decide +kernel
theorem dX6_test_37 : decode cX6_test 37 = .ok (.istore 4, 2) := by decide +kernel
theorem dX6_test_39 : decode cX6_test 39 = .ok (.iload 4, 2) := by decide +kernel
theorem dX6_test_41 : decode cX6_test 41 = .ok (.bipush 60, 2) := by decide +kernel
theorem dX6_test_43 : decode cX6_test 43 = .ok (.if_icmp .eq 23, 3) := by decide +kernel
theorem dX6_test_46 : decode cX6_test 46 = .ok (.iload 4, 2) := by decide +kernel
theorem dX6_test_48 : decode cX6_test 48 = .ok (.bipush 62, 2) := by decide +kernel
theorem dX6_test_50 : decode cX6_test 50 = .ok (.if_icmp .eq 16, 3) := by decide +kernel
theorem dX6_test_53 : decode cX6_test 53 = .ok (.iload 4, 2) := by decide +kernel
theorem dX6_test_55 : decode cX6_test 55 = .ok (.bipush 61, 2) := by decide +kernel
theorem dX6_test_57 : decode cX6_test 57 = .ok (.if_icmp .eq 9, 3) := by decide +kernel
theorem dX6_test_60 : decode cX6_test 60 = .ok (.aload_n 0, 1) := by decide +kernel
theorem dX6_test_61 : decode cX6_test 61 = .ok (.iconst 1, 1) := by decide +kernel
theorem dX6_test_62 : decode cX6_test 62 = .ok (.invokevirtual 51, 3) := by decide +kernel
theorem dX6_test_65 : decode cX6_test 65 = .ok (.ireturn, 1) := by decide +kernel
theorem dX6_test_66 : decode cX6_test 66 = .ok (.aload_n 0, 1) := by decide +kernel
theorem dX6_test_67 : decode cX6_test 67 = .ok (.dup, 1) := by decide +kernel
theorem dX6_test_68 : decode cX6_test 68 = .ok (.getfield 75, 3) := by decide +kernel
theorem dX6_test_71 : decode cX6_test 71 = .ok (.iconst 1, 1) := by decide +kernel
theorem dX6_test_72 : decode cX6_test 72 = .ok (.iadd, 1) := by decide +kernel
theorem dX6_test_73 : decode cX6_test 73 = .ok (.putfield 75, 3) := by decide +kernel
theorem dX6_test_76 : decode cX6_test 76 = .ok (.aload_n 0, 1) := by decide +kernel
theorem dX6_test_77 : decode cX6_test 77 = .ok (.invokevirtual 68, 3) := by decide +kernel
theorem dX6_test_80 : decode cX6_test 80 = .ok (.ifCond .ne 5, 3) := by decide +kernel
theorem dX6_test_83 : decode cX6_test 83 = .ok (.iconst 0, 1) := by decide +kernel
theorem dX6_test_84 : decode cX6_test 84 = .ok (.ireturn, 1) := by decide +kernel
theorem dX6_test_85 : decode cX6_test 85 = .ok (.aload_n 0, 1) := by decide +kernel
theorem dX6_test_86 : decode cX6_test 86 = .ok (.getfield 28, 3) := by decide +kernel
theorem dX6_test_89 : decode cX6_test 89 = .ok (.iload_n 2, 1) := by decide +kernel
theorem dX6_test_90 : decode cX6_test 90 = .ok (.iload_n 3, 1) := by decide +kernel
theorem dX6_test_91 : decode cX6_test 91 = .ok (.iload 4, 2) := by decide +kernel
theorem dX6_test_93 : decode cX6_test 93 = .ok (.invokevirtual 151, 3) := by decide +kernel
theorem dX6_test_96 : decode cX6_test 96 = .ok (.aload_n 0, 1) := by decide +kernel
theorem dX6_test_97 : decode cX6_test 97 = .ok (.bipush 7, 2) := by decide +kernel
theorem dX6_test_99 : decode cX6_test 99 = .ok (.invokevirtual 117, 3) := by decide +kernel
theorem dX6_test_102 : decode cX6_test 102 = .ok (.ifCond .ne 5, 3) := by decide +kernel
theorem dX6_test_105 : decode cX6_test 105 = .ok (.iconst 1, 1) := by decide +kernel
theorem dX6_test_106 : decode cX6_test 106 = .ok (.ireturn, 1) := by decide +kernel
theorem dX6_test_107 : decode cX6_test 107 = .ok (.aload_n 0, 1) := by decide +kernel
theorem dX6_test_108 : decode cX6_test 108 = .ok (.dup, 1) := by decide +kernel
theorem dX6_test_109 : decode cX6_test 109 = .ok (.getfield 75, 3) := by decide +kernel
theorem dX6_test_112 : decode cX6_test 112 = .ok (.iconst 1, 1) := by decide +kernel
theorem dX6_test_113 : decode cX6_test 113 = .ok (.iadd, 1) := by decide +kernel
theorem dX6_test_114 : decode cX6_test 114 = .ok (.putfield 75, 3) := by decide +kernel
theorem dX6_test_117 : decode cX6_test 117 = .ok (.iinc 1 1, 3) := by decide +kernel
theorem dX6_test_120 : decode cX6_test 120 = .ok (.goto (-118), 3) := by decide +kernel
theorem dX6_test_123 : decode cX6_test 123 = .ok (.aload_n 0, 1) := by decide +kernel
theorem dX6_test_124 : decode cX6_test 124 = .ok (.iconst 1, 1) := by decide +kernel
theorem dX6_test_125 : decode cX6_test 125 = .ok (.invokevirtual 51, 3) := by decide +kernel
theorem dX6_test_128 : decode cX6_test 128 = .ok (.ireturn, 1) := by decide +kernel
def s_X6_test_66 (k2 : Nat → Int32 → aH → aO) (l0 : Nat) (l1 : Int32) (l2 : Int32) (l3 : Int32) (l4 : Int32) (h : aH) : aO :=
  (gI h (.ref l0) 6 2).bind fun x68 => (pF h (.ref l0) 6 2 (.int (x68 + 1))).bind fun h73 => kO h73 l0 6 (cI (s_X6_sum l0 h73) fun x77 h77 => if x77 = 0 then (rtZ 0 h77) else ((gO h77 (.ref l0) 6 6).bind fun x86 => kO h77 x86 0 (cN (s_X0_addOne x86 l2 l3 l4 h77) fun h93 => kO h93 l0 6 (cI (s_X6_isWord l0 7 h93) fun x99 h99 => if x99 = 0 then (rtZ 1 h99) else ((gI h99 (.ref l0) 6 2).bind fun x109 => (pF h99 (.ref l0) 6 2 (.int (x109 + 1))).bind fun h114 => k2 l0 (l1 + 1) h114)))))
def s_X6_test_2_b  (k2 : Nat → Int32 → aH → aO) (l0 : Nat) (l1 : Int32) (h : aH) : aO :=
  if 30 < l1 then (kO h l0 6 (cI (s_X6_fail l0 1 h) fun x125 h125 => rtZ x125 h125)) else ((gO h (.ref l0) 6 6).bind fun x9 => (gI h (.ref x9) 0 0).bind fun x12 => kO h l0 6 (cI (s_X6_sum l0 h) fun x17 h17 => if x17 = 0 then (rtZ 0 h17) else ((gO h17 (.ref l0) 6 6).bind fun x26 => (gI h17 (.ref x26) 0 0).bind fun x29 => kO h17 l0 6 (cI (s_X6_kind l0 h17) fun x34 h34 => if x34 = 60 then (s_X6_test_66 k2 l0 l1 x12 x29 x34 h34) else (if x34 = 62 then (s_X6_test_66 k2 l0 l1 x12 x29 x34 h34) else (if x34 = 61 then (s_X6_test_66 k2 l0 l1 x12 x29 x34 h34) else (kO h34 l0 6 (cI (s_X6_fail l0 1 h34) fun x62 h62 => rtZ x62 h62))))))))
def s_X6_test_2  (n : Nat) : Nat → Int32 → aH → aO := lpF (fun _ _ _ => none) (s_X6_test_2_b ) n
def s_X6_test (o : Nat) (h : aH) : aO :=
  s_X6_test_2 FU o 0 h
section
variable {p : Program} {l : Launch} {e : Env} {s : State} {m : MethodId} {args : Array Value} {below : List Frame} {meth : Method} {c : Code} {D : va_G} {B0 : Nat} {X : Nat → Nat} {ws0 : va_W} {r : aR} {h' : aH} {mc ms : Nat}
theorem t_X6_test_66 (C : Cx p l s m args meth c B0 X RX6 "test" cX6_test 5 (some .boolean) []) {k2 : Nat → Int32 → aH → aO} (K2 : ∀ (l0 : Nat) (l1 : Int32) (h : aH), k2 l0 l1 h = some (r, h') → Ev p l e { frames := 3, cells := mc, slots := ms, locals := 70 } s m args below meth c D B0 X ws0 r h' mc ms 5 mc ms 2 [some (.ref l0), some (.int l1), none, none, none] [] h) {l0 : Nat} {l1 : Int32} {l2 : Int32} {l3 : Int32} {l4 : Int32} {h : aH} (hs : s_X6_test_66 k2 l0 l1 l2 l3 l4 h = some (r, h')) : Ev p l e { frames := 3, cells := mc, slots := ms, locals := 70 } s m args below meth c D B0 X ws0 r h' mc ms 5 mc ms 66 [some (.ref l0), some (.int l1), some (.int l2), some (.int l3), some (.int l4)] [] h := by
  unfold s_X6_test_66 at hs
  refine ev_aload_n C (x := .ref l0) rfl trivial dX6_test_66 ?_
  refine ev_dup C rfl dX6_test_67 ?_
  obtain ⟨x68, e68, hs⟩ := aB hs
  refine ev_get C (ci := 6) (k := 2) rfl wu_6 (by decide) wf_X6_75 (gI_F e68) dX6_test_68 ?_
  refine ev_iconst C (v := 1) dX6_test_71 (by decide) ?_
  refine ev_iadd C dX6_test_72 ?_
  obtain ⟨h73, e73, hs⟩ := aB hs
  refine ev_put C (ci := 6) (k := 2) rfl wu_6 (by decide) tyX6 tyX6_ok nmX6 wf_X6_75 rfl trivial e73 dX6_test_73 ?_
  refine ev_aload_n C (x := .ref l0) rfl trivial dX6_test_76 ?_
  obtain ⟨eo77, hs⟩ := kO_at hs
  obtain ⟨x77, h77, e77, hs⟩ := cI_at hs
  refine ev_callV C (T_X6_sum _ _ _ _ e77) (ci := 6) rfl eo77 wc_X6_sum wm_X6_68 wi_X6_sum ws_X6_sum wz_X6 hy_X6_sum ⟨(Nat.le_of_ble_eq_true rfl), (Nat.le_of_ble_eq_true rfl)⟩ ⟨(Nat.le_refl _), (Nat.le_refl _)⟩ (Nat.le_of_ble_eq_true rfl) rfl dX6_test_77 ?_
  refine ev_if_ne C (tgt := 85) (by decide) dX6_test_80 (fun q80 => ?_) (fun q80 => ?_)
  · replace hs := (if_neg q80).symm.trans hs
    refine ev_aload_n C (x := .ref l0) rfl trivial dX6_test_85 ?_
    obtain ⟨x86, e86, hs⟩ := aB hs
    refine ev_get C (ci := 6) (k := 6) rfl wu_6 (by decide) wf_X6_28 (gO_F e86) dX6_test_86 ?_
    refine ev_iload_n C rfl dX6_test_89 ?_
    refine ev_iload_n C rfl dX6_test_90 ?_
    refine ev_iload C rfl dX6_test_91 ?_
    obtain ⟨eo93, hs⟩ := kO_at hs
    obtain ⟨h93, e93, hs⟩ := cN_at hs
    refine ev_callVN C (T_X0_addOne _ _ _ _ _ _ _ e93) (ci := 0) rfl eo93 wc_X0_addOne wn_X6_151 wi_X0_addOne ws_X0_addOne wz_X0 hy_X0_addOne ⟨(Nat.le_of_ble_eq_true rfl), (Nat.le_of_ble_eq_true rfl)⟩ ⟨(Nat.le_refl _), (Nat.le_refl _)⟩ (Nat.le_of_ble_eq_true rfl) rfl dX6_test_93 ?_
    refine ev_aload_n C (x := .ref l0) rfl trivial dX6_test_96 ?_
    refine ev_bipush C (v := 7) dX6_test_97 (by decide) ?_
    obtain ⟨eo99, hs⟩ := kO_at hs
    obtain ⟨x99, h99, e99, hs⟩ := cI_at hs
    refine ev_callV C (T_X6_isWord _ _ _ _ _ e99) (ci := 6) rfl eo99 wc_X6_isWord wm_X6_117 wi_X6_isWord ws_X6_isWord wz_X6 hy_X6_isWord ⟨(Nat.le_of_ble_eq_true rfl), (Nat.le_of_ble_eq_true rfl)⟩ ⟨(Nat.le_refl _), (Nat.le_refl _)⟩ (Nat.le_of_ble_eq_true rfl) rfl dX6_test_99 ?_
    refine ev_if_ne C (tgt := 107) (by decide) dX6_test_102 (fun q102 => ?_) (fun q102 => ?_)
    · replace hs := (if_neg q102).symm.trans hs
      refine ev_aload_n C (x := .ref l0) rfl trivial dX6_test_107 ?_
      refine ev_dup C rfl dX6_test_108 ?_
      obtain ⟨x109, e109, hs⟩ := aB hs
      refine ev_get C (ci := 6) (k := 2) rfl wu_6 (by decide) wf_X6_75 (gI_F e109) dX6_test_109 ?_
      refine ev_iconst C (v := 1) dX6_test_112 (by decide) ?_
      refine ev_iadd C dX6_test_113 ?_
      obtain ⟨h114, e114, hs⟩ := aB hs
      refine ev_put C (ci := 6) (k := 2) rfl wu_6 (by decide) tyX6 tyX6_ok nmX6 wf_X6_75 rfl trivial e114 dX6_test_114 ?_
      refine ev_iinc C (i := 1) (n := 1) (x := l1) (v := l1 + 1) rfl (congrArg (fun z => l1 + z) (show Int32.ofInt 1 = 1 by decide)) (by decide) dX6_test_117 ?_
      refine ev_goto C (tgt := 2) (by decide) dX6_test_120 ?_
      exact Ev.keep [true, true, false, false, false] (K2 _ _ _ hs)
    · replace hs := (if_pos q102).symm.trans hs
      refine ev_iconst C (v := 1) dX6_test_105 (by decide) ?_
      obtain ⟨hz, rfl, rfl⟩ := rtZ_at hs
      exact ev_zret C rfl hz rfl (Nat.le_refl _) (Nat.le_refl _) rfl dX6_test_106
  · replace hs := (if_pos q80).symm.trans hs
    refine ev_iconst C (v := 0) dX6_test_83 (by decide) ?_
    obtain ⟨hz, rfl, rfl⟩ := rtZ_at hs
    exact ev_zret C rfl hz rfl (Nat.le_refl _) (Nat.le_refl _) rfl dX6_test_84
theorem t_X6_test_2_b (C : Cx p l s m args meth c B0 X RX6 "test" cX6_test 5 (some .boolean) [])   {k2 : Nat → Int32 → aH → aO} (K2 : ∀ (l0 : Nat) (l1 : Int32) (h : aH), k2 l0 l1 h = some (r, h') → Ev p l e { frames := 3, cells := mc, slots := ms, locals := 70 } s m args below meth c D B0 X ws0 r h' mc ms 5 mc ms 2 [some (.ref l0), some (.int l1), none, none, none] [] h) {l0 : Nat} {l1 : Int32} {h : aH} (hs : s_X6_test_2_b  k2 l0 l1 h = some (r, h')) : Ev p l e { frames := 3, cells := mc, slots := ms, locals := 70 } s m args below meth c D B0 X ws0 r h' mc ms 5 mc ms 2 [some (.ref l0), some (.int l1), none, none, none] [] h := by
  unfold s_X6_test_2_b at hs
  refine ev_iload_n C rfl dX6_test_2 ?_
  refine ev_bipush C (v := 30) dX6_test_3 (by decide) ?_
  refine ev_icmp_gt C (tgt := 123) (by decide) dX6_test_5 (fun q5 => ?_) (fun q5 => ?_)
  · replace hs := (if_pos q5).symm.trans hs
    refine ev_aload_n C (x := .ref l0) rfl trivial dX6_test_123 ?_
    refine ev_iconst C (v := 1) dX6_test_124 (by decide) ?_
    obtain ⟨eo125, hs⟩ := kO_at hs
    obtain ⟨x125, h125, e125, hs⟩ := cI_at hs
    refine ev_callV C (T_X6_fail _ _ _ _ _ e125) (ci := 6) rfl eo125 wc_X6_fail wm_X6_51 wi_X6_fail ws_X6_fail wz_X6 hy_X6_fail ⟨(Nat.le_of_ble_eq_true rfl), (Nat.le_of_ble_eq_true rfl)⟩ ⟨(Nat.le_refl _), (Nat.le_refl _)⟩ (Nat.le_of_ble_eq_true rfl) rfl dX6_test_125 ?_
    obtain ⟨hz, rfl, rfl⟩ := rtZ_at hs
    exact ev_zret C rfl hz rfl (Nat.le_refl _) (Nat.le_refl _) rfl dX6_test_128
  · replace hs := (if_neg q5).symm.trans hs
    refine ev_aload_n C (x := .ref l0) rfl trivial dX6_test_8 ?_
    obtain ⟨x9, e9, hs⟩ := aB hs
    refine ev_get C (ci := 6) (k := 6) rfl wu_6 (by decide) wf_X6_28 (gO_F e9) dX6_test_9 ?_
    obtain ⟨x12, e12, hs⟩ := aB hs
    refine ev_getN C (ci := 0) (k := 0) rfl wu_0 (by decide) wg_X6_126 (gI_F e12) dX6_test_12 ?_
    refine ev_istore_n C (by decide) dX6_test_15 ?_
    refine ev_aload_n C (x := .ref l0) rfl trivial dX6_test_16 ?_
    obtain ⟨eo17, hs⟩ := kO_at hs
    obtain ⟨x17, h17, e17, hs⟩ := cI_at hs
    refine ev_callV C (T_X6_sum _ _ _ _ e17) (ci := 6) rfl eo17 wc_X6_sum wm_X6_68 wi_X6_sum ws_X6_sum wz_X6 hy_X6_sum ⟨(Nat.le_of_ble_eq_true rfl), (Nat.le_of_ble_eq_true rfl)⟩ ⟨(Nat.le_refl _), (Nat.le_refl _)⟩ (Nat.le_of_ble_eq_true rfl) rfl dX6_test_17 ?_
    refine ev_if_ne C (tgt := 25) (by decide) dX6_test_20 (fun q20 => ?_) (fun q20 => ?_)
    · replace hs := (if_neg q20).symm.trans hs
      refine ev_aload_n C (x := .ref l0) rfl trivial dX6_test_25 ?_
      obtain ⟨x26, e26, hs⟩ := aB hs
      refine ev_get C (ci := 6) (k := 6) rfl wu_6 (by decide) wf_X6_28 (gO_F e26) dX6_test_26 ?_
      obtain ⟨x29, e29, hs⟩ := aB hs
      refine ev_getN C (ci := 0) (k := 0) rfl wu_0 (by decide) wg_X6_126 (gI_F e29) dX6_test_29 ?_
      refine ev_istore_n C (by decide) dX6_test_32 ?_
      refine ev_aload_n C (x := .ref l0) rfl trivial dX6_test_33 ?_
      obtain ⟨eo34, hs⟩ := kO_at hs
      obtain ⟨x34, h34, e34, hs⟩ := cI_at hs
      refine ev_callV C (T_X6_kind _ _ _ _ e34) (ci := 6) rfl eo34 wc_X6_kind wm_X6_44 wi_X6_kind ws_X6_kind wz_X6 hy_X6_kind ⟨(Nat.le_of_ble_eq_true rfl), (Nat.le_of_ble_eq_true rfl)⟩ ⟨(Nat.le_refl _), (Nat.le_refl _)⟩ (Nat.le_of_ble_eq_true rfl) rfl dX6_test_34 ?_
      refine ev_istore C (by decide) dX6_test_37 ?_
      refine ev_iload C rfl dX6_test_39 ?_
      refine ev_bipush C (v := 60) dX6_test_41 (by decide) ?_
      refine ev_icmp_eq C (tgt := 66) (by decide) dX6_test_43 (fun q43 => ?_) (fun q43 => ?_)
      · replace hs := (if_pos q43).symm.trans hs
        exact (t_X6_test_66 C K2 hs)
      · replace hs := (if_neg q43).symm.trans hs
        refine ev_iload C rfl dX6_test_46 ?_
        refine ev_bipush C (v := 62) dX6_test_48 (by decide) ?_
        refine ev_icmp_eq C (tgt := 66) (by decide) dX6_test_50 (fun q50 => ?_) (fun q50 => ?_)
        · replace hs := (if_pos q50).symm.trans hs
          exact (t_X6_test_66 C K2 hs)
        · replace hs := (if_neg q50).symm.trans hs
          refine ev_iload C rfl dX6_test_53 ?_
          refine ev_bipush C (v := 61) dX6_test_55 (by decide) ?_
          refine ev_icmp_eq C (tgt := 66) (by decide) dX6_test_57 (fun q57 => ?_) (fun q57 => ?_)
          · replace hs := (if_pos q57).symm.trans hs
            exact (t_X6_test_66 C K2 hs)
          · replace hs := (if_neg q57).symm.trans hs
            refine ev_aload_n C (x := .ref l0) rfl trivial dX6_test_60 ?_
            refine ev_iconst C (v := 1) dX6_test_61 (by decide) ?_
            obtain ⟨eo62, hs⟩ := kO_at hs
            obtain ⟨x62, h62, e62, hs⟩ := cI_at hs
            refine ev_callV C (T_X6_fail _ _ _ _ _ e62) (ci := 6) rfl eo62 wc_X6_fail wm_X6_51 wi_X6_fail ws_X6_fail wz_X6 hy_X6_fail ⟨(Nat.le_of_ble_eq_true rfl), (Nat.le_of_ble_eq_true rfl)⟩ ⟨(Nat.le_refl _), (Nat.le_refl _)⟩ (Nat.le_of_ble_eq_true rfl) rfl dX6_test_62 ?_
            obtain ⟨hz, rfl, rfl⟩ := rtZ_at hs
            exact ev_zret C rfl hz rfl (Nat.le_refl _) (Nat.le_refl _) rfl dX6_test_65
    · replace hs := (if_pos q20).symm.trans hs
      refine ev_iconst C (v := 0) dX6_test_23 (by decide) ?_
      obtain ⟨hz, rfl, rfl⟩ := rtZ_at hs
      exact ev_zret C rfl hz rfl (Nat.le_refl _) (Nat.le_refl _) rfl dX6_test_24
theorem t_X6_test_2 (C : Cx p l s m args meth c B0 X RX6 "test" cX6_test 5 (some .boolean) [])   : ∀ (n : Nat) {l0 : Nat} {l1 : Int32} {h : aH} (hs : s_X6_test_2  n l0 l1 h = some (r, h')), Ev p l e { frames := 3, cells := mc, slots := ms, locals := 70 } s m args below meth c D B0 X ws0 r h' mc ms 5 mc ms 2 [some (.ref l0), some (.int l1), none, none, none] [] h
  | 0, _, _, _, hs => nomatch hs
  | n + 1, _, _, _, hs => t_X6_test_2_b C  (k2 := s_X6_test_2  n) (fun _ _ _ hs => t_X6_test_2 C  n hs) hs
theorem hy_X6_test : yX6_test.cls ≠ "java/lang/invoke/MethodHandle" ∧ yX6_test.cls ≠ "java/lang/invoke/VarHandle" ∧ (parseMethodDescriptor yX6_test.desc).map (fun d => d.parameters.length) = some 0 := by decide +kernel
theorem T_X6_test (o : Nat) (h : aH) (r : aR) (h' : aH) (hs : s_X6_test o h = some (r, h')) : Mt yX6_test (Cond.code yX6_test cX6_test 5 (some .boolean) :: aTB) 3 70 0 0 [.ref o] h r h' := by
  unfold s_X6_test at hs
  refine Mt_of (k := 4) (by decide) rfl (fun p l e s m args below meth c D B0 X ws0 C => ?_)
  show Ev p l e { frames := 3, cells := 0, slots := 0, locals := 70 } s m args below meth c D B0 X ws0 r h' 0 0 5 0 0 0 [some (.ref o), none, none, none, none] [] h
  refine ev_iconst C (v := 0) dX6_test_0 (by decide) ?_
  refine ev_istore_n C (by decide) dX6_test_1 ?_
  exact (t_X6_test_2 C  FU hs)
end
-- X6_stepLine
theorem dX6_stepLine_0 : decode cX6_stepLine 0 = .ok (.aload_n 0, 1) := by decide +kernel
theorem dX6_stepLine_1 : decode cX6_stepLine 1 = .ok (.getfield 18, 3) := by decide +kernel
theorem dX6_stepLine_4 : decode cX6_stepLine 4 = .ok (.getfield 135, 3) := by decide +kernel
theorem dX6_stepLine_7 : decode cX6_stepLine 7 = .ok (.bipush 8, 2) := by decide +kernel
theorem dX6_stepLine_9 : decode cX6_stepLine 9 = .ok (.if_icmp .lt 9, 3) := by decide +kernel
theorem dX6_stepLine_12 : decode cX6_stepLine 12 = .ok (.aload_n 0, 1) := by decide +kernel
theorem dX6_stepLine_13 : decode cX6_stepLine 13 = .ok (.iconst 5, 1) := by decide +kernel
theorem dX6_stepLine_14 : decode cX6_stepLine 14 = .ok (.invokevirtual 51, 3) := by decide +kernel
theorem dX6_stepLine_17 : decode cX6_stepLine 17 = .ok (.ireturn, 1) := by decide +kernel
theorem dX6_stepLine_18 : decode cX6_stepLine 18 = .ok (.aload_n 0, 1) := by decide +kernel
theorem dX6_stepLine_19 : decode cX6_stepLine 19 = .ok (.dup, 1) := by decide +kernel
theorem dX6_stepLine_20 : decode cX6_stepLine 20 = .ok (.getfield 75, 3) := by decide +kernel
theorem dX6_stepLine_23 : decode cX6_stepLine 23 = .ok (.iconst 1, 1) := by decide +kernel
theorem dX6_stepLine_24 : decode cX6_stepLine 24 = .ok (.iadd, 1) := by decide +kernel
theorem dX6_stepLine_25 : decode cX6_stepLine 25 = .ok (.putfield 75, 3) := by decide +kernel
theorem dX6_stepLine_28 : decode cX6_stepLine 28 = .ok (.aload_n 0, 1) := by decide +kernel
theorem dX6_stepLine_29 : decode cX6_stepLine 29 = .ok (.getfield 28, 3) := by decide +kernel
theorem dX6_stepLine_32 : decode cX6_stepLine 32 = .ok (.getfield 126, 3) := by decide +kernel
theorem dX6_stepLine_35 : decode cX6_stepLine 35 = .ok (.istore_n 2, 1) := by decide +kernel
theorem dX6_stepLine_36 : decode cX6_stepLine 36 = .ok (.aload_n 0, 1) := by decide +kernel
theorem dX6_stepLine_37 : decode cX6_stepLine 37 = .ok (.bipush 61, 2) := by decide +kernel
theorem dX6_stepLine_39 : decode cX6_stepLine 39 = .ok (.invokevirtual 55, 3) := by decide +kernel
theorem dX6_stepLine_42 : decode cX6_stepLine 42 = .ok (.ifCond .eq 10, 3) := by decide +kernel
theorem dX6_stepLine_45 : decode cX6_stepLine 45 = .ok (.aload_n 0, 1) := by decide +kernel
theorem dX6_stepLine_46 : decode cX6_stepLine 46 = .ok (.invokevirtual 68, 3) := by decide +kernel
theorem dX6_stepLine_49 : decode cX6_stepLine 49 = .ok (.ifCond .ne 5, 3) := by decide +kernel
theorem dX6_stepLine_52 : decode cX6_stepLine 52 = .ok (.iconst 0, 1) := by decide +kernel
theorem dX6_stepLine_53 : decode cX6_stepLine 53 = .ok (.ireturn, 1) := by decide +kernel
theorem dX6_stepLine_54 : decode cX6_stepLine 54 = .ok (.aload_n 0, 1) := by decide +kernel
theorem dX6_stepLine_55 : decode cX6_stepLine 55 = .ok (.getfield 28, 3) := by decide +kernel
theorem dX6_stepLine_58 : decode cX6_stepLine 58 = .ok (.getfield 126, 3) := by decide +kernel
theorem dX6_stepLine_61 : decode cX6_stepLine 61 = .ok (.istore_n 3, 1) := by decide +kernel
theorem dX6_stepLine_62 : decode cX6_stepLine 62 = .ok (.aload_n 0, 1) := by decide +kernel
theorem dX6_stepLine_63 : decode cX6_stepLine 63 = .ok (.getfield 28, 3) := by decide +kernel
theorem dX6_stepLine_66 : decode cX6_stepLine 66 = .ok (.getfield 138, 3) := by decide +kernel
theorem dX6_stepLine_69 : decode cX6_stepLine 69 = .ok (.istore 4, 2) := by decide +kernel
theorem dX6_stepLine_71 : decode cX6_stepLine 71 = .ok (.aload_n 0, 1) := by decide +kernel
theorem dX6_stepLine_72 : decode cX6_stepLine 72 = .ok (.bipush 6, 2) := by decide +kernel
theorem dX6_stepLine_74 : decode cX6_stepLine 74 = .ok (.invokevirtual 117, 3) := by decide +kernel
theorem dX6_stepLine_77 : decode cX6_stepLine 77 = .ok (.ifCond .eq 22, 3) := by decide +kernel
theorem dX6_stepLine_80 : decode cX6_stepLine 80 = .ok (.aload_n 0, 1) := by decide +kernel
theorem dX6_stepLine_81 : decode cX6_stepLine 81 = .ok (.dup, 1) := by decide +kernel
theorem dX6_stepLine_82 : decode cX6_stepLine 82 = .ok (.getfield 75, 3) := by decide +kernel
theorem dX6_stepLine_85 : decode cX6_stepLine 85 = .ok (.iconst 1, 1) := by decide +kernel
theorem dX6_stepLine_86 : decode cX6_stepLine 86 = .ok (.iadd, 1) := by decide +kernel
theorem dX6_stepLine_87 : decode cX6_stepLine 87 = .ok (.putfield 75, 3) := by decide +kernel
theorem dX6_stepLine_90 : decode cX6_stepLine 90 = .ok (.aload_n 0, 1) := by decide +kernel
theorem dX6_stepLine_91 : decode cX6_stepLine 91 = .ok (.invokevirtual 65, 3) := by decide +kernel
theorem dX6_stepLine_94 : decode cX6_stepLine 94 = .ok (.ifCond .ne 5, 3) := by decide +kernel
theorem dX6_stepLine_97 : decode cX6_stepLine 97 = .ok (.iconst 0, 1) := by decide +kernel
theorem dX6_stepLine_98 : decode cX6_stepLine 98 = .ok (.ireturn, 1) := by decide +kernel
theorem dX6_stepLine_99 : decode cX6_stepLine 99 = .ok (.aload_n 0, 1) := by decide +kernel
theorem dX6_stepLine_100 : decode cX6_stepLine 100 = .ok (.getfield 18, 3) := by decide +kernel
theorem dX6_stepLine_103 : decode cX6_stepLine 103 = .ok (.iload_n 1, 1) := by decide +kernel
theorem dX6_stepLine_104 : decode cX6_stepLine 104 = .ok (.iload_n 2, 1) := by decide +kernel
theorem dX6_stepLine_105 : decode cX6_stepLine 105 = .ok (.iload_n 3, 1) := by decide +kernel
theorem dX6_stepLine_106 : decode cX6_stepLine 106 = .ok (.iload 4, 2) := by decide +kernel
theorem dX6_stepLine_108 : decode cX6_stepLine 108 = .ok (.invokevirtual 141, 3) := by decide +kernel
theorem dX6_stepLine_111 : decode cX6_stepLine 111 = .ok (.iconst 1, 1) := by decide +kernel
theorem dX6_stepLine_112 : decode cX6_stepLine 112 = .ok (.ireturn, 1) := by decide +kernel
def s_X6_stepLine_99  (l0 : Nat) (l1 : Int32) (l2 : Int32) (l3 : Int32) (l4 : Int32) (h : aH) : aO :=
  (gO h (.ref l0) 6 5).bind fun x100 => kO h x100 2 (cN (s_X2_addStep x100 l1 l2 l3 l4 h) fun h108 => rtZ 1 h108)
def s_X6_stepLine (o : Nat) (a1 : Int32) (h : aH) : aO :=
  (gO h (.ref o) 6 5).bind fun x1 => (gI h (.ref x1) 2 4).bind fun x4 => if x4 < 8 then ((gI h (.ref o) 6 2).bind fun x20 => (pF h (.ref o) 6 2 (.int (x20 + 1))).bind fun h25 => (gO h25 (.ref o) 6 6).bind fun x29 => (gI h25 (.ref x29) 0 0).bind fun x32 => kO h25 o 6 (cI (s_X6_pass o 61 h25) fun x39 h39 => if x39 = 0 then (rtZ 0 h39) else (kO h39 o 6 (cI (s_X6_sum o h39) fun x46 h46 => if x46 = 0 then (rtZ 0 h46) else ((gO h46 (.ref o) 6 6).bind fun x55 => (gI h46 (.ref x55) 0 0).bind fun x58 => (gO h46 (.ref o) 6 6).bind fun x63 => (gI h46 (.ref x63) 0 4).bind fun x66 => kO h46 o 6 (cI (s_X6_isWord o 6 h46) fun x74 h74 => if x74 = 0 then (s_X6_stepLine_99 o a1 x32 x58 x66 h74) else ((gI h74 (.ref o) 6 2).bind fun x82 => (pF h74 (.ref o) 6 2 (.int (x82 + 1))).bind fun h87 => kO h87 o 6 (cI (s_X6_test o h87) fun x91 h91 => if x91 = 0 then (rtZ 0 h91) else (s_X6_stepLine_99 o a1 x32 x58 x66 h91))))))))) else (kO h o 6 (cI (s_X6_fail o 5 h) fun x14 h14 => rtZ x14 h14))
section
variable {p : Program} {l : Launch} {e : Env} {s : State} {m : MethodId} {args : Array Value} {below : List Frame} {meth : Method} {c : Code} {D : va_G} {B0 : Nat} {X : Nat → Nat} {ws0 : va_W} {r : aR} {h' : aH} {mc ms : Nat}
theorem t_X6_stepLine_99 (C : Cx p l s m args meth c B0 X RX6 "stepLine" cX6_stepLine 5 (some .boolean) [])   {l0 : Nat} {l1 : Int32} {l2 : Int32} {l3 : Int32} {l4 : Int32} {h : aH} (hs : s_X6_stepLine_99  l0 l1 l2 l3 l4 h = some (r, h')) : Ev p l e { frames := 4, cells := mc, slots := ms, locals := 94 } s m args below meth c D B0 X ws0 r h' mc ms 5 mc ms 99 [some (.ref l0), some (.int l1), some (.int l2), some (.int l3), some (.int l4)] [] h := by
  unfold s_X6_stepLine_99 at hs
  refine ev_aload_n C (x := .ref l0) rfl trivial dX6_stepLine_99 ?_
  obtain ⟨x100, e100, hs⟩ := aB hs
  refine ev_get C (ci := 6) (k := 5) rfl wu_6 (by decide) wf_X6_18 (gO_F e100) dX6_stepLine_100 ?_
  refine ev_iload_n C rfl dX6_stepLine_103 ?_
  refine ev_iload_n C rfl dX6_stepLine_104 ?_
  refine ev_iload_n C rfl dX6_stepLine_105 ?_
  refine ev_iload C rfl dX6_stepLine_106 ?_
  obtain ⟨eo108, hs⟩ := kO_at hs
  obtain ⟨h108, e108, hs⟩ := cN_at hs
  refine ev_callVN C (T_X2_addStep _ _ _ _ _ _ _ _ e108) (ci := 2) rfl eo108 wc_X2_addStep wn_X6_141 wi_X2_addStep ws_X2_addStep wz_X2 hy_X2_addStep ⟨(Nat.le_of_ble_eq_true rfl), (Nat.le_of_ble_eq_true rfl)⟩ ⟨(Nat.le_refl _), (Nat.le_refl _)⟩ (Nat.le_of_ble_eq_true rfl) rfl dX6_stepLine_108 ?_
  refine ev_iconst C (v := 1) dX6_stepLine_111 (by decide) ?_
  obtain ⟨hz, rfl, rfl⟩ := rtZ_at hs
  exact ev_zret C rfl hz rfl (Nat.le_refl _) (Nat.le_refl _) rfl dX6_stepLine_112
theorem hy_X6_stepLine : yX6_stepLine.cls ≠ "java/lang/invoke/MethodHandle" ∧ yX6_stepLine.cls ≠ "java/lang/invoke/VarHandle" ∧ (parseMethodDescriptor yX6_stepLine.desc).map (fun d => d.parameters.length) = some 1 := by decide +kernel
theorem T_X6_stepLine (o : Nat) (a1 : Int32) (h : aH) (r : aR) (h' : aH) (hs : s_X6_stepLine o a1 h = some (r, h')) : Mt yX6_stepLine (Cond.code yX6_stepLine cX6_stepLine 5 (some .boolean) :: aTB) 4 94 0 0 [.ref o, .int a1] h r h' := by
  unfold s_X6_stepLine at hs
  refine Mt_of (k := 3) (by decide) rfl (fun p l e s m args below meth c D B0 X ws0 C => ?_)
  show Ev p l e { frames := 4, cells := 0, slots := 0, locals := 94 } s m args below meth c D B0 X ws0 r h' 0 0 5 0 0 0 [some (.ref o), some (.int a1), none, none, none] [] h
  refine ev_aload_n C (x := .ref o) rfl trivial dX6_stepLine_0 ?_
  obtain ⟨x1, e1, hs⟩ := aB hs
  refine ev_get C (ci := 6) (k := 5) rfl wu_6 (by decide) wf_X6_18 (gO_F e1) dX6_stepLine_1 ?_
  obtain ⟨x4, e4, hs⟩ := aB hs
  refine ev_getN C (ci := 2) (k := 4) rfl wu_2 (by decide) wg_X6_135 (gI_F e4) dX6_stepLine_4 ?_
  refine ev_bipush C (v := 8) dX6_stepLine_7 (by decide) ?_
  refine ev_icmp_lt C (tgt := 18) (by decide) dX6_stepLine_9 (fun q9 => ?_) (fun q9 => ?_)
  · replace hs := (if_pos q9).symm.trans hs
    refine ev_aload_n C (x := .ref o) rfl trivial dX6_stepLine_18 ?_
    refine ev_dup C rfl dX6_stepLine_19 ?_
    obtain ⟨x20, e20, hs⟩ := aB hs
    refine ev_get C (ci := 6) (k := 2) rfl wu_6 (by decide) wf_X6_75 (gI_F e20) dX6_stepLine_20 ?_
    refine ev_iconst C (v := 1) dX6_stepLine_23 (by decide) ?_
    refine ev_iadd C dX6_stepLine_24 ?_
    obtain ⟨h25, e25, hs⟩ := aB hs
    refine ev_put C (ci := 6) (k := 2) rfl wu_6 (by decide) tyX6 tyX6_ok nmX6 wf_X6_75 rfl trivial e25 dX6_stepLine_25 ?_
    refine ev_aload_n C (x := .ref o) rfl trivial dX6_stepLine_28 ?_
    obtain ⟨x29, e29, hs⟩ := aB hs
    refine ev_get C (ci := 6) (k := 6) rfl wu_6 (by decide) wf_X6_28 (gO_F e29) dX6_stepLine_29 ?_
    obtain ⟨x32, e32, hs⟩ := aB hs
    refine ev_getN C (ci := 0) (k := 0) rfl wu_0 (by decide) wg_X6_126 (gI_F e32) dX6_stepLine_32 ?_
    refine ev_istore_n C (by decide) dX6_stepLine_35 ?_
    refine ev_aload_n C (x := .ref o) rfl trivial dX6_stepLine_36 ?_
    refine ev_bipush C (v := 61) dX6_stepLine_37 (by decide) ?_
    obtain ⟨eo39, hs⟩ := kO_at hs
    obtain ⟨x39, h39, e39, hs⟩ := cI_at hs
    refine ev_callV C (T_X6_pass _ _ _ _ _ e39) (ci := 6) rfl eo39 wc_X6_pass wm_X6_55 wi_X6_pass ws_X6_pass wz_X6 hy_X6_pass ⟨(Nat.le_of_ble_eq_true rfl), (Nat.le_of_ble_eq_true rfl)⟩ ⟨(Nat.le_refl _), (Nat.le_refl _)⟩ (Nat.le_of_ble_eq_true rfl) rfl dX6_stepLine_39 ?_
    refine ev_if_eq C (tgt := 52) (by decide) dX6_stepLine_42 (fun q42 => ?_) (fun q42 => ?_)
    · replace hs := (if_pos q42).symm.trans hs
      refine ev_iconst C (v := 0) dX6_stepLine_52 (by decide) ?_
      obtain ⟨hz, rfl, rfl⟩ := rtZ_at hs
      exact ev_zret C rfl hz rfl (Nat.le_refl _) (Nat.le_refl _) rfl dX6_stepLine_53
    · replace hs := (if_neg q42).symm.trans hs
      refine ev_aload_n C (x := .ref o) rfl trivial dX6_stepLine_45 ?_
      obtain ⟨eo46, hs⟩ := kO_at hs
      obtain ⟨x46, h46, e46, hs⟩ := cI_at hs
      refine ev_callV C (T_X6_sum _ _ _ _ e46) (ci := 6) rfl eo46 wc_X6_sum wm_X6_68 wi_X6_sum ws_X6_sum wz_X6 hy_X6_sum ⟨(Nat.le_of_ble_eq_true rfl), (Nat.le_of_ble_eq_true rfl)⟩ ⟨(Nat.le_refl _), (Nat.le_refl _)⟩ (Nat.le_of_ble_eq_true rfl) rfl dX6_stepLine_46 ?_
      refine ev_if_ne C (tgt := 54) (by decide) dX6_stepLine_49 (fun q49 => ?_) (fun q49 => ?_)
      · replace hs := (if_neg q49).symm.trans hs
        refine ev_aload_n C (x := .ref o) rfl trivial dX6_stepLine_54 ?_
        obtain ⟨x55, e55, hs⟩ := aB hs
        refine ev_get C (ci := 6) (k := 6) rfl wu_6 (by decide) wf_X6_28 (gO_F e55) dX6_stepLine_55 ?_
        obtain ⟨x58, e58, hs⟩ := aB hs
        refine ev_getN C (ci := 0) (k := 0) rfl wu_0 (by decide) wg_X6_126 (gI_F e58) dX6_stepLine_58 ?_
        refine ev_istore_n C (by decide) dX6_stepLine_61 ?_
        refine ev_aload_n C (x := .ref o) rfl trivial dX6_stepLine_62 ?_
        obtain ⟨x63, e63, hs⟩ := aB hs
        refine ev_get C (ci := 6) (k := 6) rfl wu_6 (by decide) wf_X6_28 (gO_F e63) dX6_stepLine_63 ?_
        obtain ⟨x66, e66, hs⟩ := aB hs
        refine ev_getN C (ci := 0) (k := 4) rfl wu_0 (by decide) wg_X6_138 (gI_F e66) dX6_stepLine_66 ?_
        refine ev_istore C (by decide) dX6_stepLine_69 ?_
        refine ev_aload_n C (x := .ref o) rfl trivial dX6_stepLine_71 ?_
        refine ev_bipush C (v := 6) dX6_stepLine_72 (by decide) ?_
        obtain ⟨eo74, hs⟩ := kO_at hs
        obtain ⟨x74, h74, e74, hs⟩ := cI_at hs
        refine ev_callV C (T_X6_isWord _ _ _ _ _ e74) (ci := 6) rfl eo74 wc_X6_isWord wm_X6_117 wi_X6_isWord ws_X6_isWord wz_X6 hy_X6_isWord ⟨(Nat.le_of_ble_eq_true rfl), (Nat.le_of_ble_eq_true rfl)⟩ ⟨(Nat.le_refl _), (Nat.le_refl _)⟩ (Nat.le_of_ble_eq_true rfl) rfl dX6_stepLine_74 ?_
        refine ev_if_eq C (tgt := 99) (by decide) dX6_stepLine_77 (fun q77 => ?_) (fun q77 => ?_)
        · replace hs := (if_pos q77).symm.trans hs
          exact (t_X6_stepLine_99 C  hs)
        · replace hs := (if_neg q77).symm.trans hs
          refine ev_aload_n C (x := .ref o) rfl trivial dX6_stepLine_80 ?_
          refine ev_dup C rfl dX6_stepLine_81 ?_
          obtain ⟨x82, e82, hs⟩ := aB hs
          refine ev_get C (ci := 6) (k := 2) rfl wu_6 (by decide) wf_X6_75 (gI_F e82) dX6_stepLine_82 ?_
          refine ev_iconst C (v := 1) dX6_stepLine_85 (by decide) ?_
          refine ev_iadd C dX6_stepLine_86 ?_
          obtain ⟨h87, e87, hs⟩ := aB hs
          refine ev_put C (ci := 6) (k := 2) rfl wu_6 (by decide) tyX6 tyX6_ok nmX6 wf_X6_75 rfl trivial e87 dX6_stepLine_87 ?_
          refine ev_aload_n C (x := .ref o) rfl trivial dX6_stepLine_90 ?_
          obtain ⟨eo91, hs⟩ := kO_at hs
          obtain ⟨x91, h91, e91, hs⟩ := cI_at hs
          refine ev_callV C (T_X6_test _ _ _ _ e91) (ci := 6) rfl eo91 wc_X6_test wm_X6_65 wi_X6_test ws_X6_test wz_X6 hy_X6_test ⟨(Nat.le_of_ble_eq_true rfl), (Nat.le_of_ble_eq_true rfl)⟩ ⟨(Nat.le_refl _), (Nat.le_refl _)⟩ (Nat.le_of_ble_eq_true rfl) rfl dX6_stepLine_91 ?_
          refine ev_if_ne C (tgt := 99) (by decide) dX6_stepLine_94 (fun q94 => ?_) (fun q94 => ?_)
          · replace hs := (if_neg q94).symm.trans hs
            exact (t_X6_stepLine_99 C  hs)
          · replace hs := (if_pos q94).symm.trans hs
            refine ev_iconst C (v := 0) dX6_stepLine_97 (by decide) ?_
            obtain ⟨hz, rfl, rfl⟩ := rtZ_at hs
            exact ev_zret C rfl hz rfl (Nat.le_refl _) (Nat.le_refl _) rfl dX6_stepLine_98
      · replace hs := (if_pos q49).symm.trans hs
        refine ev_iconst C (v := 0) dX6_stepLine_52 (by decide) ?_
        obtain ⟨hz, rfl, rfl⟩ := rtZ_at hs
        exact ev_zret C rfl hz rfl (Nat.le_refl _) (Nat.le_refl _) rfl dX6_stepLine_53
  · replace hs := (if_neg q9).symm.trans hs
    refine ev_aload_n C (x := .ref o) rfl trivial dX6_stepLine_12 ?_
    refine ev_iconst C (v := 5) dX6_stepLine_13 (by decide) ?_
    obtain ⟨eo14, hs⟩ := kO_at hs
    obtain ⟨x14, h14, e14, hs⟩ := cI_at hs
    refine ev_callV C (T_X6_fail _ _ _ _ _ e14) (ci := 6) rfl eo14 wc_X6_fail wm_X6_51 wi_X6_fail ws_X6_fail wz_X6 hy_X6_fail ⟨(Nat.le_of_ble_eq_true rfl), (Nat.le_of_ble_eq_true rfl)⟩ ⟨(Nat.le_refl _), (Nat.le_refl _)⟩ (Nat.le_of_ble_eq_true rfl) rfl dX6_stepLine_14 ?_
    obtain ⟨hz, rfl, rfl⟩ := rtZ_at hs
    exact ev_zret C rfl hz rfl (Nat.le_refl _) (Nat.le_refl _) rfl dX6_stepLine_17
end
-- X6_line
theorem dX6_line_0 : decode cX6_line 0 = .ok (.aload_n 0, 1) := by decide +kernel
theorem dX6_line_1 : decode cX6_line 1 = .ok (.invokevirtual 44, 3) := by decide +kernel
theorem dX6_line_4 : decode cX6_line 4 = .ok (.iconst 1, 1) := by decide +kernel
theorem dX6_line_5 : decode cX6_line 5 = .ok (.if_icmp .eq 9, 3) := by decide +kernel
theorem dX6_line_8 : decode cX6_line 8 = .ok (.aload_n 0, 1) := by decide +kernel
theorem dX6_line_9 : decode cX6_line 9 = .ok (.iconst 1, 1) := by decide +kernel
theorem dX6_line_10 : decode cX6_line 10 = .ok (.invokevirtual 51, 3) := by decide +kernel
theorem dX6_line_13 : decode cX6_line 13 = .ok (.ireturn, 1) := by decide +kernel
theorem dX6_line_14 : decode cX6_line 14 = .ok (.aload_n 0, 1) := by decide +kernel
theorem dX6_line_15 : decode cX6_line 15 = .ok (.invokevirtual 84, 3) := by decide +kernel
theorem dX6_line_18 : decode cX6_line 18 = .ok (.istore_n 1, 1) := by decide +kernel
theorem dX6_line_19 : decode cX6_line 19 = .ok (.iload_n 1, 1) := by decide +kernel
theorem dX6_line_20 : decode cX6_line 20 = .ok (.ifCond .lt 36, 3) := by decide +kernel
theorem dX6_line_23 : decode cX6_line 23 = .ok (.iload_n 1, 1) := by decide +kernel
theorem dX6_line_24 : decode cX6_line 24 = .ok (.iconst 5, 1) := by decide +kernel
theorem dX6_line_25 : decode cX6_line 25 = .ok (.if_icmp .ge 31, 3) := by decide +kernel
theorem dX6_line_28 : decode cX6_line 28 = .ok (.aload_n 0, 1) := by decide +kernel
theorem dX6_line_29 : decode cX6_line 29 = .ok (.dup, 1) := by decide +kernel
theorem dX6_line_30 : decode cX6_line 30 = .ok (.getfield 75, 3) := by decide +kernel
theorem dX6_line_33 : decode cX6_line 33 = .ok (.iconst 1, 1) := by decide +kernel
theorem dX6_line_34 : decode cX6_line 34 = .ok (.iadd, 1) := by decide +kernel
theorem dX6_line_35 : decode cX6_line 35 = .ok (.putfield 75, 3) := by decide +kernel
theorem dX6_line_38 : decode cX6_line 38 = .ok (.iload_n 1, 1) := by decide +kernel
theorem dX6_line_39 : decode cX6_line 39 = .ok (.iconst 4, 1) := by decide +kernel
theorem dX6_line_40 : decode cX6_line 40 = .ok (.if_icmp .ne 10, 3) := by decide +kernel
theorem dX6_line_43 : decode cX6_line 43 = .ok (.aload_n 0, 1) := by decide +kernel
theorem dX6_line_44 : decode cX6_line 44 = .ok (.invokevirtual 87, 3) := by decide +kernel
theorem dX6_line_47 : decode cX6_line 47 = .ok (.goto 8, 3) := by decide +kernel
theorem dX6_line_50 : decode cX6_line 50 = .ok (.aload_n 0, 1) := by decide +kernel
theorem dX6_line_51 : decode cX6_line 51 = .ok (.iload_n 1, 1) := by decide +kernel
theorem dX6_line_52 : decode cX6_line 52 = .ok (.invokevirtual 90, 3) := by decide +kernel
theorem dX6_line_55 : decode cX6_line 55 = .ok (.ireturn, 1) := by decide +kernel
theorem dX6_line_56 : decode cX6_line 56 = .ok (.aload_n 0, 1) := by decide +kernel
theorem dX6_line_57 : decode cX6_line 57 = .ok (.getfield 18, 3) := by decide +kernel
theorem dX6_line_60 : decode cX6_line 60 = .ok (.aload_n 0, 1) := by decide +kernel
theorem dX6_line_61 : decode cX6_line 61 = .ok (.invokevirtual 93, 3) := by decide +kernel
theorem dX6_line_64 : decode cX6_line 64 = .ok (.invokevirtual 97, 3) := by decide +kernel
theorem dX6_line_67 : decode cX6_line 67 = .ok (.istore_n 2, 1) := by decide +kernel
theorem dX6_line_68 : decode cX6_line 68 = .ok (.iload_n 2, 1) := by decide +kernel
theorem dX6_line_69 : decode cX6_line 69 = .ok (.ifCond .lt 12, 3) := by decide +kernel
theorem dX6_line_72 : decode cX6_line 72 = .ok (.iload_n 2, 1) := by decide +kernel
theorem dX6_line_73 : decode cX6_line 73 = .ok (.getstatic 61, 3) := by decide +kernel
theorem dX6_line_76 : decode cX6_line 76 = .ok (.iconst 1, 1) := by decide +kernel
theorem dX6_line_77 : decode cX6_line 77 = .ok (.iaload, 1) := by decide +kernel
theorem dX6_line_78 : decode cX6_line 78 = .ok (.if_icmp .lt 9, 3) := by decide +kernel
theorem dX6_line_81 : decode cX6_line 81 = .ok (.aload_n 0, 1) := by decide +kernel
theorem dX6_line_82 : decode cX6_line 82 = .ok (.iconst 2, 1) := by decide +kernel
theorem dX6_line_83 : decode cX6_line 83 = .ok (.invokevirtual 51, 3) := by decide +kernel
theorem dX6_line_86 : decode cX6_line 86 = .ok (.ireturn, 1) := by decide +kernel
theorem dX6_line_87 : decode cX6_line 87 = .ok (.aload_n 0, 1) := by decide +kernel
theorem dX6_line_88 : decode cX6_line 88 = .ok (.iload_n 2, 1) := by decide +kernel
theorem dX6_line_89 : decode cX6_line 89 = .ok (.invokevirtual 101, 3) := by decide +kernel
theorem dX6_line_92 : decode cX6_line 92 = .ok (.ireturn, 1) := by decide +kernel
def s_X6_line_81  (l0 : Nat) (h : aH) : aO :=
  kO h l0 6 (cI (s_X6_fail l0 2 h) fun x83 h83 => rtZ x83 h83)
def s_X6_line_56  (l0 : Nat) (h : aH) : aO :=
  (gO h (.ref l0) 6 5).bind fun x57 => kO h l0 6 (cJ (s_X6_meaning l0 h) fun x61 h61 => kO h61 x57 2 (cI (s_X2_slotOf x57 x61 h61) fun x64 h64 => if x64 < 0 then (s_X6_line_81 l0 h64) else ((ldI .int h64 (.ref (aE + 1)) 1).bind fun x77 => if x64 < x77 then (kO h64 l0 6 (cI (s_X6_stepLine l0 x64 h64) fun x89 h89 => rtZ x89 h89)) else (s_X6_line_81 l0 h64))))
def s_X6_line (o : Nat) (h : aH) : aO :=
  kO h o 6 (cI (s_X6_kind o h) fun x1 h1 => if x1 = 1 then (kO h1 o 6 (cI (s_X6_reserved o h1) fun x15 h15 => if x15 < 0 then (s_X6_line_56 o h15) else (if 5 ≤ x15 then (s_X6_line_56 o h15) else ((gI h15 (.ref o) 6 2).bind fun x30 => (pF h15 (.ref o) 6 2 (.int (x30 + 1))).bind fun h35 => if x15 = 4 then (kO h35 o 6 (cI (s_X6_sightLine o h35) fun x44 h44 => rtZ x44 h44)) else (kO h35 o 6 (cI (s_X6_spanLine o x15 h35) fun x52 h52 => rtZ x52 h52)))))) else (kO h1 o 6 (cI (s_X6_fail o 1 h1) fun x10 h10 => rtZ x10 h10)))
section
variable {p : Program} {l : Launch} {e : Env} {s : State} {m : MethodId} {args : Array Value} {below : List Frame} {meth : Method} {c : Code} {D : va_G} {B0 : Nat} {X : Nat → Nat} {ws0 : va_W} {r : aR} {h' : aH} {mc ms : Nat}
theorem t_X6_line_81 (C : Cx p l s m args meth c B0 X RX6 "line" cX6_line 3 (some .boolean) [])   {l0 : Nat} {h : aH} (hs : s_X6_line_81  l0 h = some (r, h')) : Ev p l e { frames := 5, cells := mc, slots := ms, locals := 118 } s m args below meth c D B0 X ws0 r h' mc ms 3 mc ms 81 [some (.ref l0), none, none] [] h := by
  unfold s_X6_line_81 at hs
  refine ev_aload_n C (x := .ref l0) rfl trivial dX6_line_81 ?_
  refine ev_iconst C (v := 2) dX6_line_82 (by decide) ?_
  obtain ⟨eo83, hs⟩ := kO_at hs
  obtain ⟨x83, h83, e83, hs⟩ := cI_at hs
  refine ev_callV C (T_X6_fail _ _ _ _ _ e83) (ci := 6) rfl eo83 wc_X6_fail wm_X6_51 wi_X6_fail ws_X6_fail wz_X6 hy_X6_fail ⟨(Nat.le_of_ble_eq_true rfl), (Nat.le_of_ble_eq_true rfl)⟩ ⟨(Nat.le_refl _), (Nat.le_refl _)⟩ (Nat.le_of_ble_eq_true rfl) rfl dX6_line_83 ?_
  obtain ⟨hz, rfl, rfl⟩ := rtZ_at hs
  exact ev_zret C rfl hz rfl (Nat.le_refl _) (Nat.le_refl _) rfl dX6_line_86
theorem t_X6_line_56 (C : Cx p l s m args meth c B0 X RX6 "line" cX6_line 3 (some .boolean) [])   {l0 : Nat} {h : aH} (hs : s_X6_line_56  l0 h = some (r, h')) : Ev p l e { frames := 5, cells := mc, slots := ms, locals := 118 } s m args below meth c D B0 X ws0 r h' mc ms 3 mc ms 56 [some (.ref l0), none, none] [] h := by
  unfold s_X6_line_56 at hs
  refine ev_aload_n C (x := .ref l0) rfl trivial dX6_line_56 ?_
  obtain ⟨x57, e57, hs⟩ := aB hs
  refine ev_get C (ci := 6) (k := 5) rfl wu_6 (by decide) wf_X6_18 (gO_F e57) dX6_line_57 ?_
  refine ev_aload_n C (x := .ref l0) rfl trivial dX6_line_60 ?_
  obtain ⟨eo61, hs⟩ := kO_at hs
  obtain ⟨x61, h61, e61, hs⟩ := cJ_at hs
  refine ev_callV C (T_X6_meaning _ _ _ _ e61) (ci := 6) rfl eo61 wc_X6_meaning wm_X6_93 wi_X6_meaning ws_X6_meaning wz_X6 hy_X6_meaning ⟨(Nat.le_of_ble_eq_true rfl), (Nat.le_of_ble_eq_true rfl)⟩ ⟨(Nat.le_refl _), (Nat.le_refl _)⟩ (Nat.le_of_ble_eq_true rfl) rfl dX6_line_61 ?_
  obtain ⟨eo64, hs⟩ := kO_at hs
  obtain ⟨x64, h64, e64, hs⟩ := cI_at hs
  refine ev_callVN C (T_X2_slotOf _ _ _ _ _ e64) (ci := 2) rfl eo64 wc_X2_slotOf wn_X6_97 wi_X2_slotOf ws_X2_slotOf wz_X2 hy_X2_slotOf ⟨(Nat.le_of_ble_eq_true rfl), (Nat.le_of_ble_eq_true rfl)⟩ ⟨(Nat.le_refl _), (Nat.le_refl _)⟩ (Nat.le_of_ble_eq_true rfl) rfl dX6_line_64 ?_
  refine ev_istore_n C (by decide) dX6_line_67 ?_
  refine ev_iload_n C rfl dX6_line_68 ?_
  refine ev_if_lt C (tgt := 81) (by decide) dX6_line_69 (fun q69 => ?_) (fun q69 => ?_)
  · replace hs := (if_pos q69).symm.trans hs
    exact Ev.keep [true, true, false] (t_X6_line_81 C  hs)
  · replace hs := (if_neg q69).symm.trans hs
    refine ev_iload_n C rfl dX6_line_72 ?_
    refine ev_getsBASEN C wg_X6_61 dX6_line_73 ?_
    refine ev_iconst C (v := 1) dX6_line_76 (by decide) ?_
    obtain ⟨x77, e77, hs⟩ := aB hs
    refine ev_iald C e77 dX6_line_77 ?_
    refine ev_icmp_lt C (tgt := 87) (by decide) dX6_line_78 (fun q78 => ?_) (fun q78 => ?_)
    · replace hs := (if_pos q78).symm.trans hs
      refine ev_aload_n C (x := .ref l0) rfl trivial dX6_line_87 ?_
      refine ev_iload_n C rfl dX6_line_88 ?_
      obtain ⟨eo89, hs⟩ := kO_at hs
      obtain ⟨x89, h89, e89, hs⟩ := cI_at hs
      refine ev_callV C (T_X6_stepLine _ _ _ _ _ e89) (ci := 6) rfl eo89 wc_X6_stepLine wm_X6_101 wi_X6_stepLine ws_X6_stepLine wz_X6 hy_X6_stepLine ⟨(Nat.le_of_ble_eq_true rfl), (Nat.le_of_ble_eq_true rfl)⟩ ⟨(Nat.le_refl _), (Nat.le_refl _)⟩ (Nat.le_of_ble_eq_true rfl) rfl dX6_line_89 ?_
      obtain ⟨hz, rfl, rfl⟩ := rtZ_at hs
      exact ev_zret C rfl hz rfl (Nat.le_refl _) (Nat.le_refl _) rfl dX6_line_92
    · replace hs := (if_neg q78).symm.trans hs
      exact Ev.keep [true, true, false] (t_X6_line_81 C  hs)
theorem hy_X6_line : yX6_line.cls ≠ "java/lang/invoke/MethodHandle" ∧ yX6_line.cls ≠ "java/lang/invoke/VarHandle" ∧ (parseMethodDescriptor yX6_line.desc).map (fun d => d.parameters.length) = some 0 := by decide +kernel
theorem T_X6_line (o : Nat) (h : aH) (r : aR) (h' : aH) (hs : s_X6_line o h = some (r, h')) : Mt yX6_line (Cond.code yX6_line cX6_line 3 (some .boolean) :: aTB) 5 118 0 0 [.ref o] h r h' := by
  unfold s_X6_line at hs
  refine Mt_of (k := 2) (by decide) rfl (fun p l e s m args below meth c D B0 X ws0 C => ?_)
  show Ev p l e { frames := 5, cells := 0, slots := 0, locals := 118 } s m args below meth c D B0 X ws0 r h' 0 0 3 0 0 0 [some (.ref o), none, none] [] h
  refine ev_aload_n C (x := .ref o) rfl trivial dX6_line_0 ?_
  obtain ⟨eo1, hs⟩ := kO_at hs
  obtain ⟨x1, h1, e1, hs⟩ := cI_at hs
  refine ev_callV C (T_X6_kind _ _ _ _ e1) (ci := 6) rfl eo1 wc_X6_kind wm_X6_44 wi_X6_kind ws_X6_kind wz_X6 hy_X6_kind ⟨(Nat.le_of_ble_eq_true rfl), (Nat.le_of_ble_eq_true rfl)⟩ ⟨(Nat.le_refl _), (Nat.le_refl _)⟩ (Nat.le_of_ble_eq_true rfl) rfl dX6_line_1 ?_
  refine ev_iconst C (v := 1) dX6_line_4 (by decide) ?_
  refine ev_icmp_eq C (tgt := 14) (by decide) dX6_line_5 (fun q5 => ?_) (fun q5 => ?_)
  · replace hs := (if_pos q5).symm.trans hs
    refine ev_aload_n C (x := .ref o) rfl trivial dX6_line_14 ?_
    obtain ⟨eo15, hs⟩ := kO_at hs
    obtain ⟨x15, h15, e15, hs⟩ := cI_at hs
    refine ev_callV C (T_X6_reserved _ _ _ _ e15) (ci := 6) rfl eo15 wc_X6_reserved wm_X6_84 wi_X6_reserved ws_X6_reserved wz_X6 hy_X6_reserved ⟨(Nat.le_of_ble_eq_true rfl), (Nat.le_of_ble_eq_true rfl)⟩ ⟨(Nat.le_refl _), (Nat.le_refl _)⟩ (Nat.le_of_ble_eq_true rfl) rfl dX6_line_15 ?_
    refine ev_istore_n C (by decide) dX6_line_18 ?_
    refine ev_iload_n C rfl dX6_line_19 ?_
    refine ev_if_lt C (tgt := 56) (by decide) dX6_line_20 (fun q20 => ?_) (fun q20 => ?_)
    · replace hs := (if_pos q20).symm.trans hs
      exact Ev.keep [true, false, true] (t_X6_line_56 C  hs)
    · replace hs := (if_neg q20).symm.trans hs
      refine ev_iload_n C rfl dX6_line_23 ?_
      refine ev_iconst C (v := 5) dX6_line_24 (by decide) ?_
      refine ev_icmp_ge C (tgt := 56) (by decide) dX6_line_25 (fun q25 => ?_) (fun q25 => ?_)
      · replace hs := (if_pos q25).symm.trans hs
        exact Ev.keep [true, false, true] (t_X6_line_56 C  hs)
      · replace hs := (if_neg q25).symm.trans hs
        refine ev_aload_n C (x := .ref o) rfl trivial dX6_line_28 ?_
        refine ev_dup C rfl dX6_line_29 ?_
        obtain ⟨x30, e30, hs⟩ := aB hs
        refine ev_get C (ci := 6) (k := 2) rfl wu_6 (by decide) wf_X6_75 (gI_F e30) dX6_line_30 ?_
        refine ev_iconst C (v := 1) dX6_line_33 (by decide) ?_
        refine ev_iadd C dX6_line_34 ?_
        obtain ⟨h35, e35, hs⟩ := aB hs
        refine ev_put C (ci := 6) (k := 2) rfl wu_6 (by decide) tyX6 tyX6_ok nmX6 wf_X6_75 rfl trivial e35 dX6_line_35 ?_
        refine ev_iload_n C rfl dX6_line_38 ?_
        refine ev_iconst C (v := 4) dX6_line_39 (by decide) ?_
        refine ev_icmp_ne C (tgt := 50) (by decide) dX6_line_40 (fun q40 => ?_) (fun q40 => ?_)
        · replace hs := (if_neg q40).symm.trans hs
          refine ev_aload_n C (x := .ref o) rfl trivial dX6_line_50 ?_
          refine ev_iload_n C rfl dX6_line_51 ?_
          obtain ⟨eo52, hs⟩ := kO_at hs
          obtain ⟨x52, h52, e52, hs⟩ := cI_at hs
          refine ev_callV C (T_X6_spanLine _ _ _ _ _ e52) (ci := 6) rfl eo52 wc_X6_spanLine wm_X6_90 wi_X6_spanLine ws_X6_spanLine wz_X6 hy_X6_spanLine ⟨(Nat.le_of_ble_eq_true rfl), (Nat.le_of_ble_eq_true rfl)⟩ ⟨(Nat.le_refl _), (Nat.le_refl _)⟩ (Nat.le_of_ble_eq_true rfl) rfl dX6_line_52 ?_
          obtain ⟨hz, rfl, rfl⟩ := rtZ_at hs
          exact ev_zret C rfl hz rfl (Nat.le_refl _) (Nat.le_refl _) rfl dX6_line_55
        · replace hs := (if_pos q40).symm.trans hs
          refine ev_aload_n C (x := .ref o) rfl trivial dX6_line_43 ?_
          obtain ⟨eo44, hs⟩ := kO_at hs
          obtain ⟨x44, h44, e44, hs⟩ := cI_at hs
          refine ev_callV C (T_X6_sightLine _ _ _ _ e44) (ci := 6) rfl eo44 wc_X6_sightLine wm_X6_87 wi_X6_sightLine ws_X6_sightLine wz_X6 hy_X6_sightLine ⟨(Nat.le_of_ble_eq_true rfl), (Nat.le_of_ble_eq_true rfl)⟩ ⟨(Nat.le_refl _), (Nat.le_refl _)⟩ (Nat.le_of_ble_eq_true rfl) rfl dX6_line_44 ?_
          refine ev_goto C (tgt := 55) (by decide) dX6_line_47 ?_
          obtain ⟨hz, rfl, rfl⟩ := rtZ_at hs
          exact ev_zret C rfl hz rfl (Nat.le_refl _) (Nat.le_refl _) rfl dX6_line_55
  · replace hs := (if_neg q5).symm.trans hs
    refine ev_aload_n C (x := .ref o) rfl trivial dX6_line_8 ?_
    refine ev_iconst C (v := 1) dX6_line_9 (by decide) ?_
    obtain ⟨eo10, hs⟩ := kO_at hs
    obtain ⟨x10, h10, e10, hs⟩ := cI_at hs
    refine ev_callV C (T_X6_fail _ _ _ _ _ e10) (ci := 6) rfl eo10 wc_X6_fail wm_X6_51 wi_X6_fail ws_X6_fail wz_X6 hy_X6_fail ⟨(Nat.le_of_ble_eq_true rfl), (Nat.le_of_ble_eq_true rfl)⟩ ⟨(Nat.le_refl _), (Nat.le_refl _)⟩ (Nat.le_of_ble_eq_true rfl) rfl dX6_line_10 ?_
    obtain ⟨hz, rfl, rfl⟩ := rtZ_at hs
    exact ev_zret C rfl hz rfl (Nat.le_refl _) (Nat.le_refl _) rfl dX6_line_13
end
-- X6_readThing
theorem dX6_readThing_0 : decode cX6_readThing 0 = .ok (.aload_n 3, 1) := by decide +kernel
theorem dX6_readThing_1 : decode cX6_readThing 1 = .ok (.invokevirtual 29, 3) := by decide +kernel
theorem dX6_readThing_4 : decode cX6_readThing 4 = .ok (.aload_n 0, 1) := by decide +kernel
theorem dX6_readThing_5 : decode cX6_readThing 5 = .ok (.aload_n 1, 1) := by decide +kernel
theorem dX6_readThing_6 : decode cX6_readThing 6 = .ok (.iload_n 2, 1) := by decide +kernel
theorem dX6_readThing_7 : decode cX6_readThing 7 = .ok (.aload_n 3, 1) := by decide +kernel
theorem dX6_readThing_8 : decode cX6_readThing 8 = .ok (.aload_n 3, 1) := by decide +kernel
theorem dX6_readThing_9 : decode cX6_readThing 9 = .ok (.getfield 22, 3) := by decide +kernel
theorem dX6_readThing_12 : decode cX6_readThing 12 = .ok (.invokevirtual 32, 3) := by decide +kernel
theorem dX6_readThing_15 : decode cX6_readThing 15 = .ok (.aload_n 0, 1) := by decide +kernel
theorem dX6_readThing_16 : decode cX6_readThing 16 = .ok (.bipush 9, 2) := by decide +kernel
theorem dX6_readThing_18 : decode cX6_readThing 18 = .ok (.putfield 36, 3) := by decide +kernel
theorem dX6_readThing_21 : decode cX6_readThing 21 = .ok (.iconst 0, 1) := by decide +kernel
theorem dX6_readThing_22 : decode cX6_readThing 22 = .ok (.istore 4, 2) := by decide +kernel
theorem dX6_readThing_24 : decode cX6_readThing 24 = .ok (.iload 4, 2) := by decide +kernel
theorem dX6_readThing_26 : decode cX6_readThing 26 = .ok (.sipush 400, 3) := by decide +kernel
theorem dX6_readThing_29 : decode cX6_readThing 29 = .ok (.if_icmp .gt 57, 3) := by decide +kernel
theorem dX6_readThing_32 : decode cX6_readThing 32 = .ok (.aload_n 0, 1) := by decide +kernel
theorem dX6_readThing_33 : decode cX6_readThing 33 = .ok (.invokevirtual 40, 3) := by decide +kernel
theorem dX6_readThing_36 : decode cX6_readThing 36 = .ok (.ifCond .ne 5, 3) := by decide +kernel
theorem dX6_readThing_39 : decode cX6_readThing 39 = .ok (.iconst 0, 1) := by decide +kernel
theorem dX6_readThing_40 : decode cX6_readThing 40 = .ok (.ireturn, 1) := by decide +kernel
theorem dX6_readThing_41 : decode cX6_readThing 41 = .ok (.aload_n 0, 1) := by decide +kernel
theorem dX6_readThing_42 : decode cX6_readThing 42 = .ok (.invokevirtual 44, 3) := by decide +kernel
theorem dX6_readThing_45 : decode cX6_readThing 45 = .ok (.ifCond .ne 24, 3) := by decide +kernel
theorem dX6_readThing_48 : decode cX6_readThing 48 = .ok (.aload_n 3, 1) := by decide +kernel
theorem dX6_readThing_49 : decode cX6_readThing 49 = .ok (.invokevirtual 48, 3) := by decide +kernel
theorem dX6_readThing_52 : decode cX6_readThing 52 = .ok (.ifCond .ne 11, 3) := by decide +kernel
theorem dX6_readThing_55 : decode cX6_readThing 55 = .ok (.aload_n 0, 1) := by decide +kernel
theorem dX6_readThing_56 : decode cX6_readThing 56 = .ok (.iconst 5, 1) := by decide +kernel
theorem dX6_readThing_57 : decode cX6_readThing 57 = .ok (.invokevirtual 51, 3) := by decide +kernel
theorem dX6_readThing_60 : decode cX6_readThing 60 = .ok (.ifCond .eq 7, 3) := by decide +kernel
theorem dX6_readThing_63 : decode cX6_readThing 63 = .ok (.iconst 1, 1) := by decide +kernel
theorem dX6_readThing_64 : decode cX6_readThing 64 = .ok (.goto 4, 3) := by decide +kernel
theorem dX6_readThing_67 : decode cX6_readThing 67 = .ok (.iconst 0, 1) := by decide +kernel
theorem dX6_readThing_68 : decode cX6_readThing 68 = .ok (.ireturn, 1) := by decide +kernel
theorem dX6_readThing_69 : decode cX6_readThing 69 = .ok (.aload_n 0, 1) := by decide +kernel
theorem dX6_readThing_70 : decode cX6_readThing 70 = .ok (.bipush 59, 2) := by decide +kernel
theorem dX6_readThing_72 : decode cX6_readThing 72 = .ok (.invokevirtual 55, 3) := by decide +kernel
theorem dX6_readThing_75 : decode cX6_readThing 75 = .ok (.ifCond .ne 5, 3) := by decide +kernel
theorem dX6_readThing_78 : decode cX6_readThing 78 = .ok (.iconst 0, 1) := by decide +kernel
theorem dX6_readThing_79 : decode cX6_readThing 79 = .ok (.ireturn, 1) := by decide +kernel
theorem dX6_readThing_80 : decode cX6_readThing 80 = .ok (.iinc 4 1, 3) := by decide +kernel
theorem dX6_readThing_83 : decode cX6_readThing 83 = .ok (.goto (-59), 3) := by decide +kernel
theorem dX6_readThing_86 : decode cX6_readThing 86 = .ok (.aload_n 0, 1) := by decide +kernel
theorem dX6_readThing_87 : decode cX6_readThing 87 = .ok (.iconst 1, 1) := by decide +kernel
theorem dX6_readThing_88 : decode cX6_readThing 88 = .ok (.invokevirtual 51, 3) := by decide +kernel
theorem dX6_readThing_91 : decode cX6_readThing 91 = .ok (.ireturn, 1) := by decide +kernel
def s_X6_readThing_24_b  (k24 : Nat → Nat → Int32 → aH → aO) (l0 : Nat) (l3 : Nat) (l4 : Int32) (h : aH) : aO :=
  if 400 < l4 then (kO h l0 6 (cI (s_X6_fail l0 1 h) fun x88 h88 => rtZ x88 h88)) else (kO h l0 6 (cI (s_X6_line l0 h) fun x33 h33 => if x33 = 0 then (rtZ 0 h33) else (kO h33 l0 6 (cI (s_X6_kind l0 h33) fun x42 h42 => if x42 = 0 then (kO h42 l3 2 (cI (s_X2_fits l3 h42) fun x49 h49 => if x49 = 0 then (kO h49 l0 6 (cI (s_X6_fail l0 5 h49) fun x57 h57 => if x57 = 0 then (rtZ 0 h57) else (rtZ 1 h57))) else (rtZ 1 h49))) else (kO h42 l0 6 (cI (s_X6_pass l0 59 h42) fun x72 h72 => if x72 = 0 then (rtZ 0 h72) else (k24 l0 l3 (l4 + 1) h72)))))))
def s_X6_readThing_24  (n : Nat) : Nat → Nat → Int32 → aH → aO := lpF (fun _ _ _ _ => none) (s_X6_readThing_24_b ) n
def s_X6_readThing (o : Nat) (a1 : Nat) (a2 : Int32) (a3 : Nat) (h : aH) : aO :=
  kO h a3 2 (cN (s_X2_clear a3 h) fun h1 => (gO h1 (.ref a3) 2 16).bind fun x9 => kO h1 o 6 (cN (s_X6_begin o a1 a2 a3 x9 h1) fun h12 => (pF h12 (.ref o) 6 4 (.int 9)).bind fun h18 => s_X6_readThing_24 FU o a3 0 h18))
section
variable {p : Program} {l : Launch} {e : Env} {s : State} {m : MethodId} {args : Array Value} {below : List Frame} {meth : Method} {c : Code} {D : va_G} {B0 : Nat} {X : Nat → Nat} {ws0 : va_W} {r : aR} {h' : aH} {mc ms : Nat}
theorem t_X6_readThing_24_b (C : Cx p l s m args meth c B0 X RX6 "readThing" cX6_readThing 5 (some .boolean) [])   {k24 : Nat → Nat → Int32 → aH → aO} (K24 : ∀ (l0 : Nat) (l3 : Nat) (l4 : Int32) (h : aH), k24 l0 l3 l4 h = some (r, h') → Ev p l e { frames := 6, cells := mc, slots := ms, locals := 140 } s m args below meth c D B0 X ws0 r h' mc ms 5 mc ms 24 [some (.ref l0), none, none, some (.ref l3), some (.int l4)] [] h) {l0 : Nat} {l3 : Nat} {l4 : Int32} {h : aH} (hs : s_X6_readThing_24_b  k24 l0 l3 l4 h = some (r, h')) : Ev p l e { frames := 6, cells := mc, slots := ms, locals := 140 } s m args below meth c D B0 X ws0 r h' mc ms 5 mc ms 24 [some (.ref l0), none, none, some (.ref l3), some (.int l4)] [] h := by
  unfold s_X6_readThing_24_b at hs
  refine ev_iload C rfl dX6_readThing_24 ?_
  refine ev_sipush C (v := 400) dX6_readThing_26 (by decide) ?_
  refine ev_icmp_gt C (tgt := 86) (by decide) dX6_readThing_29 (fun q29 => ?_) (fun q29 => ?_)
  · replace hs := (if_pos q29).symm.trans hs
    refine ev_aload_n C (x := .ref l0) rfl trivial dX6_readThing_86 ?_
    refine ev_iconst C (v := 1) dX6_readThing_87 (by decide) ?_
    obtain ⟨eo88, hs⟩ := kO_at hs
    obtain ⟨x88, h88, e88, hs⟩ := cI_at hs
    refine ev_callV C (T_X6_fail _ _ _ _ _ e88) (ci := 6) rfl eo88 wc_X6_fail wm_X6_51 wi_X6_fail ws_X6_fail wz_X6 hy_X6_fail ⟨(Nat.le_of_ble_eq_true rfl), (Nat.le_of_ble_eq_true rfl)⟩ ⟨(Nat.le_refl _), (Nat.le_refl _)⟩ (Nat.le_of_ble_eq_true rfl) rfl dX6_readThing_88 ?_
    obtain ⟨hz, rfl, rfl⟩ := rtZ_at hs
    exact ev_zret C rfl hz rfl (Nat.le_refl _) (Nat.le_refl _) rfl dX6_readThing_91
  · replace hs := (if_neg q29).symm.trans hs
    refine ev_aload_n C (x := .ref l0) rfl trivial dX6_readThing_32 ?_
    obtain ⟨eo33, hs⟩ := kO_at hs
    obtain ⟨x33, h33, e33, hs⟩ := cI_at hs
    refine ev_callV C (T_X6_line _ _ _ _ e33) (ci := 6) rfl eo33 wc_X6_line wm_X6_40 wi_X6_line ws_X6_line wz_X6 hy_X6_line ⟨(Nat.le_of_ble_eq_true rfl), (Nat.le_of_ble_eq_true rfl)⟩ ⟨(Nat.le_refl _), (Nat.le_refl _)⟩ (Nat.le_of_ble_eq_true rfl) rfl dX6_readThing_33 ?_
    refine ev_if_ne C (tgt := 41) (by decide) dX6_readThing_36 (fun q36 => ?_) (fun q36 => ?_)
    · replace hs := (if_neg q36).symm.trans hs
      refine ev_aload_n C (x := .ref l0) rfl trivial dX6_readThing_41 ?_
      obtain ⟨eo42, hs⟩ := kO_at hs
      obtain ⟨x42, h42, e42, hs⟩ := cI_at hs
      refine ev_callV C (T_X6_kind _ _ _ _ e42) (ci := 6) rfl eo42 wc_X6_kind wm_X6_44 wi_X6_kind ws_X6_kind wz_X6 hy_X6_kind ⟨(Nat.le_of_ble_eq_true rfl), (Nat.le_of_ble_eq_true rfl)⟩ ⟨(Nat.le_refl _), (Nat.le_refl _)⟩ (Nat.le_of_ble_eq_true rfl) rfl dX6_readThing_42 ?_
      refine ev_if_ne C (tgt := 69) (by decide) dX6_readThing_45 (fun q45 => ?_) (fun q45 => ?_)
      · replace hs := (if_neg q45).symm.trans hs
        refine ev_aload_n C (x := .ref l0) rfl trivial dX6_readThing_69 ?_
        refine ev_bipush C (v := 59) dX6_readThing_70 (by decide) ?_
        obtain ⟨eo72, hs⟩ := kO_at hs
        obtain ⟨x72, h72, e72, hs⟩ := cI_at hs
        refine ev_callV C (T_X6_pass _ _ _ _ _ e72) (ci := 6) rfl eo72 wc_X6_pass wm_X6_55 wi_X6_pass ws_X6_pass wz_X6 hy_X6_pass ⟨(Nat.le_of_ble_eq_true rfl), (Nat.le_of_ble_eq_true rfl)⟩ ⟨(Nat.le_refl _), (Nat.le_refl _)⟩ (Nat.le_of_ble_eq_true rfl) rfl dX6_readThing_72 ?_
        refine ev_if_ne C (tgt := 80) (by decide) dX6_readThing_75 (fun q75 => ?_) (fun q75 => ?_)
        · replace hs := (if_neg q75).symm.trans hs
          refine ev_iinc C (i := 4) (n := 1) (x := l4) (v := l4 + 1) rfl (congrArg (fun z => l4 + z) (show Int32.ofInt 1 = 1 by decide)) (by decide) dX6_readThing_80 ?_
          refine ev_goto C (tgt := 24) (by decide) dX6_readThing_83 ?_
          exact (K24 _ _ _ _ hs)
        · replace hs := (if_pos q75).symm.trans hs
          refine ev_iconst C (v := 0) dX6_readThing_78 (by decide) ?_
          obtain ⟨hz, rfl, rfl⟩ := rtZ_at hs
          exact ev_zret C rfl hz rfl (Nat.le_refl _) (Nat.le_refl _) rfl dX6_readThing_79
      · replace hs := (if_pos q45).symm.trans hs
        refine ev_aload_n C (x := .ref l3) rfl trivial dX6_readThing_48 ?_
        obtain ⟨eo49, hs⟩ := kO_at hs
        obtain ⟨x49, h49, e49, hs⟩ := cI_at hs
        refine ev_callVN C (T_X2_fits _ _ _ _ e49) (ci := 2) rfl eo49 wc_X2_fits wn_X6_48 wi_X2_fits ws_X2_fits wz_X2 hy_X2_fits ⟨(Nat.le_of_ble_eq_true rfl), (Nat.le_of_ble_eq_true rfl)⟩ ⟨(Nat.le_refl _), (Nat.le_refl _)⟩ (Nat.le_of_ble_eq_true rfl) rfl dX6_readThing_49 ?_
        refine ev_if_ne C (tgt := 63) (by decide) dX6_readThing_52 (fun q52 => ?_) (fun q52 => ?_)
        · replace hs := (if_neg q52).symm.trans hs
          refine ev_iconst C (v := 1) dX6_readThing_63 (by decide) ?_
          refine ev_goto C (tgt := 68) (by decide) dX6_readThing_64 ?_
          obtain ⟨hz, rfl, rfl⟩ := rtZ_at hs
          exact ev_zret C rfl hz rfl (Nat.le_refl _) (Nat.le_refl _) rfl dX6_readThing_68
        · replace hs := (if_pos q52).symm.trans hs
          refine ev_aload_n C (x := .ref l0) rfl trivial dX6_readThing_55 ?_
          refine ev_iconst C (v := 5) dX6_readThing_56 (by decide) ?_
          obtain ⟨eo57, hs⟩ := kO_at hs
          obtain ⟨x57, h57, e57, hs⟩ := cI_at hs
          refine ev_callV C (T_X6_fail _ _ _ _ _ e57) (ci := 6) rfl eo57 wc_X6_fail wm_X6_51 wi_X6_fail ws_X6_fail wz_X6 hy_X6_fail ⟨(Nat.le_of_ble_eq_true rfl), (Nat.le_of_ble_eq_true rfl)⟩ ⟨(Nat.le_refl _), (Nat.le_refl _)⟩ (Nat.le_of_ble_eq_true rfl) rfl dX6_readThing_57 ?_
          refine ev_if_eq C (tgt := 67) (by decide) dX6_readThing_60 (fun q60 => ?_) (fun q60 => ?_)
          · replace hs := (if_pos q60).symm.trans hs
            refine ev_iconst C (v := 0) dX6_readThing_67 (by decide) ?_
            obtain ⟨hz, rfl, rfl⟩ := rtZ_at hs
            exact ev_zret C rfl hz rfl (Nat.le_refl _) (Nat.le_refl _) rfl dX6_readThing_68
          · replace hs := (if_neg q60).symm.trans hs
            refine ev_iconst C (v := 1) dX6_readThing_63 (by decide) ?_
            refine ev_goto C (tgt := 68) (by decide) dX6_readThing_64 ?_
            obtain ⟨hz, rfl, rfl⟩ := rtZ_at hs
            exact ev_zret C rfl hz rfl (Nat.le_refl _) (Nat.le_refl _) rfl dX6_readThing_68
    · replace hs := (if_pos q36).symm.trans hs
      refine ev_iconst C (v := 0) dX6_readThing_39 (by decide) ?_
      obtain ⟨hz, rfl, rfl⟩ := rtZ_at hs
      exact ev_zret C rfl hz rfl (Nat.le_refl _) (Nat.le_refl _) rfl dX6_readThing_40
theorem t_X6_readThing_24 (C : Cx p l s m args meth c B0 X RX6 "readThing" cX6_readThing 5 (some .boolean) [])   : ∀ (n : Nat) {l0 : Nat} {l3 : Nat} {l4 : Int32} {h : aH} (hs : s_X6_readThing_24  n l0 l3 l4 h = some (r, h')), Ev p l e { frames := 6, cells := mc, slots := ms, locals := 140 } s m args below meth c D B0 X ws0 r h' mc ms 5 mc ms 24 [some (.ref l0), none, none, some (.ref l3), some (.int l4)] [] h
  | 0, _, _, _, _, hs => nomatch hs
  | n + 1, _, _, _, _, hs => t_X6_readThing_24_b C  (k24 := s_X6_readThing_24  n) (fun _ _ _ _ hs => t_X6_readThing_24 C  n hs) hs
theorem hy_X6_readThing : yX6_readThing.cls ≠ "java/lang/invoke/MethodHandle" ∧ yX6_readThing.cls ≠ "java/lang/invoke/VarHandle" ∧ (parseMethodDescriptor yX6_readThing.desc).map (fun d => d.parameters.length) = some 3 := by decide +kernel
theorem T_X6_readThing (o : Nat) (a1 : Nat) (a2 : Int32) (a3 : Nat) (h : aH) (r : aR) (h' : aH) (hs : s_X6_readThing o a1 a2 a3 h = some (r, h')) : Mt yX6_readThing (Cond.code yX6_readThing cX6_readThing 5 (some .boolean) :: aTB) 6 140 0 0 [.ref o, .ref a1, .int a2, .ref a3] h r h' := by
  unfold s_X6_readThing at hs
  refine Mt_of (k := 1) (by decide) rfl (fun p l e s m args below meth c D B0 X ws0 C => ?_)
  show Ev p l e { frames := 6, cells := 0, slots := 0, locals := 140 } s m args below meth c D B0 X ws0 r h' 0 0 5 0 0 0 [some (.ref o), some (.ref a1), some (.int a2), some (.ref a3), none] [] h
  refine ev_aload_n C (x := .ref a3) rfl trivial dX6_readThing_0 ?_
  obtain ⟨eo1, hs⟩ := kO_at hs
  obtain ⟨h1, e1, hs⟩ := cN_at hs
  refine ev_callVN C (T_X2_clear _ _ _ _ e1) (ci := 2) rfl eo1 wc_X2_clear wn_X6_29 wi_X2_clear ws_X2_clear wz_X2 hy_X2_clear ⟨(Nat.le_of_ble_eq_true rfl), (Nat.le_of_ble_eq_true rfl)⟩ ⟨(Nat.le_refl _), (Nat.le_refl _)⟩ (Nat.le_of_ble_eq_true rfl) rfl dX6_readThing_1 ?_
  refine ev_aload_n C (x := .ref o) rfl trivial dX6_readThing_4 ?_
  refine ev_aload_n C (x := .ref a1) rfl trivial dX6_readThing_5 ?_
  refine ev_iload_n C rfl dX6_readThing_6 ?_
  refine ev_aload_n C (x := .ref a3) rfl trivial dX6_readThing_7 ?_
  refine ev_aload_n C (x := .ref a3) rfl trivial dX6_readThing_8 ?_
  obtain ⟨x9, e9, hs⟩ := aB hs
  refine ev_getN C (ci := 2) (k := 16) rfl wu_2 (by decide) wg_X6_22 (gO_F e9) dX6_readThing_9 ?_
  obtain ⟨eo12, hs⟩ := kO_at hs
  obtain ⟨h12, e12, hs⟩ := cN_at hs
  refine ev_callV C (T_X6_begin _ _ _ _ _ _ _ _ e12) (ci := 6) rfl eo12 wc_X6_begin wm_X6_32 wi_X6_begin ws_X6_begin wz_X6 hy_X6_begin ⟨(Nat.le_of_ble_eq_true rfl), (Nat.le_of_ble_eq_true rfl)⟩ ⟨(Nat.le_refl _), (Nat.le_refl _)⟩ (Nat.le_of_ble_eq_true rfl) rfl dX6_readThing_12 ?_
  refine ev_aload_n C (x := .ref o) rfl trivial dX6_readThing_15 ?_
  refine ev_bipush C (v := 9) dX6_readThing_16 (by decide) ?_
  obtain ⟨h18, e18, hs⟩ := aB hs
  refine ev_put C (ci := 6) (k := 4) rfl wu_6 (by decide) tyX6 tyX6_ok nmX6 wf_X6_36 rfl trivial e18 dX6_readThing_18 ?_
  refine ev_iconst C (v := 0) dX6_readThing_21 (by decide) ?_
  refine ev_istore C (by decide) dX6_readThing_22 ?_
  exact Ev.keep [true, false, false, true, true] (t_X6_readThing_24 C  FU hs)
end
-- X6_readTest
theorem dX6_readTest_0 : decode cX6_readTest 0 = .ok (.aload 4, 2) := by decide +kernel
theorem dX6_readTest_2 : decode cX6_readTest 2 = .ok (.invokevirtual 58, 3) := by decide +kernel
theorem dX6_readTest_5 : decode cX6_readTest 5 = .ok (.aload_n 0, 1) := by decide +kernel
theorem dX6_readTest_6 : decode cX6_readTest 6 = .ok (.aload_n 1, 1) := by decide +kernel
theorem dX6_readTest_7 : decode cX6_readTest 7 = .ok (.iload_n 2, 1) := by decide +kernel
theorem dX6_readTest_8 : decode cX6_readTest 8 = .ok (.aload_n 3, 1) := by decide +kernel
theorem dX6_readTest_9 : decode cX6_readTest 9 = .ok (.aload 4, 2) := by decide +kernel
theorem dX6_readTest_11 : decode cX6_readTest 11 = .ok (.invokevirtual 32, 3) := by decide +kernel
theorem dX6_readTest_14 : decode cX6_readTest 14 = .ok (.aload_n 0, 1) := by decide +kernel
theorem dX6_readTest_15 : decode cX6_readTest 15 = .ok (.getstatic 61, 3) := by decide +kernel
theorem dX6_readTest_18 : decode cX6_readTest 18 = .ok (.iconst 1, 1) := by decide +kernel
theorem dX6_readTest_19 : decode cX6_readTest 19 = .ok (.iaload, 1) := by decide +kernel
theorem dX6_readTest_20 : decode cX6_readTest 20 = .ok (.putfield 36, 3) := by decide +kernel
theorem dX6_readTest_23 : decode cX6_readTest 23 = .ok (.aload_n 0, 1) := by decide +kernel
theorem dX6_readTest_24 : decode cX6_readTest 24 = .ok (.invokevirtual 65, 3) := by decide +kernel
theorem dX6_readTest_27 : decode cX6_readTest 27 = .ok (.ifCond .eq 22, 3) := by decide +kernel
theorem dX6_readTest_30 : decode cX6_readTest 30 = .ok (.aload_n 0, 1) := by decide +kernel
theorem dX6_readTest_31 : decode cX6_readTest 31 = .ok (.invokevirtual 44, 3) := by decide +kernel
theorem dX6_readTest_34 : decode cX6_readTest 34 = .ok (.ifCond .eq 11, 3) := by decide +kernel
theorem dX6_readTest_37 : decode cX6_readTest 37 = .ok (.aload_n 0, 1) := by decide +kernel
theorem dX6_readTest_38 : decode cX6_readTest 38 = .ok (.iconst 1, 1) := by decide +kernel
theorem dX6_readTest_39 : decode cX6_readTest 39 = .ok (.invokevirtual 51, 3) := by decide +kernel
theorem dX6_readTest_42 : decode cX6_readTest 42 = .ok (.ifCond .eq 7, 3) := by decide +kernel
theorem dX6_readTest_45 : decode cX6_readTest 45 = .ok (.iconst 1, 1) := by decide +kernel
theorem dX6_readTest_46 : decode cX6_readTest 46 = .ok (.goto 4, 3) := by decide +kernel
theorem dX6_readTest_49 : decode cX6_readTest 49 = .ok (.iconst 0, 1) := by decide +kernel
theorem dX6_readTest_50 : decode cX6_readTest 50 = .ok (.ireturn, 1) := by decide +kernel
def s_X6_readTest (o : Nat) (a1 : Nat) (a2 : Int32) (a3 : Nat) (a4 : Nat) (h : aH) : aO :=
  kO h a4 0 (cN (s_X0_clear a4 h) fun h2 => kO h2 o 6 (cN (s_X6_begin o a1 a2 a3 a4 h2) fun h11 => (ldI .int h11 (.ref (aE + 1)) 1).bind fun x19 => (pF h11 (.ref o) 6 4 (.int x19)).bind fun h20 => kO h20 o 6 (cI (s_X6_test o h20) fun x24 h24 => if x24 = 0 then (rtZ 0 h24) else (kO h24 o 6 (cI (s_X6_kind o h24) fun x31 h31 => if x31 = 0 then (rtZ 1 h31) else (kO h31 o 6 (cI (s_X6_fail o 1 h31) fun x39 h39 => if x39 = 0 then (rtZ 0 h39) else (rtZ 1 h39))))))))
section
variable {p : Program} {l : Launch} {e : Env} {s : State} {m : MethodId} {args : Array Value} {below : List Frame} {meth : Method} {c : Code} {D : va_G} {B0 : Nat} {X : Nat → Nat} {ws0 : va_W} {r : aR} {h' : aH} {mc ms : Nat}
theorem hy_X6_readTest : yX6_readTest.cls ≠ "java/lang/invoke/MethodHandle" ∧ yX6_readTest.cls ≠ "java/lang/invoke/VarHandle" ∧ (parseMethodDescriptor yX6_readTest.desc).map (fun d => d.parameters.length) = some 4 := by decide +kernel
theorem T_X6_readTest (o : Nat) (a1 : Nat) (a2 : Int32) (a3 : Nat) (a4 : Nat) (h : aH) (r : aR) (h' : aH) (hs : s_X6_readTest o a1 a2 a3 a4 h = some (r, h')) : Mt yX6_readTest (Cond.code yX6_readTest cX6_readTest 5 (some .boolean) :: aTB) 4 99 0 0 [.ref o, .ref a1, .int a2, .ref a3, .ref a4] h r h' := by
  unfold s_X6_readTest at hs
  refine Mt_of (k := 0) (by decide) rfl (fun p l e s m args below meth c D B0 X ws0 C => ?_)
  show Ev p l e { frames := 4, cells := 0, slots := 0, locals := 99 } s m args below meth c D B0 X ws0 r h' 0 0 5 0 0 0 [some (.ref o), some (.ref a1), some (.int a2), some (.ref a3), some (.ref a4)] [] h
  refine ev_aload C (x := .ref a4) rfl trivial dX6_readTest_0 ?_
  obtain ⟨eo2, hs⟩ := kO_at hs
  obtain ⟨h2, e2, hs⟩ := cN_at hs
  refine ev_callVN C (T_X0_clear _ _ _ _ e2) (ci := 0) rfl eo2 wc_X0_clear wn_X6_58 wi_X0_clear ws_X0_clear wz_X0 hy_X0_clear ⟨(Nat.le_of_ble_eq_true rfl), (Nat.le_of_ble_eq_true rfl)⟩ ⟨(Nat.le_refl _), (Nat.le_refl _)⟩ (Nat.le_of_ble_eq_true rfl) rfl dX6_readTest_2 ?_
  refine ev_aload_n C (x := .ref o) rfl trivial dX6_readTest_5 ?_
  refine ev_aload_n C (x := .ref a1) rfl trivial dX6_readTest_6 ?_
  refine ev_iload_n C rfl dX6_readTest_7 ?_
  refine ev_aload_n C (x := .ref a3) rfl trivial dX6_readTest_8 ?_
  refine ev_aload C (x := .ref a4) rfl trivial dX6_readTest_9 ?_
  obtain ⟨eo11, hs⟩ := kO_at hs
  obtain ⟨h11, e11, hs⟩ := cN_at hs
  refine ev_callV C (T_X6_begin _ _ _ _ _ _ _ _ e11) (ci := 6) rfl eo11 wc_X6_begin wm_X6_32 wi_X6_begin ws_X6_begin wz_X6 hy_X6_begin ⟨(Nat.le_of_ble_eq_true rfl), (Nat.le_of_ble_eq_true rfl)⟩ ⟨(Nat.le_refl _), (Nat.le_refl _)⟩ (Nat.le_of_ble_eq_true rfl) rfl dX6_readTest_11 ?_
  refine ev_aload_n C (x := .ref o) rfl trivial dX6_readTest_14 ?_
  refine ev_getsBASEN C wg_X6_61 dX6_readTest_15 ?_
  refine ev_iconst C (v := 1) dX6_readTest_18 (by decide) ?_
  obtain ⟨x19, e19, hs⟩ := aB hs
  refine ev_iald C e19 dX6_readTest_19 ?_
  obtain ⟨h20, e20, hs⟩ := aB hs
  refine ev_put C (ci := 6) (k := 4) rfl wu_6 (by decide) tyX6 tyX6_ok nmX6 wf_X6_36 rfl trivial e20 dX6_readTest_20 ?_
  refine ev_aload_n C (x := .ref o) rfl trivial dX6_readTest_23 ?_
  obtain ⟨eo24, hs⟩ := kO_at hs
  obtain ⟨x24, h24, e24, hs⟩ := cI_at hs
  refine ev_callV C (T_X6_test _ _ _ _ e24) (ci := 6) rfl eo24 wc_X6_test wm_X6_65 wi_X6_test ws_X6_test wz_X6 hy_X6_test ⟨(Nat.le_of_ble_eq_true rfl), (Nat.le_of_ble_eq_true rfl)⟩ ⟨(Nat.le_refl _), (Nat.le_refl _)⟩ (Nat.le_of_ble_eq_true rfl) rfl dX6_readTest_24 ?_
  refine ev_if_eq C (tgt := 49) (by decide) dX6_readTest_27 (fun q27 => ?_) (fun q27 => ?_)
  · replace hs := (if_pos q27).symm.trans hs
    refine ev_iconst C (v := 0) dX6_readTest_49 (by decide) ?_
    obtain ⟨hz, rfl, rfl⟩ := rtZ_at hs
    exact ev_zret C rfl hz rfl (Nat.le_refl _) (Nat.le_refl _) rfl dX6_readTest_50
  · replace hs := (if_neg q27).symm.trans hs
    refine ev_aload_n C (x := .ref o) rfl trivial dX6_readTest_30 ?_
    obtain ⟨eo31, hs⟩ := kO_at hs
    obtain ⟨x31, h31, e31, hs⟩ := cI_at hs
    refine ev_callV C (T_X6_kind _ _ _ _ e31) (ci := 6) rfl eo31 wc_X6_kind wm_X6_44 wi_X6_kind ws_X6_kind wz_X6 hy_X6_kind ⟨(Nat.le_of_ble_eq_true rfl), (Nat.le_of_ble_eq_true rfl)⟩ ⟨(Nat.le_refl _), (Nat.le_refl _)⟩ (Nat.le_of_ble_eq_true rfl) rfl dX6_readTest_31 ?_
    refine ev_if_eq C (tgt := 45) (by decide) dX6_readTest_34 (fun q34 => ?_) (fun q34 => ?_)
    · replace hs := (if_pos q34).symm.trans hs
      refine ev_iconst C (v := 1) dX6_readTest_45 (by decide) ?_
      refine ev_goto C (tgt := 50) (by decide) dX6_readTest_46 ?_
      obtain ⟨hz, rfl, rfl⟩ := rtZ_at hs
      exact ev_zret C rfl hz rfl (Nat.le_refl _) (Nat.le_refl _) rfl dX6_readTest_50
    · replace hs := (if_neg q34).symm.trans hs
      refine ev_aload_n C (x := .ref o) rfl trivial dX6_readTest_37 ?_
      refine ev_iconst C (v := 1) dX6_readTest_38 (by decide) ?_
      obtain ⟨eo39, hs⟩ := kO_at hs
      obtain ⟨x39, h39, e39, hs⟩ := cI_at hs
      refine ev_callV C (T_X6_fail _ _ _ _ _ e39) (ci := 6) rfl eo39 wc_X6_fail wm_X6_51 wi_X6_fail ws_X6_fail wz_X6 hy_X6_fail ⟨(Nat.le_of_ble_eq_true rfl), (Nat.le_of_ble_eq_true rfl)⟩ ⟨(Nat.le_refl _), (Nat.le_refl _)⟩ (Nat.le_of_ble_eq_true rfl) rfl dX6_readTest_39 ?_
      refine ev_if_eq C (tgt := 49) (by decide) dX6_readTest_42 (fun q42 => ?_) (fun q42 => ?_)
      · replace hs := (if_pos q42).symm.trans hs
        refine ev_iconst C (v := 0) dX6_readTest_49 (by decide) ?_
        obtain ⟨hz, rfl, rfl⟩ := rtZ_at hs
        exact ev_zret C rfl hz rfl (Nat.le_refl _) (Nat.le_refl _) rfl dX6_readTest_50
      · replace hs := (if_neg q42).symm.trans hs
        refine ev_iconst C (v := 1) dX6_readTest_45 (by decide) ?_
        refine ev_goto C (tgt := 50) (by decide) dX6_readTest_46 ?_
        obtain ⟨hz, rfl, rfl⟩ := rtZ_at hs
        exact ev_zret C rfl hz rfl (Nat.le_refl _) (Nat.le_refl _) rfl dX6_readTest_50
end
-- X6_readSum
theorem dX6_readSum_0 : decode cX6_readSum 0 = .ok (.aload 4, 2) := by decide +kernel
theorem dX6_readSum_2 : decode cX6_readSum 2 = .ok (.invokevirtual 58, 3) := by decide +kernel
theorem dX6_readSum_5 : decode cX6_readSum 5 = .ok (.aload_n 0, 1) := by decide +kernel
theorem dX6_readSum_6 : decode cX6_readSum 6 = .ok (.aload_n 1, 1) := by decide +kernel
theorem dX6_readSum_7 : decode cX6_readSum 7 = .ok (.iload_n 2, 1) := by decide +kernel
theorem dX6_readSum_8 : decode cX6_readSum 8 = .ok (.aload_n 3, 1) := by decide +kernel
theorem dX6_readSum_9 : decode cX6_readSum 9 = .ok (.aload 4, 2) := by decide +kernel
theorem dX6_readSum_11 : decode cX6_readSum 11 = .ok (.invokevirtual 32, 3) := by decide +kernel
theorem dX6_readSum_14 : decode cX6_readSum 14 = .ok (.aload_n 0, 1) := by decide +kernel
theorem dX6_readSum_15 : decode cX6_readSum 15 = .ok (.getstatic 61, 3) := by decide +kernel
theorem dX6_readSum_18 : decode cX6_readSum 18 = .ok (.iconst 2, 1) := by decide +kernel
theorem dX6_readSum_19 : decode cX6_readSum 19 = .ok (.iaload, 1) := by decide +kernel
theorem dX6_readSum_20 : decode cX6_readSum 20 = .ok (.putfield 36, 3) := by decide +kernel
theorem dX6_readSum_23 : decode cX6_readSum 23 = .ok (.aload_n 0, 1) := by decide +kernel
theorem dX6_readSum_24 : decode cX6_readSum 24 = .ok (.invokevirtual 68, 3) := by decide +kernel
theorem dX6_readSum_27 : decode cX6_readSum 27 = .ok (.ifCond .eq 22, 3) := by decide +kernel
theorem dX6_readSum_30 : decode cX6_readSum 30 = .ok (.aload_n 0, 1) := by decide +kernel
theorem dX6_readSum_31 : decode cX6_readSum 31 = .ok (.invokevirtual 44, 3) := by decide +kernel
theorem dX6_readSum_34 : decode cX6_readSum 34 = .ok (.ifCond .eq 11, 3) := by decide +kernel
theorem dX6_readSum_37 : decode cX6_readSum 37 = .ok (.aload_n 0, 1) := by decide +kernel
theorem dX6_readSum_38 : decode cX6_readSum 38 = .ok (.iconst 1, 1) := by decide +kernel
theorem dX6_readSum_39 : decode cX6_readSum 39 = .ok (.invokevirtual 51, 3) := by decide +kernel
theorem dX6_readSum_42 : decode cX6_readSum 42 = .ok (.ifCond .eq 7, 3) := by decide +kernel
theorem dX6_readSum_45 : decode cX6_readSum 45 = .ok (.iconst 1, 1) := by decide +kernel
theorem dX6_readSum_46 : decode cX6_readSum 46 = .ok (.goto 4, 3) := by decide +kernel
theorem dX6_readSum_49 : decode cX6_readSum 49 = .ok (.iconst 0, 1) := by decide +kernel
theorem dX6_readSum_50 : decode cX6_readSum 50 = .ok (.ireturn, 1) := by decide +kernel
def s_X6_readSum (o : Nat) (a1 : Nat) (a2 : Int32) (a3 : Nat) (a4 : Nat) (h : aH) : aO :=
  kO h a4 0 (cN (s_X0_clear a4 h) fun h2 => kO h2 o 6 (cN (s_X6_begin o a1 a2 a3 a4 h2) fun h11 => (ldI .int h11 (.ref (aE + 1)) 2).bind fun x19 => (pF h11 (.ref o) 6 4 (.int x19)).bind fun h20 => kO h20 o 6 (cI (s_X6_sum o h20) fun x24 h24 => if x24 = 0 then (rtZ 0 h24) else (kO h24 o 6 (cI (s_X6_kind o h24) fun x31 h31 => if x31 = 0 then (rtZ 1 h31) else (kO h31 o 6 (cI (s_X6_fail o 1 h31) fun x39 h39 => if x39 = 0 then (rtZ 0 h39) else (rtZ 1 h39))))))))
section
variable {p : Program} {l : Launch} {e : Env} {s : State} {m : MethodId} {args : Array Value} {below : List Frame} {meth : Method} {c : Code} {D : va_G} {B0 : Nat} {X : Nat → Nat} {ws0 : va_W} {r : aR} {h' : aH} {mc ms : Nat}
theorem hy_X6_readSum : yX6_readSum.cls ≠ "java/lang/invoke/MethodHandle" ∧ yX6_readSum.cls ≠ "java/lang/invoke/VarHandle" ∧ (parseMethodDescriptor yX6_readSum.desc).map (fun d => d.parameters.length) = some 4 := by decide +kernel
theorem T_X6_readSum (o : Nat) (a1 : Nat) (a2 : Int32) (a3 : Nat) (a4 : Nat) (h : aH) (r : aR) (h' : aH) (hs : s_X6_readSum o a1 a2 a3 a4 h = some (r, h')) : Mt yX6_readSum (Cond.code yX6_readSum cX6_readSum 5 (some .boolean) :: aTB) 4 99 0 0 [.ref o, .ref a1, .int a2, .ref a3, .ref a4] h r h' := by
  unfold s_X6_readSum at hs
  refine Mt_of (k := 0) (by decide) rfl (fun p l e s m args below meth c D B0 X ws0 C => ?_)
  show Ev p l e { frames := 4, cells := 0, slots := 0, locals := 99 } s m args below meth c D B0 X ws0 r h' 0 0 5 0 0 0 [some (.ref o), some (.ref a1), some (.int a2), some (.ref a3), some (.ref a4)] [] h
  refine ev_aload C (x := .ref a4) rfl trivial dX6_readSum_0 ?_
  obtain ⟨eo2, hs⟩ := kO_at hs
  obtain ⟨h2, e2, hs⟩ := cN_at hs
  refine ev_callVN C (T_X0_clear _ _ _ _ e2) (ci := 0) rfl eo2 wc_X0_clear wn_X6_58 wi_X0_clear ws_X0_clear wz_X0 hy_X0_clear ⟨(Nat.le_of_ble_eq_true rfl), (Nat.le_of_ble_eq_true rfl)⟩ ⟨(Nat.le_refl _), (Nat.le_refl _)⟩ (Nat.le_of_ble_eq_true rfl) rfl dX6_readSum_2 ?_
  refine ev_aload_n C (x := .ref o) rfl trivial dX6_readSum_5 ?_
  refine ev_aload_n C (x := .ref a1) rfl trivial dX6_readSum_6 ?_
  refine ev_iload_n C rfl dX6_readSum_7 ?_
  refine ev_aload_n C (x := .ref a3) rfl trivial dX6_readSum_8 ?_
  refine ev_aload C (x := .ref a4) rfl trivial dX6_readSum_9 ?_
  obtain ⟨eo11, hs⟩ := kO_at hs
  obtain ⟨h11, e11, hs⟩ := cN_at hs
  refine ev_callV C (T_X6_begin _ _ _ _ _ _ _ _ e11) (ci := 6) rfl eo11 wc_X6_begin wm_X6_32 wi_X6_begin ws_X6_begin wz_X6 hy_X6_begin ⟨(Nat.le_of_ble_eq_true rfl), (Nat.le_of_ble_eq_true rfl)⟩ ⟨(Nat.le_refl _), (Nat.le_refl _)⟩ (Nat.le_of_ble_eq_true rfl) rfl dX6_readSum_11 ?_
  refine ev_aload_n C (x := .ref o) rfl trivial dX6_readSum_14 ?_
  refine ev_getsBASEN C wg_X6_61 dX6_readSum_15 ?_
  refine ev_iconst C (v := 2) dX6_readSum_18 (by decide) ?_
  obtain ⟨x19, e19, hs⟩ := aB hs
  refine ev_iald C e19 dX6_readSum_19 ?_
  obtain ⟨h20, e20, hs⟩ := aB hs
  refine ev_put C (ci := 6) (k := 4) rfl wu_6 (by decide) tyX6 tyX6_ok nmX6 wf_X6_36 rfl trivial e20 dX6_readSum_20 ?_
  refine ev_aload_n C (x := .ref o) rfl trivial dX6_readSum_23 ?_
  obtain ⟨eo24, hs⟩ := kO_at hs
  obtain ⟨x24, h24, e24, hs⟩ := cI_at hs
  refine ev_callV C (T_X6_sum _ _ _ _ e24) (ci := 6) rfl eo24 wc_X6_sum wm_X6_68 wi_X6_sum ws_X6_sum wz_X6 hy_X6_sum ⟨(Nat.le_of_ble_eq_true rfl), (Nat.le_of_ble_eq_true rfl)⟩ ⟨(Nat.le_refl _), (Nat.le_refl _)⟩ (Nat.le_of_ble_eq_true rfl) rfl dX6_readSum_24 ?_
  refine ev_if_eq C (tgt := 49) (by decide) dX6_readSum_27 (fun q27 => ?_) (fun q27 => ?_)
  · replace hs := (if_pos q27).symm.trans hs
    refine ev_iconst C (v := 0) dX6_readSum_49 (by decide) ?_
    obtain ⟨hz, rfl, rfl⟩ := rtZ_at hs
    exact ev_zret C rfl hz rfl (Nat.le_refl _) (Nat.le_refl _) rfl dX6_readSum_50
  · replace hs := (if_neg q27).symm.trans hs
    refine ev_aload_n C (x := .ref o) rfl trivial dX6_readSum_30 ?_
    obtain ⟨eo31, hs⟩ := kO_at hs
    obtain ⟨x31, h31, e31, hs⟩ := cI_at hs
    refine ev_callV C (T_X6_kind _ _ _ _ e31) (ci := 6) rfl eo31 wc_X6_kind wm_X6_44 wi_X6_kind ws_X6_kind wz_X6 hy_X6_kind ⟨(Nat.le_of_ble_eq_true rfl), (Nat.le_of_ble_eq_true rfl)⟩ ⟨(Nat.le_refl _), (Nat.le_refl _)⟩ (Nat.le_of_ble_eq_true rfl) rfl dX6_readSum_31 ?_
    refine ev_if_eq C (tgt := 45) (by decide) dX6_readSum_34 (fun q34 => ?_) (fun q34 => ?_)
    · replace hs := (if_pos q34).symm.trans hs
      refine ev_iconst C (v := 1) dX6_readSum_45 (by decide) ?_
      refine ev_goto C (tgt := 50) (by decide) dX6_readSum_46 ?_
      obtain ⟨hz, rfl, rfl⟩ := rtZ_at hs
      exact ev_zret C rfl hz rfl (Nat.le_refl _) (Nat.le_refl _) rfl dX6_readSum_50
    · replace hs := (if_neg q34).symm.trans hs
      refine ev_aload_n C (x := .ref o) rfl trivial dX6_readSum_37 ?_
      refine ev_iconst C (v := 1) dX6_readSum_38 (by decide) ?_
      obtain ⟨eo39, hs⟩ := kO_at hs
      obtain ⟨x39, h39, e39, hs⟩ := cI_at hs
      refine ev_callV C (T_X6_fail _ _ _ _ _ e39) (ci := 6) rfl eo39 wc_X6_fail wm_X6_51 wi_X6_fail ws_X6_fail wz_X6 hy_X6_fail ⟨(Nat.le_of_ble_eq_true rfl), (Nat.le_of_ble_eq_true rfl)⟩ ⟨(Nat.le_refl _), (Nat.le_refl _)⟩ (Nat.le_of_ble_eq_true rfl) rfl dX6_readSum_39 ?_
      refine ev_if_eq C (tgt := 49) (by decide) dX6_readSum_42 (fun q42 => ?_) (fun q42 => ?_)
      · replace hs := (if_pos q42).symm.trans hs
        refine ev_iconst C (v := 0) dX6_readSum_49 (by decide) ?_
        obtain ⟨hz, rfl, rfl⟩ := rtZ_at hs
        exact ev_zret C rfl hz rfl (Nat.le_refl _) (Nat.le_refl _) rfl dX6_readSum_50
      · replace hs := (if_neg q42).symm.trans hs
        refine ev_iconst C (v := 1) dX6_readSum_45 (by decide) ?_
        refine ev_goto C (tgt := 50) (by decide) dX6_readSum_46 ?_
        obtain ⟨hz, rfl, rfl⟩ := rtZ_at hs
        exact ev_zret C rfl hz rfl (Nat.le_refl _) (Nat.le_refl _) rfl dX6_readSum_50
end
-- X7_init
theorem dX7_init_0 : decode cX7_init 0 = .ok (.aload_n 0, 1) := by decide +kernel
theorem dX7_init_1 : decode cX7_init 1 = .ok (.invokespecial 3, 3) := by decide +kernel
theorem dX7_init_4 : decode cX7_init 4 = .ok (.aload_n 0, 1) := by decide +kernel
theorem dX7_init_5 : decode cX7_init 5 = .ok (.bipush 9, 2) := by decide +kernel
theorem dX7_init_7 : decode cX7_init 7 = .ok (.newarray .int, 2) := by decide +kernel
theorem dX7_init_9 : decode cX7_init 9 = .ok (.putfield 9, 3) := by decide +kernel
theorem dX7_init_12 : decode cX7_init 12 = .ok (.aload_n 0, 1) := by decide +kernel
theorem dX7_init_13 : decode cX7_init 13 = .ok (.sipush 400, 3) := by decide +kernel
theorem dX7_init_16 : decode cX7_init 16 = .ok (.newarray .int, 2) := by decide +kernel
theorem dX7_init_18 : decode cX7_init 18 = .ok (.putfield 15, 3) := by decide +kernel
theorem dX7_init_21 : decode cX7_init 21 = .ok (.aload_n 0, 1) := by decide +kernel
theorem dX7_init_22 : decode cX7_init 22 = .ok (.sipush 400, 3) := by decide +kernel
theorem dX7_init_25 : decode cX7_init 25 = .ok (.newarray .int, 2) := by decide +kernel
theorem dX7_init_27 : decode cX7_init 27 = .ok (.putfield 18, 3) := by decide +kernel
theorem dX7_init_30 : decode cX7_init 30 = .ok (.aload_n 0, 1) := by decide +kernel
theorem dX7_init_31 : decode cX7_init 31 = .ok (.sipush 400, 3) := by decide +kernel
theorem dX7_init_34 : decode cX7_init 34 = .ok (.newarray .int, 2) := by decide +kernel
theorem dX7_init_36 : decode cX7_init 36 = .ok (.putfield 21, 3) := by decide +kernel
theorem dX7_init_39 : decode cX7_init 39 = .ok (.aload_n 0, 1) := by decide +kernel
theorem dX7_init_40 : decode cX7_init 40 = .ok (.sipush 400, 3) := by decide +kernel
theorem dX7_init_43 : decode cX7_init 43 = .ok (.newarray .int, 2) := by decide +kernel
theorem dX7_init_45 : decode cX7_init 45 = .ok (.putfield 24, 3) := by decide +kernel
theorem dX7_init_48 : decode cX7_init 48 = .ok (.aload_n 0, 1) := by decide +kernel
theorem dX7_init_49 : decode cX7_init 49 = .ok (.iconst 0, 1) := by decide +kernel
theorem dX7_init_50 : decode cX7_init 50 = .ok (.newarray .int, 2) := by decide +kernel
theorem dX7_init_52 : decode cX7_init 52 = .ok (.putfield 27, 3) := by decide +kernel
theorem dX7_init_55 : decode cX7_init 55 = .ok (.aload_n 0, 1) := by decide +kernel
theorem dX7_init_56 : decode cX7_init 56 = .ok (.bipush 13, 2) := by decide +kernel
theorem dX7_init_58 : decode cX7_init 58 = .ok (.newarray .int, 2) := by decide +kernel
theorem dX7_init_60 : decode cX7_init 60 = .ok (.putfield 30, 3) := by decide +kernel
theorem dX7_init_63 : decode cX7_init 63 = .ok (.aload_n 0, 1) := by decide +kernel
theorem dX7_init_64 : decode cX7_init 64 = .ok (.bipush 13, 2) := by decide +kernel
theorem dX7_init_66 : decode cX7_init 66 = .ok (.newarray .int, 2) := by decide +kernel
theorem dX7_init_68 : decode cX7_init 68 = .ok (.putfield 33, 3) := by decide +kernel
theorem dX7_init_71 : decode cX7_init 71 = .ok (.aload_n 0, 1) := by decide +kernel
theorem dX7_init_72 : decode cX7_init 72 = .ok (.aload_n 1, 1) := by decide +kernel
theorem dX7_init_73 : decode cX7_init 73 = .ok (.putfield 36, 3) := by decide +kernel
theorem dX7_init_76 : decode cX7_init 76 = .ok (.aload_n 0, 1) := by decide +kernel
theorem dX7_init_77 : decode cX7_init 77 = .ok (.aload_n 2, 1) := by decide +kernel
theorem dX7_init_78 : decode cX7_init 78 = .ok (.putfield 40, 3) := by decide +kernel
theorem dX7_init_81 : decode cX7_init 81 = .ok (.aload_n 0, 1) := by decide +kernel
theorem dX7_init_82 : decode cX7_init 82 = .ok (.aload_n 3, 1) := by decide +kernel
theorem dX7_init_83 : decode cX7_init 83 = .ok (.putfield 44, 3) := by decide +kernel
theorem dX7_init_86 : decode cX7_init 86 = .ok (.return_, 1) := by decide +kernel
def s_X7_init (o : Nat) (a1 : Nat) (a2 : Nat) (a3 : Nat) (h : aH) : aP :=
  bP (nwA .int h 9) fun o7 h7 => ck (0 + 1) (0 + Int32.toNatClampNeg 9) ((pF h7 (.ref o) 7 3 (.ref o7)).bind fun h9 => bP (nwA .int h9 400) fun o16 h16 => ck (0 + 1 + 1) (0 + Int32.toNatClampNeg 9 + Int32.toNatClampNeg 400) ((pF h16 (.ref o) 7 7 (.ref o16)).bind fun h18 => bP (nwA .int h18 400) fun o25 h25 => ck (0 + 1 + 1 + 1) (0 + Int32.toNatClampNeg 9 + Int32.toNatClampNeg 400 + Int32.toNatClampNeg 400) ((pF h25 (.ref o) 7 8 (.ref o25)).bind fun h27 => bP (nwA .int h27 400) fun o34 h34 => ck (0 + 1 + 1 + 1 + 1) (0 + Int32.toNatClampNeg 9 + Int32.toNatClampNeg 400 + Int32.toNatClampNeg 400 + Int32.toNatClampNeg 400) ((pF h34 (.ref o) 7 9 (.ref o34)).bind fun h36 => bP (nwA .int h36 400) fun o43 h43 => ck (0 + 1 + 1 + 1 + 1 + 1) (0 + Int32.toNatClampNeg 9 + Int32.toNatClampNeg 400 + Int32.toNatClampNeg 400 + Int32.toNatClampNeg 400 + Int32.toNatClampNeg 400) ((pF h43 (.ref o) 7 10 (.ref o43)).bind fun h45 => bP (nwA .int h45 0) fun o50 h50 => ck (0 + 1 + 1 + 1 + 1 + 1 + 1) (0 + Int32.toNatClampNeg 9 + Int32.toNatClampNeg 400 + Int32.toNatClampNeg 400 + Int32.toNatClampNeg 400 + Int32.toNatClampNeg 400 + Int32.toNatClampNeg 0) ((pF h50 (.ref o) 7 11 (.ref o50)).bind fun h52 => bP (nwA .int h52 13) fun o58 h58 => ck (0 + 1 + 1 + 1 + 1 + 1 + 1 + 1) (0 + Int32.toNatClampNeg 9 + Int32.toNatClampNeg 400 + Int32.toNatClampNeg 400 + Int32.toNatClampNeg 400 + Int32.toNatClampNeg 400 + Int32.toNatClampNeg 0 + Int32.toNatClampNeg 13) ((pF h58 (.ref o) 7 12 (.ref o58)).bind fun h60 => bP (nwA .int h60 13) fun o66 h66 => ck (0 + 1 + 1 + 1 + 1 + 1 + 1 + 1 + 1) (0 + Int32.toNatClampNeg 9 + Int32.toNatClampNeg 400 + Int32.toNatClampNeg 400 + Int32.toNatClampNeg 400 + Int32.toNatClampNeg 400 + Int32.toNatClampNeg 0 + Int32.toNatClampNeg 13 + Int32.toNatClampNeg 13) (wC (0 + 1 + 1 + 1 + 1 + 1 + 1 + 1 + 1) (0 + Int32.toNatClampNeg 9 + Int32.toNatClampNeg 400 + Int32.toNatClampNeg 400 + Int32.toNatClampNeg 400 + Int32.toNatClampNeg 400 + Int32.toNatClampNeg 0 + Int32.toNatClampNeg 13 + Int32.toNatClampNeg 13) ((pF h66 (.ref o) 7 13 (.ref o66)).bind fun h68 => (pF h68 (.ref o) 7 0 (.ref a1)).bind fun h73 => (pF h73 (.ref o) 7 1 (.ref a2)).bind fun h78 => (pF h78 (.ref o) 7 2 (.ref a3)).bind fun h83 => some (.inl none, h83))))))))))
section
variable {p : Program} {l : Launch} {e : Env} {s : State} {m : MethodId} {args : Array Value} {below : List Frame} {meth : Method} {c : Code} {D : va_G} {B0 : Nat} {X : Nat → Nat} {ws0 : va_W} {r : aR} {h' : aH} {mc ms : Nat}
theorem hy_X7_init : yX7_init.cls ≠ "java/lang/invoke/MethodHandle" ∧ yX7_init.cls ≠ "java/lang/invoke/VarHandle" ∧ (parseMethodDescriptor yX7_init.desc).map (fun d => d.parameters.length) = some 3 := by decide +kernel
theorem T_X7_init (o : Nat) (a1 : Nat) (a2 : Nat) (a3 : Nat) (h : aH) (r : aR) (h' : aH) (mc ms : Nat) (hs : s_X7_init o a1 a2 a3 h = some (r, h', mc, ms)) : Mt yX7_init (Cond.code yX7_init cX7_init 4 none :: aTB) 1 20 mc ms [.ref o, .ref a1, .ref a2, .ref a3] h r h' := by
  unfold s_X7_init at hs
  refine Mt_of (k := 0) (by decide) rfl (fun p l e s m args below meth c D B0 X ws0 C => ?_)
  show Ev p l e { frames := 1, cells := mc, slots := ms, locals := 20 } s m args below meth c D B0 X ws0 r h' mc ms 4 0 0 0 [some (.ref o), some (.ref a1), some (.ref a2), some (.ref a3)] [] h
  refine ev_aload_n C (x := .ref o) rfl trivial dX7_init_0 ?_
  refine ev_objInit C wm_X7_3 wi_oinit wc_oinit (Nat.le_of_ble_eq_true rfl) (Nat.le_of_ble_eq_true rfl) dX7_init_1 ?_
  refine ev_aload_n C (x := .ref o) rfl trivial dX7_init_4 ?_
  refine ev_bipush C (v := 9) dX7_init_5 (by decide) ?_
  obtain ⟨o7, h7, e7, hs⟩ := bP_at hs
  obtain ⟨c7, z7, hs⟩ := ck_at hs
  refine ev_newa C (atype := .int) (ty := .int) rfl wa_int (fun _ _ => rfl) e7 c7 z7 dX7_init_7 ?_
  obtain ⟨h9, e9, hs⟩ := aB hs
  refine ev_putF C (ci := 7) (k := 3) rfl wu_7 (by decide) tyX7 tyX7_ok nmX7 wf_X7_9 rfl rfl rfl trivial e9 dX7_init_9 ?_
  refine ev_aload_n C (x := .ref o) rfl trivial dX7_init_12 ?_
  refine ev_sipush C (v := 400) dX7_init_13 (by decide) ?_
  obtain ⟨o16, h16, e16, hs⟩ := bP_at hs
  obtain ⟨c16, z16, hs⟩ := ck_at hs
  refine ev_newa C (atype := .int) (ty := .int) rfl wa_int (fun _ _ => rfl) e16 c16 z16 dX7_init_16 ?_
  obtain ⟨h18, e18, hs⟩ := aB hs
  refine ev_putF C (ci := 7) (k := 7) rfl wu_7 (by decide) tyX7 tyX7_ok nmX7 wf_X7_15 rfl rfl rfl trivial e18 dX7_init_18 ?_
  refine ev_aload_n C (x := .ref o) rfl trivial dX7_init_21 ?_
  refine ev_sipush C (v := 400) dX7_init_22 (by decide) ?_
  obtain ⟨o25, h25, e25, hs⟩ := bP_at hs
  obtain ⟨c25, z25, hs⟩ := ck_at hs
  refine ev_newa C (atype := .int) (ty := .int) rfl wa_int (fun _ _ => rfl) e25 c25 z25 dX7_init_25 ?_
  obtain ⟨h27, e27, hs⟩ := aB hs
  refine ev_putF C (ci := 7) (k := 8) rfl wu_7 (by decide) tyX7 tyX7_ok nmX7 wf_X7_18 rfl rfl rfl trivial e27 dX7_init_27 ?_
  refine ev_aload_n C (x := .ref o) rfl trivial dX7_init_30 ?_
  refine ev_sipush C (v := 400) dX7_init_31 (by decide) ?_
  obtain ⟨o34, h34, e34, hs⟩ := bP_at hs
  obtain ⟨c34, z34, hs⟩ := ck_at hs
  refine ev_newa C (atype := .int) (ty := .int) rfl wa_int (fun _ _ => rfl) e34 c34 z34 dX7_init_34 ?_
  obtain ⟨h36, e36, hs⟩ := aB hs
  refine ev_putF C (ci := 7) (k := 9) rfl wu_7 (by decide) tyX7 tyX7_ok nmX7 wf_X7_21 rfl rfl rfl trivial e36 dX7_init_36 ?_
  refine ev_aload_n C (x := .ref o) rfl trivial dX7_init_39 ?_
  refine ev_sipush C (v := 400) dX7_init_40 (by decide) ?_
  obtain ⟨o43, h43, e43, hs⟩ := bP_at hs
  obtain ⟨c43, z43, hs⟩ := ck_at hs
  refine ev_newa C (atype := .int) (ty := .int) rfl wa_int (fun _ _ => rfl) e43 c43 z43 dX7_init_43 ?_
  obtain ⟨h45, e45, hs⟩ := aB hs
  refine ev_putF C (ci := 7) (k := 10) rfl wu_7 (by decide) tyX7 tyX7_ok nmX7 wf_X7_24 rfl rfl rfl trivial e45 dX7_init_45 ?_
  refine ev_aload_n C (x := .ref o) rfl trivial dX7_init_48 ?_
  refine ev_iconst C (v := 0) dX7_init_49 (by decide) ?_
  obtain ⟨o50, h50, e50, hs⟩ := bP_at hs
  obtain ⟨c50, z50, hs⟩ := ck_at hs
  refine ev_newa C (atype := .int) (ty := .int) rfl wa_int (fun _ _ => rfl) e50 c50 z50 dX7_init_50 ?_
  obtain ⟨h52, e52, hs⟩ := aB hs
  refine ev_put C (ci := 7) (k := 11) rfl wu_7 (by decide) tyX7 tyX7_ok nmX7 wf_X7_27 rfl trivial e52 dX7_init_52 ?_
  refine ev_aload_n C (x := .ref o) rfl trivial dX7_init_55 ?_
  refine ev_bipush C (v := 13) dX7_init_56 (by decide) ?_
  obtain ⟨o58, h58, e58, hs⟩ := bP_at hs
  obtain ⟨c58, z58, hs⟩ := ck_at hs
  refine ev_newa C (atype := .int) (ty := .int) rfl wa_int (fun _ _ => rfl) e58 c58 z58 dX7_init_58 ?_
  obtain ⟨h60, e60, hs⟩ := aB hs
  refine ev_putF C (ci := 7) (k := 12) rfl wu_7 (by decide) tyX7 tyX7_ok nmX7 wf_X7_30 rfl rfl rfl trivial e60 dX7_init_60 ?_
  refine ev_aload_n C (x := .ref o) rfl trivial dX7_init_63 ?_
  refine ev_bipush C (v := 13) dX7_init_64 (by decide) ?_
  obtain ⟨o66, h66, e66, hs⟩ := bP_at hs
  obtain ⟨c66, z66, hs⟩ := ck_at hs
  refine ev_newa C (atype := .int) (ty := .int) rfl wa_int (fun _ _ => rfl) e66 c66 z66 dX7_init_66 ?_
  obtain ⟨hw9, rfl, rfl⟩ := wC_at hs
  have hs := hw9
  obtain ⟨h68, e68, hs⟩ := aB hs
  refine ev_putF C (ci := 7) (k := 13) rfl wu_7 (by decide) tyX7 tyX7_ok nmX7 wf_X7_33 rfl rfl rfl trivial e68 dX7_init_68 ?_
  refine ev_aload_n C (x := .ref o) rfl trivial dX7_init_71 ?_
  refine ev_aload_n C (x := .ref a1) rfl trivial dX7_init_72 ?_
  obtain ⟨h73, e73, hs⟩ := aB hs
  refine ev_putF C (ci := 7) (k := 0) rfl wu_7 (by decide) tyX7 tyX7_ok nmX7 wf_X7_36 rfl rfl rfl trivial e73 dX7_init_73 ?_
  refine ev_aload_n C (x := .ref o) rfl trivial dX7_init_76 ?_
  refine ev_aload_n C (x := .ref a2) rfl trivial dX7_init_77 ?_
  obtain ⟨h78, e78, hs⟩ := aB hs
  refine ev_putF C (ci := 7) (k := 1) rfl wu_7 (by decide) tyX7 tyX7_ok nmX7 wf_X7_40 rfl rfl rfl trivial e78 dX7_init_78 ?_
  refine ev_aload_n C (x := .ref o) rfl trivial dX7_init_81 ?_
  refine ev_aload_n C (x := .ref a3) rfl trivial dX7_init_82 ?_
  obtain ⟨h83, e83, hs⟩ := aB hs
  refine ev_putF C (ci := 7) (k := 2) rfl wu_7 (by decide) tyX7 tyX7_ok nmX7 wf_X7_44 rfl rfl rfl trivial e83 dX7_init_83 ?_
  cases hs
  exact ev_vret C rfl rfl (Nat.le_refl _) (Nat.le_refl _) rfl dX7_init_86
end
-- X7_forget
theorem dX7_forget_0 : decode cX7_forget 0 = .ok (.aload_n 0, 1) := by decide +kernel
theorem dX7_forget_1 : decode cX7_forget 1 = .ok (.iconst 0, 1) := by decide +kernel
theorem dX7_forget_2 : decode cX7_forget 2 = .ok (.putfield 48, 3) := by decide +kernel
theorem dX7_forget_5 : decode cX7_forget 5 = .ok (.aload_n 0, 1) := by decide +kernel
theorem dX7_forget_6 : decode cX7_forget 6 = .ok (.iconst 0, 1) := by decide +kernel
theorem dX7_forget_7 : decode cX7_forget 7 = .ok (.putfield 52, 3) := by decide +kernel
theorem dX7_forget_10 : decode cX7_forget 10 = .ok (.return_, 1) := by decide +kernel
def s_X7_forget (o : Nat) (h : aH) : aO :=
  (pZ h (.ref o) 7 4 0).bind fun h2 => (pZ h2 (.ref o) 7 5 0).bind fun h7 => some (.inl none, h7)
section
variable {p : Program} {l : Launch} {e : Env} {s : State} {m : MethodId} {args : Array Value} {below : List Frame} {meth : Method} {c : Code} {D : va_G} {B0 : Nat} {X : Nat → Nat} {ws0 : va_W} {r : aR} {h' : aH} {mc ms : Nat}
theorem hy_X7_forget : yX7_forget.cls ≠ "java/lang/invoke/MethodHandle" ∧ yX7_forget.cls ≠ "java/lang/invoke/VarHandle" ∧ (parseMethodDescriptor yX7_forget.desc).map (fun d => d.parameters.length) = some 0 := by decide +kernel
theorem T_X7_forget (o : Nat) (h : aH) (r : aR) (h' : aH) (hs : s_X7_forget o h = some (r, h')) : Mt yX7_forget (Cond.code yX7_forget cX7_forget 1 none :: aTB) 0 0 0 0 [.ref o] h r h' := by
  unfold s_X7_forget at hs
  refine Mt_of (k := 0) (by decide) rfl (fun p l e s m args below meth c D B0 X ws0 C => ?_)
  show Ev p l e { frames := 0, cells := 0, slots := 0, locals := 0 } s m args below meth c D B0 X ws0 r h' 0 0 1 0 0 0 [some (.ref o)] [] h
  refine ev_aload_n C (x := .ref o) rfl trivial dX7_forget_0 ?_
  refine ev_iconst C (v := 0) dX7_forget_1 (by decide) ?_
  obtain ⟨h2, e2, hs⟩ := aB hs
  refine ev_put C (ci := 7) (k := 4) rfl wu_7 (by decide) tyX7 tyX7_ok nmX7 wf_X7_48 rfl (pZ_F e2).2 (pZ_F e2).1 dX7_forget_2 ?_
  refine ev_aload_n C (x := .ref o) rfl trivial dX7_forget_5 ?_
  refine ev_iconst C (v := 0) dX7_forget_6 (by decide) ?_
  obtain ⟨h7, e7, hs⟩ := aB hs
  refine ev_put C (ci := 7) (k := 5) rfl wu_7 (by decide) tyX7 tyX7_ok nmX7 wf_X7_52 rfl (pZ_F e7).2 (pZ_F e7).1 dX7_forget_7 ?_
  cases hs
  exact ev_vret C rfl rfl (Nat.le_refl _) (Nat.le_refl _) rfl dX7_forget_10
end
-- X7_keptPushes
theorem dX7_keptPushes_0 : decode cX7_keptPushes 0 = .ok (.iload_n 3, 1) := by decide +kernel
theorem dX7_keptPushes_1 : decode cX7_keptPushes 1 = .ok (.istore 6, 2) := by decide +kernel
theorem dX7_keptPushes_3 : decode cX7_keptPushes 3 = .ok (.iconst 0, 1) := by decide +kernel
theorem dX7_keptPushes_4 : decode cX7_keptPushes 4 = .ok (.istore 7, 2) := by decide +kernel
theorem dX7_keptPushes_6 : decode cX7_keptPushes 6 = .ok (.iload 7, 2) := by decide +kernel
theorem dX7_keptPushes_8 : decode cX7_keptPushes 8 = .ok (.aload_n 0, 1) := by decide +kernel
theorem dX7_keptPushes_9 : decode cX7_keptPushes 9 = .ok (.getfield 36, 3) := by decide +kernel
theorem dX7_keptPushes_12 : decode cX7_keptPushes 12 = .ok (.getfield 73, 3) := by decide +kernel
theorem dX7_keptPushes_15 : decode cX7_keptPushes 15 = .ok (.if_icmp .ge 87, 3) := by decide +kernel
theorem dX7_keptPushes_18 : decode cX7_keptPushes 18 = .ok (.iload_n 2, 1) := by decide +kernel
theorem dX7_keptPushes_19 : decode cX7_keptPushes 19 = .ok (.aload_n 0, 1) := by decide +kernel
theorem dX7_keptPushes_20 : decode cX7_keptPushes 20 = .ok (.getfield 36, 3) := by decide +kernel
theorem dX7_keptPushes_23 : decode cX7_keptPushes 23 = .ok (.getfield 73, 3) := by decide +kernel
theorem dX7_keptPushes_26 : decode cX7_keptPushes 26 = .ok (.imul, 1) := by decide +kernel
theorem dX7_keptPushes_27 : decode cX7_keptPushes 27 = .ok (.iload 7, 2) := by decide +kernel
theorem dX7_keptPushes_29 : decode cX7_keptPushes 29 = .ok (.iadd, 1) := by decide +kernel
theorem dX7_keptPushes_30 : decode cX7_keptPushes 30 = .ok (.aload_n 0, 1) := by decide +kernel
theorem dX7_keptPushes_31 : decode cX7_keptPushes 31 = .ok (.getfield 40, 3) := by decide +kernel
theorem dX7_keptPushes_34 : decode cX7_keptPushes 34 = .ok (.getfield 98, 3) := by decide +kernel
theorem dX7_keptPushes_37 : decode cX7_keptPushes 37 = .ok (.imul, 1) := by decide +kernel
theorem dX7_keptPushes_38 : decode cX7_keptPushes 38 = .ok (.istore 8, 2) := by decide +kernel
theorem dX7_keptPushes_40 : decode cX7_keptPushes 40 = .ok (.iload 4, 2) := by decide +kernel
theorem dX7_keptPushes_42 : decode cX7_keptPushes 42 = .ok (.istore 9, 2) := by decide +kernel
theorem dX7_keptPushes_44 : decode cX7_keptPushes 44 = .ok (.iload 9, 2) := by decide +kernel
theorem dX7_keptPushes_46 : decode cX7_keptPushes 46 = .ok (.iload 5, 2) := by decide +kernel
theorem dX7_keptPushes_48 : decode cX7_keptPushes 48 = .ok (.if_icmp .gt 48, 3) := by decide +kernel
theorem dX7_keptPushes_51 : decode cX7_keptPushes 51 = .ok (.iload 6, 2) := by decide +kernel
theorem dX7_keptPushes_53 : decode cX7_keptPushes 53 = .ok (.iload 7, 2) := by decide +kernel
theorem dX7_keptPushes_55 : decode cX7_keptPushes 55 = .ok (.ishr, 1) := by decide +kernel
theorem dX7_keptPushes_56 : decode cX7_keptPushes 56 = .ok (.iconst 1, 1) := by decide +kernel
theorem dX7_keptPushes_57 : decode cX7_keptPushes 57 = .ok (.iand, 1) := by decide +kernel
theorem dX7_keptPushes_58 : decode cX7_keptPushes 58 = .ok (.ifCond .eq 38, 3) := by decide +kernel
theorem dX7_keptPushes_61 : decode cX7_keptPushes 61 = .ok (.aload_n 1, 1) := by decide +kernel
theorem dX7_keptPushes_62 : decode cX7_keptPushes 62 = .ok (.iload 8, 2) := by decide +kernel
theorem dX7_keptPushes_64 : decode cX7_keptPushes 64 = .ok (.iload 9, 2) := by decide +kernel
theorem dX7_keptPushes_66 : decode cX7_keptPushes 66 = .ok (.iadd, 1) := by decide +kernel
theorem dX7_keptPushes_67 : decode cX7_keptPushes 67 = .ok (.iaload, 1) := by decide +kernel
theorem dX7_keptPushes_68 : decode cX7_keptPushes 68 = .ok (.aload_n 0, 1) := by decide +kernel
theorem dX7_keptPushes_69 : decode cX7_keptPushes 69 = .ok (.getfield 30, 3) := by decide +kernel
theorem dX7_keptPushes_72 : decode cX7_keptPushes 72 = .ok (.iload 9, 2) := by decide +kernel
theorem dX7_keptPushes_74 : decode cX7_keptPushes 74 = .ok (.iaload, 1) := by decide +kernel
theorem dX7_keptPushes_75 : decode cX7_keptPushes 75 = .ok (.iand, 1) := by decide +kernel
theorem dX7_keptPushes_76 : decode cX7_keptPushes 76 = .ok (.ifCond .eq 14, 3) := by decide +kernel
theorem dX7_keptPushes_79 : decode cX7_keptPushes 79 = .ok (.iload 6, 2) := by decide +kernel
theorem dX7_keptPushes_81 : decode cX7_keptPushes 81 = .ok (.iconst 1, 1) := by decide +kernel
theorem dX7_keptPushes_82 : decode cX7_keptPushes 82 = .ok (.iload 7, 2) := by decide +kernel
theorem dX7_keptPushes_84 : decode cX7_keptPushes 84 = .ok (.ishl, 1) := by decide +kernel
theorem dX7_keptPushes_85 : decode cX7_keptPushes 85 = .ok (.iconst (-1), 1) := by decide +kernel
theorem dX7_keptPushes_86 : decode cX7_keptPushes 86 = .ok (.ixor, 1) := by decide +kernel
theorem dX7_keptPushes_87 : decode cX7_keptPushes 87 = .ok (.iand, 1) := by decide +kernel
theorem dX7_keptPushes_88 : decode cX7_keptPushes 88 = .ok (.istore 6, 2) := by decide +kernel
theorem dX7_keptPushes_90 : decode cX7_keptPushes 90 = .ok (.iinc 9 1, 3) := by decide +kernel
theorem dX7_keptPushes_93 : decode cX7_keptPushes 93 = .ok (.goto (-49), 3) := by decide +kernel
theorem dX7_keptPushes_96 : decode cX7_keptPushes 96 = .ok (.iinc 7 1, 3) := by decide +kernel
theorem dX7_keptPushes_99 : decode cX7_keptPushes 99 = .ok (.goto (-93), 3) := by decide +kernel
theorem dX7_keptPushes_102 : decode cX7_keptPushes 102 = .ok (.iload 6, 2) := by decide +kernel
theorem dX7_keptPushes_104 : decode cX7_keptPushes 104 = .ok (.ireturn, 1) := by decide +kernel
def s_X7_keptPushes_44_b (k6 : Nat → Nat → Int32 → Int32 → Int32 → Int32 → Int32 → aH → aO) (k44 : Nat → Nat → Int32 → Int32 → Int32 → Int32 → Int32 → Int32 → Int32 → aH → aO) (l0 : Nat) (l1 : Nat) (l2 : Int32) (l4 : Int32) (l5 : Int32) (l6 : Int32) (l7 : Int32) (l8 : Int32) (l9 : Int32) (h : aH) : aO :=
  if l5 < l9 then (k6 l0 l1 l2 l4 l5 l6 (l7 + 1) h) else (if ((l6 >>> (l7 &&& 31)) &&& 1) = 0 then (k6 l0 l1 l2 l4 l5 l6 (l7 + 1) h) else ((ldI .int h (.ref l1) (l8 + l9)).bind fun x67 => (gO h (.ref l0) 7 12).bind fun x69 => (ldI .int h (.ref x69) l9).bind fun x74 => if (x67 &&& x74) = 0 then (k44 l0 l1 l2 l4 l5 l6 l7 l8 (l9 + 1) h) else (k44 l0 l1 l2 l4 l5 (l6 &&& ((1 <<< (l7 &&& 31)) ^^^ (-1))) l7 l8 (l9 + 1) h)))
def s_X7_keptPushes_44 (k6 : Nat → Nat → Int32 → Int32 → Int32 → Int32 → Int32 → aH → aO) (n : Nat) : Nat → Nat → Int32 → Int32 → Int32 → Int32 → Int32 → Int32 → Int32 → aH → aO := lpF (fun _ _ _ _ _ _ _ _ _ _ => none) (s_X7_keptPushes_44_b k6) n
def s_X7_keptPushes_6_b  (k6 : Nat → Nat → Int32 → Int32 → Int32 → Int32 → Int32 → aH → aO) (l0 : Nat) (l1 : Nat) (l2 : Int32) (l4 : Int32) (l5 : Int32) (l6 : Int32) (l7 : Int32) (h : aH) : aO :=
  (gO h (.ref l0) 7 0).bind fun x9 => (gI h (.ref x9) 2 13).bind fun x12 => if x12 ≤ l7 then (some (.inl (some (.int l6)), h)) else ((gO h (.ref l0) 7 0).bind fun x20 => (gI h (.ref x20) 2 13).bind fun x23 => (gO h (.ref l0) 7 1).bind fun x31 => (gI h (.ref x31) 3 3).bind fun x34 => s_X7_keptPushes_44 k6 FU l0 l1 l2 l4 l5 l6 l7 (((l2 * x23) + l7) * x34) l4 h)
def s_X7_keptPushes_6  (n : Nat) : Nat → Nat → Int32 → Int32 → Int32 → Int32 → Int32 → aH → aO := lpF (fun _ _ _ _ _ _ _ _ => none) (s_X7_keptPushes_6_b ) n
def s_X7_keptPushes (o : Nat) (a1 : Nat) (a2 : Int32) (a3 : Int32) (a4 : Int32) (a5 : Int32) (h : aH) : aO :=
  s_X7_keptPushes_6 FU o a1 a2 a4 a5 a3 0 h
section
variable {p : Program} {l : Launch} {e : Env} {s : State} {m : MethodId} {args : Array Value} {below : List Frame} {meth : Method} {c : Code} {D : va_G} {B0 : Nat} {X : Nat → Nat} {ws0 : va_W} {r : aR} {h' : aH} {mc ms : Nat}
theorem t_X7_keptPushes_44_b (C : Cx p l s m args meth c B0 X RX7 "keptPushes" cX7_keptPushes 10 (some .int) []) {k6 : Nat → Nat → Int32 → Int32 → Int32 → Int32 → Int32 → aH → aO} (K6 : ∀ (l0 : Nat) (l1 : Nat) (l2 : Int32) (l4 : Int32) (l5 : Int32) (l6 : Int32) (l7 : Int32) (h : aH), k6 l0 l1 l2 l4 l5 l6 l7 h = some (r, h') → Ev p l e { frames := 0, cells := mc, slots := ms, locals := 0 } s m args below meth c D B0 X ws0 r h' mc ms 10 mc ms 6 [some (.ref l0), some (.ref l1), some (.int l2), none, some (.int l4), some (.int l5), some (.int l6), some (.int l7), none, none] [] h) {k44 : Nat → Nat → Int32 → Int32 → Int32 → Int32 → Int32 → Int32 → Int32 → aH → aO} (K44 : ∀ (l0 : Nat) (l1 : Nat) (l2 : Int32) (l4 : Int32) (l5 : Int32) (l6 : Int32) (l7 : Int32) (l8 : Int32) (l9 : Int32) (h : aH), k44 l0 l1 l2 l4 l5 l6 l7 l8 l9 h = some (r, h') → Ev p l e { frames := 0, cells := mc, slots := ms, locals := 0 } s m args below meth c D B0 X ws0 r h' mc ms 10 mc ms 44 [some (.ref l0), some (.ref l1), some (.int l2), none, some (.int l4), some (.int l5), some (.int l6), some (.int l7), some (.int l8), some (.int l9)] [] h) {l0 : Nat} {l1 : Nat} {l2 : Int32} {l4 : Int32} {l5 : Int32} {l6 : Int32} {l7 : Int32} {l8 : Int32} {l9 : Int32} {h : aH} (hs : s_X7_keptPushes_44_b k6 k44 l0 l1 l2 l4 l5 l6 l7 l8 l9 h = some (r, h')) : Ev p l e { frames := 0, cells := mc, slots := ms, locals := 0 } s m args below meth c D B0 X ws0 r h' mc ms 10 mc ms 44 [some (.ref l0), some (.ref l1), some (.int l2), none, some (.int l4), some (.int l5), some (.int l6), some (.int l7), some (.int l8), some (.int l9)] [] h := by
  unfold s_X7_keptPushes_44_b at hs
  refine ev_iload C rfl dX7_keptPushes_44 ?_
  refine ev_iload C rfl dX7_keptPushes_46 ?_
  refine ev_icmp_gt C (tgt := 96) (by decide) dX7_keptPushes_48 (fun q48 => ?_) (fun q48 => ?_)
  · replace hs := (if_pos q48).symm.trans hs
    refine ev_iinc C (i := 7) (n := 1) (x := l7) (v := l7 + 1) rfl (congrArg (fun z => l7 + z) (show Int32.ofInt 1 = 1 by decide)) (by decide) dX7_keptPushes_96 ?_
    refine ev_goto C (tgt := 6) (by decide) dX7_keptPushes_99 ?_
    exact Ev.keep [true, true, true, true, true, true, true, true, false, false] (K6 _ _ _ _ _ _ _ _ hs)
  · replace hs := (if_neg q48).symm.trans hs
    refine ev_iload C rfl dX7_keptPushes_51 ?_
    refine ev_iload C rfl dX7_keptPushes_53 ?_
    refine ev_ishr C dX7_keptPushes_55 ?_
    refine ev_iconst C (v := 1) dX7_keptPushes_56 (by decide) ?_
    refine ev_iand C dX7_keptPushes_57 ?_
    refine ev_if_eq C (tgt := 96) (by decide) dX7_keptPushes_58 (fun q58 => ?_) (fun q58 => ?_)
    · replace hs := (if_pos q58).symm.trans hs
      refine ev_iinc C (i := 7) (n := 1) (x := l7) (v := l7 + 1) rfl (congrArg (fun z => l7 + z) (show Int32.ofInt 1 = 1 by decide)) (by decide) dX7_keptPushes_96 ?_
      refine ev_goto C (tgt := 6) (by decide) dX7_keptPushes_99 ?_
      exact Ev.keep [true, true, true, true, true, true, true, true, false, false] (K6 _ _ _ _ _ _ _ _ hs)
    · replace hs := (if_neg q58).symm.trans hs
      refine ev_aload_n C (x := .ref l1) rfl trivial dX7_keptPushes_61 ?_
      refine ev_iload C rfl dX7_keptPushes_62 ?_
      refine ev_iload C rfl dX7_keptPushes_64 ?_
      refine ev_iadd C dX7_keptPushes_66 ?_
      obtain ⟨x67, e67, hs⟩ := aB hs
      refine ev_iald C e67 dX7_keptPushes_67 ?_
      refine ev_aload_n C (x := .ref l0) rfl trivial dX7_keptPushes_68 ?_
      obtain ⟨x69, e69, hs⟩ := aB hs
      refine ev_get C (ci := 7) (k := 12) rfl wu_7 (by decide) wf_X7_30 (gO_F e69) dX7_keptPushes_69 ?_
      refine ev_iload C rfl dX7_keptPushes_72 ?_
      obtain ⟨x74, e74, hs⟩ := aB hs
      refine ev_iald C e74 dX7_keptPushes_74 ?_
      refine ev_iand C dX7_keptPushes_75 ?_
      refine ev_if_eq C (tgt := 90) (by decide) dX7_keptPushes_76 (fun q76 => ?_) (fun q76 => ?_)
      · replace hs := (if_pos q76).symm.trans hs
        refine ev_iinc C (i := 9) (n := 1) (x := l9) (v := l9 + 1) rfl (congrArg (fun z => l9 + z) (show Int32.ofInt 1 = 1 by decide)) (by decide) dX7_keptPushes_90 ?_
        refine ev_goto C (tgt := 44) (by decide) dX7_keptPushes_93 ?_
        exact (K44 _ _ _ _ _ _ _ _ _ _ hs)
      · replace hs := (if_neg q76).symm.trans hs
        refine ev_iload C rfl dX7_keptPushes_79 ?_
        refine ev_iconst C (v := 1) dX7_keptPushes_81 (by decide) ?_
        refine ev_iload C rfl dX7_keptPushes_82 ?_
        refine ev_ishl C dX7_keptPushes_84 ?_
        refine ev_iconst C (v := (-1)) dX7_keptPushes_85 (by decide) ?_
        refine ev_ixor C dX7_keptPushes_86 ?_
        refine ev_iand C dX7_keptPushes_87 ?_
        refine ev_istore C (by decide) dX7_keptPushes_88 ?_
        refine ev_iinc C (i := 9) (n := 1) (x := l9) (v := l9 + 1) rfl (congrArg (fun z => l9 + z) (show Int32.ofInt 1 = 1 by decide)) (by decide) dX7_keptPushes_90 ?_
        refine ev_goto C (tgt := 44) (by decide) dX7_keptPushes_93 ?_
        exact (K44 _ _ _ _ _ _ _ _ _ _ hs)
theorem t_X7_keptPushes_44 (C : Cx p l s m args meth c B0 X RX7 "keptPushes" cX7_keptPushes 10 (some .int) []) {k6 : Nat → Nat → Int32 → Int32 → Int32 → Int32 → Int32 → aH → aO} (K6 : ∀ (l0 : Nat) (l1 : Nat) (l2 : Int32) (l4 : Int32) (l5 : Int32) (l6 : Int32) (l7 : Int32) (h : aH), k6 l0 l1 l2 l4 l5 l6 l7 h = some (r, h') → Ev p l e { frames := 0, cells := mc, slots := ms, locals := 0 } s m args below meth c D B0 X ws0 r h' mc ms 10 mc ms 6 [some (.ref l0), some (.ref l1), some (.int l2), none, some (.int l4), some (.int l5), some (.int l6), some (.int l7), none, none] [] h) : ∀ (n : Nat) {l0 : Nat} {l1 : Nat} {l2 : Int32} {l4 : Int32} {l5 : Int32} {l6 : Int32} {l7 : Int32} {l8 : Int32} {l9 : Int32} {h : aH} (hs : s_X7_keptPushes_44 k6 n l0 l1 l2 l4 l5 l6 l7 l8 l9 h = some (r, h')), Ev p l e { frames := 0, cells := mc, slots := ms, locals := 0 } s m args below meth c D B0 X ws0 r h' mc ms 10 mc ms 44 [some (.ref l0), some (.ref l1), some (.int l2), none, some (.int l4), some (.int l5), some (.int l6), some (.int l7), some (.int l8), some (.int l9)] [] h
  | 0, _, _, _, _, _, _, _, _, _, _, hs => nomatch hs
  | n + 1, _, _, _, _, _, _, _, _, _, _, hs => t_X7_keptPushes_44_b C K6 (k44 := s_X7_keptPushes_44 k6 n) (fun _ _ _ _ _ _ _ _ _ _ hs => t_X7_keptPushes_44 C K6 n hs) hs
theorem t_X7_keptPushes_6_b (C : Cx p l s m args meth c B0 X RX7 "keptPushes" cX7_keptPushes 10 (some .int) [])   {k6 : Nat → Nat → Int32 → Int32 → Int32 → Int32 → Int32 → aH → aO} (K6 : ∀ (l0 : Nat) (l1 : Nat) (l2 : Int32) (l4 : Int32) (l5 : Int32) (l6 : Int32) (l7 : Int32) (h : aH), k6 l0 l1 l2 l4 l5 l6 l7 h = some (r, h') → Ev p l e { frames := 0, cells := mc, slots := ms, locals := 0 } s m args below meth c D B0 X ws0 r h' mc ms 10 mc ms 6 [some (.ref l0), some (.ref l1), some (.int l2), none, some (.int l4), some (.int l5), some (.int l6), some (.int l7), none, none] [] h) {l0 : Nat} {l1 : Nat} {l2 : Int32} {l4 : Int32} {l5 : Int32} {l6 : Int32} {l7 : Int32} {h : aH} (hs : s_X7_keptPushes_6_b  k6 l0 l1 l2 l4 l5 l6 l7 h = some (r, h')) : Ev p l e { frames := 0, cells := mc, slots := ms, locals := 0 } s m args below meth c D B0 X ws0 r h' mc ms 10 mc ms 6 [some (.ref l0), some (.ref l1), some (.int l2), none, some (.int l4), some (.int l5), some (.int l6), some (.int l7), none, none] [] h := by
  unfold s_X7_keptPushes_6_b at hs
  refine ev_iload C rfl dX7_keptPushes_6 ?_
  refine ev_aload_n C (x := .ref l0) rfl trivial dX7_keptPushes_8 ?_
  obtain ⟨x9, e9, hs⟩ := aB hs
  refine ev_get C (ci := 7) (k := 0) rfl wu_7 (by decide) wf_X7_36 (gO_F e9) dX7_keptPushes_9 ?_
  obtain ⟨x12, e12, hs⟩ := aB hs
  refine ev_getN C (ci := 2) (k := 13) rfl wu_2 (by decide) wg_X7_73 (gI_F e12) dX7_keptPushes_12 ?_
  refine ev_icmp_ge C (tgt := 102) (by decide) dX7_keptPushes_15 (fun q15 => ?_) (fun q15 => ?_)
  · replace hs := (if_pos q15).symm.trans hs
    refine ev_iload C rfl dX7_keptPushes_102 ?_
    cases hs
    exact ev_iret C rfl rfl (Nat.le_refl _) (Nat.le_refl _) rfl dX7_keptPushes_104
  · replace hs := (if_neg q15).symm.trans hs
    refine ev_iload_n C rfl dX7_keptPushes_18 ?_
    refine ev_aload_n C (x := .ref l0) rfl trivial dX7_keptPushes_19 ?_
    obtain ⟨x20, e20, hs⟩ := aB hs
    refine ev_get C (ci := 7) (k := 0) rfl wu_7 (by decide) wf_X7_36 (gO_F e20) dX7_keptPushes_20 ?_
    obtain ⟨x23, e23, hs⟩ := aB hs
    refine ev_getN C (ci := 2) (k := 13) rfl wu_2 (by decide) wg_X7_73 (gI_F e23) dX7_keptPushes_23 ?_
    refine ev_imul C dX7_keptPushes_26 ?_
    refine ev_iload C rfl dX7_keptPushes_27 ?_
    refine ev_iadd C dX7_keptPushes_29 ?_
    refine ev_aload_n C (x := .ref l0) rfl trivial dX7_keptPushes_30 ?_
    obtain ⟨x31, e31, hs⟩ := aB hs
    refine ev_get C (ci := 7) (k := 1) rfl wu_7 (by decide) wf_X7_40 (gO_F e31) dX7_keptPushes_31 ?_
    obtain ⟨x34, e34, hs⟩ := aB hs
    refine ev_getN C (ci := 3) (k := 3) rfl wu_3 (by decide) wg_X7_98 (gI_F e34) dX7_keptPushes_34 ?_
    refine ev_imul C dX7_keptPushes_37 ?_
    refine ev_istore C (by decide) dX7_keptPushes_38 ?_
    refine ev_iload C rfl dX7_keptPushes_40 ?_
    refine ev_istore C (by decide) dX7_keptPushes_42 ?_
    exact (t_X7_keptPushes_44 C K6 FU hs)
theorem t_X7_keptPushes_6 (C : Cx p l s m args meth c B0 X RX7 "keptPushes" cX7_keptPushes 10 (some .int) [])   : ∀ (n : Nat) {l0 : Nat} {l1 : Nat} {l2 : Int32} {l4 : Int32} {l5 : Int32} {l6 : Int32} {l7 : Int32} {h : aH} (hs : s_X7_keptPushes_6  n l0 l1 l2 l4 l5 l6 l7 h = some (r, h')), Ev p l e { frames := 0, cells := mc, slots := ms, locals := 0 } s m args below meth c D B0 X ws0 r h' mc ms 10 mc ms 6 [some (.ref l0), some (.ref l1), some (.int l2), none, some (.int l4), some (.int l5), some (.int l6), some (.int l7), none, none] [] h
  | 0, _, _, _, _, _, _, _, _, hs => nomatch hs
  | n + 1, _, _, _, _, _, _, _, _, hs => t_X7_keptPushes_6_b C  (k6 := s_X7_keptPushes_6  n) (fun _ _ _ _ _ _ _ _ hs => t_X7_keptPushes_6 C  n hs) hs
theorem hy_X7_keptPushes : yX7_keptPushes.cls ≠ "java/lang/invoke/MethodHandle" ∧ yX7_keptPushes.cls ≠ "java/lang/invoke/VarHandle" ∧ (parseMethodDescriptor yX7_keptPushes.desc).map (fun d => d.parameters.length) = some 5 := by decide +kernel
theorem T_X7_keptPushes (o : Nat) (a1 : Nat) (a2 : Int32) (a3 : Int32) (a4 : Int32) (a5 : Int32) (h : aH) (r : aR) (h' : aH) (hs : s_X7_keptPushes o a1 a2 a3 a4 a5 h = some (r, h')) : Mt yX7_keptPushes (Cond.code yX7_keptPushes cX7_keptPushes 10 (some .int) :: aTB) 0 0 0 0 [.ref o, .ref a1, .int a2, .int a3, .int a4, .int a5] h r h' := by
  unfold s_X7_keptPushes at hs
  refine Mt_of (k := 4) (by decide) rfl (fun p l e s m args below meth c D B0 X ws0 C => ?_)
  show Ev p l e { frames := 0, cells := 0, slots := 0, locals := 0 } s m args below meth c D B0 X ws0 r h' 0 0 10 0 0 0 [some (.ref o), some (.ref a1), some (.int a2), some (.int a3), some (.int a4), some (.int a5), none, none, none, none] [] h
  refine ev_iload_n C rfl dX7_keptPushes_0 ?_
  refine ev_istore C (by decide) dX7_keptPushes_1 ?_
  refine ev_iconst C (v := 0) dX7_keptPushes_3 (by decide) ?_
  refine ev_istore C (by decide) dX7_keptPushes_4 ?_
  exact Ev.keep [true, true, true, false, true, true, true, true, true, true] (t_X7_keptPushes_6 C  FU hs)
end
-- X7_shrink
theorem dX7_shrink_0 : decode cX7_shrink 0 = .ok (.iconst 0, 1) := by decide +kernel
theorem dX7_shrink_1 : decode cX7_shrink 1 = .ok (.istore_n 3, 1) := by decide +kernel
theorem dX7_shrink_2 : decode cX7_shrink 2 = .ok (.aload_n 0, 1) := by decide +kernel
theorem dX7_shrink_3 : decode cX7_shrink 3 = .ok (.getfield 33, 3) := by decide +kernel
theorem dX7_shrink_6 : decode cX7_shrink 6 = .ok (.iconst 0, 1) := by decide +kernel
theorem dX7_shrink_7 : decode cX7_shrink 7 = .ok (.invokestatic 92, 3) := by decide +kernel
theorem dX7_shrink_10 : decode cX7_shrink 10 = .ok (.iconst 0, 1) := by decide +kernel
theorem dX7_shrink_11 : decode cX7_shrink 11 = .ok (.istore 4, 2) := by decide +kernel
theorem dX7_shrink_13 : decode cX7_shrink 13 = .ok (.iload 4, 2) := by decide +kernel
theorem dX7_shrink_15 : decode cX7_shrink 15 = .ok (.aload_n 0, 1) := by decide +kernel
theorem dX7_shrink_16 : decode cX7_shrink 16 = .ok (.getfield 40, 3) := by decide +kernel
theorem dX7_shrink_19 : decode cX7_shrink 19 = .ok (.getfield 98, 3) := by decide +kernel
theorem dX7_shrink_22 : decode cX7_shrink 22 = .ok (.if_icmp .ge 19, 3) := by decide +kernel
theorem dX7_shrink_25 : decode cX7_shrink 25 = .ok (.aload_n 0, 1) := by decide +kernel
theorem dX7_shrink_26 : decode cX7_shrink 26 = .ok (.getfield 30, 3) := by decide +kernel
theorem dX7_shrink_29 : decode cX7_shrink 29 = .ok (.iload 4, 2) := by decide +kernel
theorem dX7_shrink_31 : decode cX7_shrink 31 = .ok (.iaload, 1) := by decide +kernel
theorem dX7_shrink_32 : decode cX7_shrink 32 = .ok (.ifCond .ne 9, 3) := by decide +kernel
theorem dX7_shrink_35 : decode cX7_shrink 35 = .ok (.iinc 4 1, 3) := by decide +kernel
theorem dX7_shrink_38 : decode cX7_shrink 38 = .ok (.goto (-25), 3) := by decide +kernel
theorem dX7_shrink_41 : decode cX7_shrink 41 = .ok (.aload_n 0, 1) := by decide +kernel
theorem dX7_shrink_42 : decode cX7_shrink 42 = .ok (.getfield 40, 3) := by decide +kernel
theorem dX7_shrink_45 : decode cX7_shrink 45 = .ok (.getfield 98, 3) := by decide +kernel
theorem dX7_shrink_48 : decode cX7_shrink 48 = .ok (.iconst 1, 1) := by decide +kernel
theorem dX7_shrink_49 : decode cX7_shrink 49 = .ok (.isub, 1) := by decide +kernel
theorem dX7_shrink_50 : decode cX7_shrink 50 = .ok (.istore 5, 2) := by decide +kernel
theorem dX7_shrink_52 : decode cX7_shrink 52 = .ok (.iload 5, 2) := by decide +kernel
theorem dX7_shrink_54 : decode cX7_shrink 54 = .ok (.iload 4, 2) := by decide +kernel
theorem dX7_shrink_56 : decode cX7_shrink 56 = .ok (.if_icmp .le 19, 3) := by decide +kernel
theorem dX7_shrink_59 : decode cX7_shrink 59 = .ok (.aload_n 0, 1) := by decide +kernel
theorem dX7_shrink_60 : decode cX7_shrink 60 = .ok (.getfield 30, 3) := by decide +kernel
theorem dX7_shrink_63 : decode cX7_shrink 63 = .ok (.iload 5, 2) := by decide +kernel
theorem dX7_shrink_65 : decode cX7_shrink 65 = .ok (.iaload, 1) := by decide +kernel
theorem dX7_shrink_66 : decode cX7_shrink 66 = .ok (.ifCond .ne 9, 3) := by decide +kernel
theorem dX7_shrink_69 : decode cX7_shrink 69 = .ok (.iinc 5 (-1), 3) := by decide +kernel
theorem dX7_shrink_72 : decode cX7_shrink 72 = .ok (.goto (-20), 3) := by decide +kernel
theorem dX7_shrink_75 : decode cX7_shrink 75 = .ok (.iconst 0, 1) := by decide +kernel
theorem dX7_shrink_76 : decode cX7_shrink 76 = .ok (.istore 6, 2) := by decide +kernel
theorem dX7_shrink_78 : decode cX7_shrink 78 = .ok (.iload 6, 2) := by decide +kernel
theorem dX7_shrink_80 : decode cX7_shrink 80 = .ok (.aload_n 0, 1) := by decide +kernel
theorem dX7_shrink_81 : decode cX7_shrink 81 = .ok (.getfield 36, 3) := by decide +kernel
theorem dX7_shrink_84 : decode cX7_shrink 84 = .ok (.getfield 64, 3) := by decide +kernel
theorem dX7_shrink_87 : decode cX7_shrink 87 = .ok (.if_icmp .ge 64, 3) := by decide +kernel
theorem dX7_shrink_90 : decode cX7_shrink 90 = .ok (.aload_n 2, 1) := by decide +kernel
theorem dX7_shrink_91 : decode cX7_shrink 91 = .ok (.iload 6, 2) := by decide +kernel
theorem dX7_shrink_93 : decode cX7_shrink 93 = .ok (.iaload, 1) := by decide +kernel
theorem dX7_shrink_94 : decode cX7_shrink 94 = .ok (.ifCond .eq 51, 3) := by decide +kernel
theorem dX7_shrink_97 : decode cX7_shrink 97 = .ok (.aload_n 2, 1) := by decide +kernel
theorem dX7_shrink_98 : decode cX7_shrink 98 = .ok (.iload 6, 2) := by decide +kernel
theorem dX7_shrink_100 : decode cX7_shrink 100 = .ok (.aload_n 0, 1) := by decide +kernel
theorem dX7_shrink_101 : decode cX7_shrink 101 = .ok (.aload_n 1, 1) := by decide +kernel
theorem dX7_shrink_102 : decode cX7_shrink 102 = .ok (.iload 6, 2) := by decide +kernel
theorem dX7_shrink_104 : decode cX7_shrink 104 = .ok (.aload_n 2, 1) := by decide +kernel
theorem dX7_shrink_105 : decode cX7_shrink 105 = .ok (.iload 6, 2) := by decide +kernel
theorem dX7_shrink_107 : decode cX7_shrink 107 = .ok (.iaload, 1) := by decide +kernel
theorem dX7_shrink_108 : decode cX7_shrink 108 = .ok (.iload 4, 2) := by decide +kernel
theorem dX7_shrink_110 : decode cX7_shrink 110 = .ok (.iload 5, 2) := by decide +kernel
theorem dX7_shrink_112 : decode cX7_shrink 112 = .ok (.invokevirtual 101, 3) := by decide +kernel
theorem dX7_shrink_115 : decode cX7_shrink 115 = .ok (.iastore, 1) := by decide +kernel
theorem dX7_shrink_116 : decode cX7_shrink 116 = .ok (.aload_n 2, 1) := by decide +kernel
theorem dX7_shrink_117 : decode cX7_shrink 117 = .ok (.iload 6, 2) := by decide +kernel
theorem dX7_shrink_119 : decode cX7_shrink 119 = .ok (.iaload, 1) := by decide +kernel
theorem dX7_shrink_120 : decode cX7_shrink 120 = .ok (.ifCond .ne 25, 3) := by decide +kernel
theorem dX7_shrink_123 : decode cX7_shrink 123 = .ok (.aload_n 0, 1) := by decide +kernel
theorem dX7_shrink_124 : decode cX7_shrink 124 = .ok (.getfield 33, 3) := by decide +kernel
theorem dX7_shrink_127 : decode cX7_shrink 127 = .ok (.iload 6, 2) := by decide +kernel
theorem dX7_shrink_129 : decode cX7_shrink 129 = .ok (.iconst 5, 1) := by decide +kernel
theorem dX7_shrink_130 : decode cX7_shrink 130 = .ok (.ishr, 1) := by decide +kernel
theorem dX7_shrink_131 : decode cX7_shrink 131 = .ok (.dup2, 1) := by decide +kernel
theorem dX7_shrink_132 : decode cX7_shrink 132 = .ok (.iaload, 1) := by decide +kernel
theorem dX7_shrink_133 : decode cX7_shrink 133 = .ok (.iconst 1, 1) := by decide +kernel
theorem dX7_shrink_134 : decode cX7_shrink 134 = .ok (.iload 6, 2) := by decide +kernel
theorem dX7_shrink_136 : decode cX7_shrink 136 = .ok (.bipush 31, 2) := by decide +kernel
theorem dX7_shrink_138 : decode cX7_shrink 138 = .ok (.iand, 1) := by decide +kernel
theorem dX7_shrink_139 : decode cX7_shrink 139 = .ok (.ishl, 1) := by decide +kernel
theorem dX7_shrink_140 : decode cX7_shrink 140 = .ok (.ior, 1) := by decide +kernel
theorem dX7_shrink_141 : decode cX7_shrink 141 = .ok (.iastore, 1) := by decide +kernel
theorem dX7_shrink_142 : decode cX7_shrink 142 = .ok (.iinc 3 1, 3) := by decide +kernel
theorem dX7_shrink_145 : decode cX7_shrink 145 = .ok (.iinc 6 1, 3) := by decide +kernel
theorem dX7_shrink_148 : decode cX7_shrink 148 = .ok (.goto (-70), 3) := by decide +kernel
theorem dX7_shrink_151 : decode cX7_shrink 151 = .ok (.aload_n 0, 1) := by decide +kernel
theorem dX7_shrink_152 : decode cX7_shrink 152 = .ok (.getfield 33, 3) := by decide +kernel
theorem dX7_shrink_155 : decode cX7_shrink 155 = .ok (.iconst 0, 1) := by decide +kernel
theorem dX7_shrink_156 : decode cX7_shrink 156 = .ok (.aload_n 0, 1) := by decide +kernel
theorem dX7_shrink_157 : decode cX7_shrink 157 = .ok (.getfield 30, 3) := by decide +kernel
theorem dX7_shrink_160 : decode cX7_shrink 160 = .ok (.iconst 0, 1) := by decide +kernel
theorem dX7_shrink_161 : decode cX7_shrink 161 = .ok (.bipush 13, 2) := by decide +kernel
theorem dX7_shrink_163 : decode cX7_shrink 163 = .ok (.invokestatic 105, 3) := by decide +kernel
theorem dX7_shrink_166 : decode cX7_shrink 166 = .ok (.iload_n 3, 1) := by decide +kernel
theorem dX7_shrink_167 : decode cX7_shrink 167 = .ok (.ireturn, 1) := by decide +kernel
def s_X7_shrink_78_b  (k78 : Nat → Nat → Nat → Int32 → Int32 → Int32 → Int32 → aH → aO) (l0 : Nat) (l1 : Nat) (l2 : Nat) (l3 : Int32) (l4 : Int32) (l5 : Int32) (l6 : Int32) (h : aH) : aO :=
  (gO h (.ref l0) 7 0).bind fun x81 => (gI h (.ref x81) 2 12).bind fun x84 => if x84 ≤ l6 then ((gO h (.ref l0) 7 13).bind fun x152 => (gO h (.ref l0) 7 12).bind fun x157 => (cpI h (.ref x152) 0 (.ref x157) 0 13).bind fun h163 => some (.inl (some (.int l3)), h163)) else ((ldI .int h (.ref l2) l6).bind fun x93 => if x93 = 0 then (k78 l0 l1 l2 l3 l4 l5 (l6 + 1) h) else ((ldI .int h (.ref l2) l6).bind fun x107 => kO h l0 7 (cI (s_X7_keptPushes l0 l1 l6 x107 l4 l5 h) fun x112 h112 => (stI h112 (.ref l2) l6 x112).bind fun h115 => (ldI .int h115 (.ref l2) l6).bind fun x119 => if x119 = 0 then ((gO h115 (.ref l0) 7 13).bind fun x124 => (ldI .int h115 (.ref x124) (l6 >>> (5 &&& 31))).bind fun x132 => (stI h115 (.ref x124) (l6 >>> (5 &&& 31)) (x132 ||| (1 <<< ((l6 &&& 31) &&& 31)))).bind fun h141 => k78 l0 l1 l2 (l3 + 1) l4 l5 (l6 + 1) h141) else (k78 l0 l1 l2 l3 l4 l5 (l6 + 1) h115))))
def s_X7_shrink_78  (n : Nat) : Nat → Nat → Nat → Int32 → Int32 → Int32 → Int32 → aH → aO := lpF (fun _ _ _ _ _ _ _ _ => none) (s_X7_shrink_78_b ) n
def s_X7_shrink_75  (l0 : Nat) (l1 : Nat) (l2 : Nat) (l3 : Int32) (l4 : Int32) (l5 : Int32) (h : aH) : aO :=
  s_X7_shrink_78 FU l0 l1 l2 l3 l4 l5 0 h
def s_X7_shrink_52_b  (k52 : Nat → Nat → Nat → Int32 → Int32 → Int32 → aH → aO) (l0 : Nat) (l1 : Nat) (l2 : Nat) (l3 : Int32) (l4 : Int32) (l5 : Int32) (h : aH) : aO :=
  if l5 ≤ l4 then (s_X7_shrink_75 l0 l1 l2 l3 l4 l5 h) else ((gO h (.ref l0) 7 12).bind fun x60 => (ldI .int h (.ref x60) l5).bind fun x65 => if x65 = 0 then (k52 l0 l1 l2 l3 l4 (l5 + (-1)) h) else (s_X7_shrink_75 l0 l1 l2 l3 l4 l5 h))
def s_X7_shrink_52  (n : Nat) : Nat → Nat → Nat → Int32 → Int32 → Int32 → aH → aO := lpF (fun _ _ _ _ _ _ _ => none) (s_X7_shrink_52_b ) n
def s_X7_shrink_41  (l0 : Nat) (l1 : Nat) (l2 : Nat) (l3 : Int32) (l4 : Int32) (h : aH) : aO :=
  (gO h (.ref l0) 7 1).bind fun x42 => (gI h (.ref x42) 3 3).bind fun x45 => s_X7_shrink_52 FU l0 l1 l2 l3 l4 (x45 - 1) h
def s_X7_shrink_13_b  (k13 : Nat → Nat → Nat → Int32 → Int32 → aH → aO) (l0 : Nat) (l1 : Nat) (l2 : Nat) (l3 : Int32) (l4 : Int32) (h : aH) : aO :=
  (gO h (.ref l0) 7 1).bind fun x16 => (gI h (.ref x16) 3 3).bind fun x19 => if x19 ≤ l4 then (s_X7_shrink_41 l0 l1 l2 l3 l4 h) else ((gO h (.ref l0) 7 12).bind fun x26 => (ldI .int h (.ref x26) l4).bind fun x31 => if x31 = 0 then (k13 l0 l1 l2 l3 (l4 + 1) h) else (s_X7_shrink_41 l0 l1 l2 l3 l4 h))
def s_X7_shrink_13  (n : Nat) : Nat → Nat → Nat → Int32 → Int32 → aH → aO := lpF (fun _ _ _ _ _ _ => none) (s_X7_shrink_13_b ) n
def s_X7_shrink (o : Nat) (a1 : Nat) (a2 : Nat) (h : aH) : aO :=
  (gO h (.ref o) 7 13).bind fun x3 => cN (s_J7_fill_53178 x3 0 h) fun h7 => s_X7_shrink_13 FU o a1 a2 0 0 h7
section
variable {p : Program} {l : Launch} {e : Env} {s : State} {m : MethodId} {args : Array Value} {below : List Frame} {meth : Method} {c : Code} {D : va_G} {B0 : Nat} {X : Nat → Nat} {ws0 : va_W} {r : aR} {h' : aH} {mc ms : Nat}
theorem t_X7_shrink_78_b (C : Cx p l s m args meth c B0 X RX7 "shrink" cX7_shrink 7 (some .int) [])   {k78 : Nat → Nat → Nat → Int32 → Int32 → Int32 → Int32 → aH → aO} (K78 : ∀ (l0 : Nat) (l1 : Nat) (l2 : Nat) (l3 : Int32) (l4 : Int32) (l5 : Int32) (l6 : Int32) (h : aH), k78 l0 l1 l2 l3 l4 l5 l6 h = some (r, h') → Ev p l e { frames := 1, cells := mc, slots := ms, locals := 60 } s m args below meth c D B0 X ws0 r h' mc ms 7 mc ms 78 [some (.ref l0), some (.ref l1), some (.ref l2), some (.int l3), some (.int l4), some (.int l5), some (.int l6)] [] h) {l0 : Nat} {l1 : Nat} {l2 : Nat} {l3 : Int32} {l4 : Int32} {l5 : Int32} {l6 : Int32} {h : aH} (hs : s_X7_shrink_78_b  k78 l0 l1 l2 l3 l4 l5 l6 h = some (r, h')) : Ev p l e { frames := 1, cells := mc, slots := ms, locals := 60 } s m args below meth c D B0 X ws0 r h' mc ms 7 mc ms 78 [some (.ref l0), some (.ref l1), some (.ref l2), some (.int l3), some (.int l4), some (.int l5), some (.int l6)] [] h := by
  unfold s_X7_shrink_78_b at hs
  refine ev_iload C rfl dX7_shrink_78 ?_
  refine ev_aload_n C (x := .ref l0) rfl trivial dX7_shrink_80 ?_
  obtain ⟨x81, e81, hs⟩ := aB hs
  refine ev_get C (ci := 7) (k := 0) rfl wu_7 (by decide) wf_X7_36 (gO_F e81) dX7_shrink_81 ?_
  obtain ⟨x84, e84, hs⟩ := aB hs
  refine ev_getN C (ci := 2) (k := 12) rfl wu_2 (by decide) wg_X7_64 (gI_F e84) dX7_shrink_84 ?_
  refine ev_icmp_ge C (tgt := 151) (by decide) dX7_shrink_87 (fun q87 => ?_) (fun q87 => ?_)
  · replace hs := (if_pos q87).symm.trans hs
    refine ev_aload_n C (x := .ref l0) rfl trivial dX7_shrink_151 ?_
    obtain ⟨x152, e152, hs⟩ := aB hs
    refine ev_get C (ci := 7) (k := 13) rfl wu_7 (by decide) wf_X7_33 (gO_F e152) dX7_shrink_152 ?_
    refine ev_iconst C (v := 0) dX7_shrink_155 (by decide) ?_
    refine ev_aload_n C (x := .ref l0) rfl trivial dX7_shrink_156 ?_
    obtain ⟨x157, e157, hs⟩ := aB hs
    refine ev_get C (ci := 7) (k := 12) rfl wu_7 (by decide) wf_X7_30 (gO_F e157) dX7_shrink_157 ?_
    refine ev_iconst C (v := 0) dX7_shrink_160 (by decide) ?_
    refine ev_bipush C (v := 13) dX7_shrink_161 (by decide) ?_
    obtain ⟨h163, e163, hs⟩ := aB hs
    refine ev_cpI C wm_X7_105 wb_acopy wt_acopy wz_J10 e163 (Nat.le_of_ble_eq_true rfl) (Nat.le_of_ble_eq_true rfl) dX7_shrink_163 ?_
    refine ev_iload_n C rfl dX7_shrink_166 ?_
    cases hs
    exact ev_iret C rfl rfl (Nat.le_refl _) (Nat.le_refl _) rfl dX7_shrink_167
  · replace hs := (if_neg q87).symm.trans hs
    refine ev_aload_n C (x := .ref l2) rfl trivial dX7_shrink_90 ?_
    refine ev_iload C rfl dX7_shrink_91 ?_
    obtain ⟨x93, e93, hs⟩ := aB hs
    refine ev_iald C e93 dX7_shrink_93 ?_
    refine ev_if_eq C (tgt := 145) (by decide) dX7_shrink_94 (fun q94 => ?_) (fun q94 => ?_)
    · replace hs := (if_pos q94).symm.trans hs
      refine ev_iinc C (i := 6) (n := 1) (x := l6) (v := l6 + 1) rfl (congrArg (fun z => l6 + z) (show Int32.ofInt 1 = 1 by decide)) (by decide) dX7_shrink_145 ?_
      refine ev_goto C (tgt := 78) (by decide) dX7_shrink_148 ?_
      exact (K78 _ _ _ _ _ _ _ _ hs)
    · replace hs := (if_neg q94).symm.trans hs
      refine ev_aload_n C (x := .ref l2) rfl trivial dX7_shrink_97 ?_
      refine ev_iload C rfl dX7_shrink_98 ?_
      refine ev_aload_n C (x := .ref l0) rfl trivial dX7_shrink_100 ?_
      refine ev_aload_n C (x := .ref l1) rfl trivial dX7_shrink_101 ?_
      refine ev_iload C rfl dX7_shrink_102 ?_
      refine ev_aload_n C (x := .ref l2) rfl trivial dX7_shrink_104 ?_
      refine ev_iload C rfl dX7_shrink_105 ?_
      obtain ⟨x107, e107, hs⟩ := aB hs
      refine ev_iald C e107 dX7_shrink_107 ?_
      refine ev_iload C rfl dX7_shrink_108 ?_
      refine ev_iload C rfl dX7_shrink_110 ?_
      obtain ⟨eo112, hs⟩ := kO_at hs
      obtain ⟨x112, h112, e112, hs⟩ := cI_at hs
      refine ev_callV C (T_X7_keptPushes _ _ _ _ _ _ _ _ _ e112) (ci := 7) rfl eo112 wc_X7_keptPushes wm_X7_101 wi_X7_keptPushes ws_X7_keptPushes wz_X7 hy_X7_keptPushes ⟨(Nat.le_of_ble_eq_true rfl), (Nat.le_of_ble_eq_true rfl)⟩ ⟨(Nat.le_refl _), (Nat.le_refl _)⟩ (Nat.le_of_ble_eq_true rfl) rfl dX7_shrink_112 ?_
      obtain ⟨h115, e115, hs⟩ := aB hs
      refine ev_iast C e115 dX7_shrink_115 ?_
      refine ev_aload_n C (x := .ref l2) rfl trivial dX7_shrink_116 ?_
      refine ev_iload C rfl dX7_shrink_117 ?_
      obtain ⟨x119, e119, hs⟩ := aB hs
      refine ev_iald C e119 dX7_shrink_119 ?_
      refine ev_if_ne C (tgt := 145) (by decide) dX7_shrink_120 (fun q120 => ?_) (fun q120 => ?_)
      · replace hs := (if_neg q120).symm.trans hs
        refine ev_iinc C (i := 6) (n := 1) (x := l6) (v := l6 + 1) rfl (congrArg (fun z => l6 + z) (show Int32.ofInt 1 = 1 by decide)) (by decide) dX7_shrink_145 ?_
        refine ev_goto C (tgt := 78) (by decide) dX7_shrink_148 ?_
        exact (K78 _ _ _ _ _ _ _ _ hs)
      · replace hs := (if_pos q120).symm.trans hs
        refine ev_aload_n C (x := .ref l0) rfl trivial dX7_shrink_123 ?_
        obtain ⟨x124, e124, hs⟩ := aB hs
        refine ev_get C (ci := 7) (k := 13) rfl wu_7 (by decide) wf_X7_33 (gO_F e124) dX7_shrink_124 ?_
        refine ev_iload C rfl dX7_shrink_127 ?_
        refine ev_iconst C (v := 5) dX7_shrink_129 (by decide) ?_
        refine ev_ishr C dX7_shrink_130 ?_
        refine ev_dup2 C rfl rfl dX7_shrink_131 ?_
        obtain ⟨x132, e132, hs⟩ := aB hs
        refine ev_iald C e132 dX7_shrink_132 ?_
        refine ev_iconst C (v := 1) dX7_shrink_133 (by decide) ?_
        refine ev_iload C rfl dX7_shrink_134 ?_
        refine ev_bipush C (v := 31) dX7_shrink_136 (by decide) ?_
        refine ev_iand C dX7_shrink_138 ?_
        refine ev_ishl C dX7_shrink_139 ?_
        refine ev_ior C dX7_shrink_140 ?_
        obtain ⟨h141, e141, hs⟩ := aB hs
        refine ev_iast C e141 dX7_shrink_141 ?_
        refine ev_iinc C (i := 3) (n := 1) (x := l3) (v := l3 + 1) rfl (congrArg (fun z => l3 + z) (show Int32.ofInt 1 = 1 by decide)) (by decide) dX7_shrink_142 ?_
        refine ev_iinc C (i := 6) (n := 1) (x := l6) (v := l6 + 1) rfl (congrArg (fun z => l6 + z) (show Int32.ofInt 1 = 1 by decide)) (by decide) dX7_shrink_145 ?_
        refine ev_goto C (tgt := 78) (by decide) dX7_shrink_148 ?_
        exact (K78 _ _ _ _ _ _ _ _ hs)
theorem t_X7_shrink_78 (C : Cx p l s m args meth c B0 X RX7 "shrink" cX7_shrink 7 (some .int) [])   : ∀ (n : Nat) {l0 : Nat} {l1 : Nat} {l2 : Nat} {l3 : Int32} {l4 : Int32} {l5 : Int32} {l6 : Int32} {h : aH} (hs : s_X7_shrink_78  n l0 l1 l2 l3 l4 l5 l6 h = some (r, h')), Ev p l e { frames := 1, cells := mc, slots := ms, locals := 60 } s m args below meth c D B0 X ws0 r h' mc ms 7 mc ms 78 [some (.ref l0), some (.ref l1), some (.ref l2), some (.int l3), some (.int l4), some (.int l5), some (.int l6)] [] h
  | 0, _, _, _, _, _, _, _, _, hs => nomatch hs
  | n + 1, _, _, _, _, _, _, _, _, hs => t_X7_shrink_78_b C  (k78 := s_X7_shrink_78  n) (fun _ _ _ _ _ _ _ _ hs => t_X7_shrink_78 C  n hs) hs
theorem t_X7_shrink_75 (C : Cx p l s m args meth c B0 X RX7 "shrink" cX7_shrink 7 (some .int) [])   {l0 : Nat} {l1 : Nat} {l2 : Nat} {l3 : Int32} {l4 : Int32} {l5 : Int32} {h : aH} (hs : s_X7_shrink_75  l0 l1 l2 l3 l4 l5 h = some (r, h')) : Ev p l e { frames := 1, cells := mc, slots := ms, locals := 60 } s m args below meth c D B0 X ws0 r h' mc ms 7 mc ms 75 [some (.ref l0), some (.ref l1), some (.ref l2), some (.int l3), some (.int l4), some (.int l5), none] [] h := by
  unfold s_X7_shrink_75 at hs
  refine ev_iconst C (v := 0) dX7_shrink_75 (by decide) ?_
  refine ev_istore C (by decide) dX7_shrink_76 ?_
  exact (t_X7_shrink_78 C  FU hs)
theorem t_X7_shrink_52_b (C : Cx p l s m args meth c B0 X RX7 "shrink" cX7_shrink 7 (some .int) [])   {k52 : Nat → Nat → Nat → Int32 → Int32 → Int32 → aH → aO} (K52 : ∀ (l0 : Nat) (l1 : Nat) (l2 : Nat) (l3 : Int32) (l4 : Int32) (l5 : Int32) (h : aH), k52 l0 l1 l2 l3 l4 l5 h = some (r, h') → Ev p l e { frames := 1, cells := mc, slots := ms, locals := 60 } s m args below meth c D B0 X ws0 r h' mc ms 7 mc ms 52 [some (.ref l0), some (.ref l1), some (.ref l2), some (.int l3), some (.int l4), some (.int l5), none] [] h) {l0 : Nat} {l1 : Nat} {l2 : Nat} {l3 : Int32} {l4 : Int32} {l5 : Int32} {h : aH} (hs : s_X7_shrink_52_b  k52 l0 l1 l2 l3 l4 l5 h = some (r, h')) : Ev p l e { frames := 1, cells := mc, slots := ms, locals := 60 } s m args below meth c D B0 X ws0 r h' mc ms 7 mc ms 52 [some (.ref l0), some (.ref l1), some (.ref l2), some (.int l3), some (.int l4), some (.int l5), none] [] h := by
  unfold s_X7_shrink_52_b at hs
  refine ev_iload C rfl dX7_shrink_52 ?_
  refine ev_iload C rfl dX7_shrink_54 ?_
  refine ev_icmp_le C (tgt := 75) (by decide) dX7_shrink_56 (fun q56 => ?_) (fun q56 => ?_)
  · replace hs := (if_pos q56).symm.trans hs
    exact (t_X7_shrink_75 C  hs)
  · replace hs := (if_neg q56).symm.trans hs
    refine ev_aload_n C (x := .ref l0) rfl trivial dX7_shrink_59 ?_
    obtain ⟨x60, e60, hs⟩ := aB hs
    refine ev_get C (ci := 7) (k := 12) rfl wu_7 (by decide) wf_X7_30 (gO_F e60) dX7_shrink_60 ?_
    refine ev_iload C rfl dX7_shrink_63 ?_
    obtain ⟨x65, e65, hs⟩ := aB hs
    refine ev_iald C e65 dX7_shrink_65 ?_
    refine ev_if_ne C (tgt := 75) (by decide) dX7_shrink_66 (fun q66 => ?_) (fun q66 => ?_)
    · replace hs := (if_neg q66).symm.trans hs
      exact (t_X7_shrink_75 C  hs)
    · replace hs := (if_pos q66).symm.trans hs
      refine ev_iinc C (i := 5) (n := -1) (x := l5) (v := l5 + (-1)) rfl (congrArg (fun z => l5 + z) (show Int32.ofInt (-1) = (-1) by decide)) (by decide) dX7_shrink_69 ?_
      refine ev_goto C (tgt := 52) (by decide) dX7_shrink_72 ?_
      exact (K52 _ _ _ _ _ _ _ hs)
theorem t_X7_shrink_52 (C : Cx p l s m args meth c B0 X RX7 "shrink" cX7_shrink 7 (some .int) [])   : ∀ (n : Nat) {l0 : Nat} {l1 : Nat} {l2 : Nat} {l3 : Int32} {l4 : Int32} {l5 : Int32} {h : aH} (hs : s_X7_shrink_52  n l0 l1 l2 l3 l4 l5 h = some (r, h')), Ev p l e { frames := 1, cells := mc, slots := ms, locals := 60 } s m args below meth c D B0 X ws0 r h' mc ms 7 mc ms 52 [some (.ref l0), some (.ref l1), some (.ref l2), some (.int l3), some (.int l4), some (.int l5), none] [] h
  | 0, _, _, _, _, _, _, _, hs => nomatch hs
  | n + 1, _, _, _, _, _, _, _, hs => t_X7_shrink_52_b C  (k52 := s_X7_shrink_52  n) (fun _ _ _ _ _ _ _ hs => t_X7_shrink_52 C  n hs) hs
theorem t_X7_shrink_41 (C : Cx p l s m args meth c B0 X RX7 "shrink" cX7_shrink 7 (some .int) [])   {l0 : Nat} {l1 : Nat} {l2 : Nat} {l3 : Int32} {l4 : Int32} {h : aH} (hs : s_X7_shrink_41  l0 l1 l2 l3 l4 h = some (r, h')) : Ev p l e { frames := 1, cells := mc, slots := ms, locals := 60 } s m args below meth c D B0 X ws0 r h' mc ms 7 mc ms 41 [some (.ref l0), some (.ref l1), some (.ref l2), some (.int l3), some (.int l4), none, none] [] h := by
  unfold s_X7_shrink_41 at hs
  refine ev_aload_n C (x := .ref l0) rfl trivial dX7_shrink_41 ?_
  obtain ⟨x42, e42, hs⟩ := aB hs
  refine ev_get C (ci := 7) (k := 1) rfl wu_7 (by decide) wf_X7_40 (gO_F e42) dX7_shrink_42 ?_
  obtain ⟨x45, e45, hs⟩ := aB hs
  refine ev_getN C (ci := 3) (k := 3) rfl wu_3 (by decide) wg_X7_98 (gI_F e45) dX7_shrink_45 ?_
  refine ev_iconst C (v := 1) dX7_shrink_48 (by decide) ?_
  refine ev_isub C dX7_shrink_49 ?_
  refine ev_istore C (by decide) dX7_shrink_50 ?_
  exact (t_X7_shrink_52 C  FU hs)
theorem t_X7_shrink_13_b (C : Cx p l s m args meth c B0 X RX7 "shrink" cX7_shrink 7 (some .int) [])   {k13 : Nat → Nat → Nat → Int32 → Int32 → aH → aO} (K13 : ∀ (l0 : Nat) (l1 : Nat) (l2 : Nat) (l3 : Int32) (l4 : Int32) (h : aH), k13 l0 l1 l2 l3 l4 h = some (r, h') → Ev p l e { frames := 1, cells := mc, slots := ms, locals := 60 } s m args below meth c D B0 X ws0 r h' mc ms 7 mc ms 13 [some (.ref l0), some (.ref l1), some (.ref l2), some (.int l3), some (.int l4), none, none] [] h) {l0 : Nat} {l1 : Nat} {l2 : Nat} {l3 : Int32} {l4 : Int32} {h : aH} (hs : s_X7_shrink_13_b  k13 l0 l1 l2 l3 l4 h = some (r, h')) : Ev p l e { frames := 1, cells := mc, slots := ms, locals := 60 } s m args below meth c D B0 X ws0 r h' mc ms 7 mc ms 13 [some (.ref l0), some (.ref l1), some (.ref l2), some (.int l3), some (.int l4), none, none] [] h := by
  unfold s_X7_shrink_13_b at hs
  refine ev_iload C rfl dX7_shrink_13 ?_
  refine ev_aload_n C (x := .ref l0) rfl trivial dX7_shrink_15 ?_
  obtain ⟨x16, e16, hs⟩ := aB hs
  refine ev_get C (ci := 7) (k := 1) rfl wu_7 (by decide) wf_X7_40 (gO_F e16) dX7_shrink_16 ?_
  obtain ⟨x19, e19, hs⟩ := aB hs
  refine ev_getN C (ci := 3) (k := 3) rfl wu_3 (by decide) wg_X7_98 (gI_F e19) dX7_shrink_19 ?_
  refine ev_icmp_ge C (tgt := 41) (by decide) dX7_shrink_22 (fun q22 => ?_) (fun q22 => ?_)
  · replace hs := (if_pos q22).symm.trans hs
    exact (t_X7_shrink_41 C  hs)
  · replace hs := (if_neg q22).symm.trans hs
    refine ev_aload_n C (x := .ref l0) rfl trivial dX7_shrink_25 ?_
    obtain ⟨x26, e26, hs⟩ := aB hs
    refine ev_get C (ci := 7) (k := 12) rfl wu_7 (by decide) wf_X7_30 (gO_F e26) dX7_shrink_26 ?_
    refine ev_iload C rfl dX7_shrink_29 ?_
    obtain ⟨x31, e31, hs⟩ := aB hs
    refine ev_iald C e31 dX7_shrink_31 ?_
    refine ev_if_ne C (tgt := 41) (by decide) dX7_shrink_32 (fun q32 => ?_) (fun q32 => ?_)
    · replace hs := (if_neg q32).symm.trans hs
      exact (t_X7_shrink_41 C  hs)
    · replace hs := (if_pos q32).symm.trans hs
      refine ev_iinc C (i := 4) (n := 1) (x := l4) (v := l4 + 1) rfl (congrArg (fun z => l4 + z) (show Int32.ofInt 1 = 1 by decide)) (by decide) dX7_shrink_35 ?_
      refine ev_goto C (tgt := 13) (by decide) dX7_shrink_38 ?_
      exact (K13 _ _ _ _ _ _ hs)
theorem t_X7_shrink_13 (C : Cx p l s m args meth c B0 X RX7 "shrink" cX7_shrink 7 (some .int) [])   : ∀ (n : Nat) {l0 : Nat} {l1 : Nat} {l2 : Nat} {l3 : Int32} {l4 : Int32} {h : aH} (hs : s_X7_shrink_13  n l0 l1 l2 l3 l4 h = some (r, h')), Ev p l e { frames := 1, cells := mc, slots := ms, locals := 60 } s m args below meth c D B0 X ws0 r h' mc ms 7 mc ms 13 [some (.ref l0), some (.ref l1), some (.ref l2), some (.int l3), some (.int l4), none, none] [] h
  | 0, _, _, _, _, _, _, hs => nomatch hs
  | n + 1, _, _, _, _, _, _, hs => t_X7_shrink_13_b C  (k13 := s_X7_shrink_13  n) (fun _ _ _ _ _ _ hs => t_X7_shrink_13 C  n hs) hs
theorem hy_X7_shrink : yX7_shrink.cls ≠ "java/lang/invoke/MethodHandle" ∧ yX7_shrink.cls ≠ "java/lang/invoke/VarHandle" ∧ (parseMethodDescriptor yX7_shrink.desc).map (fun d => d.parameters.length) = some 2 := by decide +kernel
theorem T_X7_shrink (o : Nat) (a1 : Nat) (a2 : Nat) (h : aH) (r : aR) (h' : aH) (hs : s_X7_shrink o a1 a2 h = some (r, h')) : Mt yX7_shrink (Cond.code yX7_shrink cX7_shrink 7 (some .int) :: aTB) 1 60 0 0 [.ref o, .ref a1, .ref a2] h r h' := by
  unfold s_X7_shrink at hs
  refine Mt_of (k := 4) (by decide) rfl (fun p l e s m args below meth c D B0 X ws0 C => ?_)
  show Ev p l e { frames := 1, cells := 0, slots := 0, locals := 60 } s m args below meth c D B0 X ws0 r h' 0 0 7 0 0 0 [some (.ref o), some (.ref a1), some (.ref a2), none, none, none, none] [] h
  refine ev_iconst C (v := 0) dX7_shrink_0 (by decide) ?_
  refine ev_istore_n C (by decide) dX7_shrink_1 ?_
  refine ev_aload_n C (x := .ref o) rfl trivial dX7_shrink_2 ?_
  obtain ⟨x3, e3, hs⟩ := aB hs
  refine ev_get C (ci := 7) (k := 13) rfl wu_7 (by decide) wf_X7_33 (gO_F e3) dX7_shrink_3 ?_
  refine ev_iconst C (v := 0) dX7_shrink_6 (by decide) ?_
  obtain ⟨h7, e7, hs⟩ := cN_at hs
  refine ev_callS C (T_J7_fill_53178 _ _ _ _ _ e7) wc_J7_fill_53178 wm_X7_92 wt_J7_fill_53178 wz_J7 hy_J7_fill_53178 ⟨(Nat.le_of_ble_eq_true rfl), (Nat.le_of_ble_eq_true rfl)⟩ ⟨(Nat.le_refl _), (Nat.le_refl _)⟩ (Nat.le_of_ble_eq_true rfl) rfl dX7_shrink_7 ?_
  refine ev_iconst C (v := 0) dX7_shrink_10 (by decide) ?_
  refine ev_istore C (by decide) dX7_shrink_11 ?_
  exact (t_X7_shrink_13 C  FU hs)
end
-- X7_nameLayer
theorem dX7_nameLayer_0 : decode cX7_nameLayer 0 = .ok (.iconst 0, 1) := by decide +kernel
theorem dX7_nameLayer_1 : decode cX7_nameLayer 1 = .ok (.istore_n 2, 1) := by decide +kernel
theorem dX7_nameLayer_2 : decode cX7_nameLayer 2 = .ok (.iload_n 2, 1) := by decide +kernel
theorem dX7_nameLayer_3 : decode cX7_nameLayer 3 = .ok (.aload_n 0, 1) := by decide +kernel
theorem dX7_nameLayer_4 : decode cX7_nameLayer 4 = .ok (.getfield 36, 3) := by decide +kernel
theorem dX7_nameLayer_7 : decode cX7_nameLayer 7 = .ok (.getfield 64, 3) := by decide +kernel
theorem dX7_nameLayer_10 : decode cX7_nameLayer 10 = .ok (.if_icmp .ge 34, 3) := by decide +kernel
theorem dX7_nameLayer_13 : decode cX7_nameLayer 13 = .ok (.aload_n 0, 1) := by decide +kernel
theorem dX7_nameLayer_14 : decode cX7_nameLayer 14 = .ok (.getfield 30, 3) := by decide +kernel
theorem dX7_nameLayer_17 : decode cX7_nameLayer 17 = .ok (.iload_n 2, 1) := by decide +kernel
theorem dX7_nameLayer_18 : decode cX7_nameLayer 18 = .ok (.iconst 5, 1) := by decide +kernel
theorem dX7_nameLayer_19 : decode cX7_nameLayer 19 = .ok (.ishr, 1) := by decide +kernel
theorem dX7_nameLayer_20 : decode cX7_nameLayer 20 = .ok (.iaload, 1) := by decide +kernel
theorem dX7_nameLayer_21 : decode cX7_nameLayer 21 = .ok (.iload_n 2, 1) := by decide +kernel
theorem dX7_nameLayer_22 : decode cX7_nameLayer 22 = .ok (.bipush 31, 2) := by decide +kernel
theorem dX7_nameLayer_24 : decode cX7_nameLayer 24 = .ok (.iand, 1) := by decide +kernel
theorem dX7_nameLayer_25 : decode cX7_nameLayer 25 = .ok (.ishr, 1) := by decide +kernel
theorem dX7_nameLayer_26 : decode cX7_nameLayer 26 = .ok (.iconst 1, 1) := by decide +kernel
theorem dX7_nameLayer_27 : decode cX7_nameLayer 27 = .ok (.iand, 1) := by decide +kernel
theorem dX7_nameLayer_28 : decode cX7_nameLayer 28 = .ok (.ifCond .eq 10, 3) := by decide +kernel
theorem dX7_nameLayer_31 : decode cX7_nameLayer 31 = .ok (.aload_n 0, 1) := by decide +kernel
theorem dX7_nameLayer_32 : decode cX7_nameLayer 32 = .ok (.getfield 15, 3) := by decide +kernel
theorem dX7_nameLayer_35 : decode cX7_nameLayer 35 = .ok (.iload_n 2, 1) := by decide +kernel
theorem dX7_nameLayer_36 : decode cX7_nameLayer 36 = .ok (.iload_n 1, 1) := by decide +kernel
theorem dX7_nameLayer_37 : decode cX7_nameLayer 37 = .ok (.iastore, 1) := by decide +kernel
theorem dX7_nameLayer_38 : decode cX7_nameLayer 38 = .ok (.iinc 2 1, 3) := by decide +kernel
theorem dX7_nameLayer_41 : decode cX7_nameLayer 41 = .ok (.goto (-39), 3) := by decide +kernel
theorem dX7_nameLayer_44 : decode cX7_nameLayer 44 = .ok (.return_, 1) := by decide +kernel
def s_X7_nameLayer_2_b  (k2 : Nat → Int32 → Int32 → aH → aO) (l0 : Nat) (l1 : Int32) (l2 : Int32) (h : aH) : aO :=
  (gO h (.ref l0) 7 0).bind fun x4 => (gI h (.ref x4) 2 12).bind fun x7 => if x7 ≤ l2 then (some (.inl none, h)) else ((gO h (.ref l0) 7 12).bind fun x14 => (ldI .int h (.ref x14) (l2 >>> (5 &&& 31))).bind fun x20 => if ((x20 >>> ((l2 &&& 31) &&& 31)) &&& 1) = 0 then (k2 l0 l1 (l2 + 1) h) else ((gO h (.ref l0) 7 7).bind fun x32 => (stI h (.ref x32) l2 l1).bind fun h37 => k2 l0 l1 (l2 + 1) h37))
def s_X7_nameLayer_2  (n : Nat) : Nat → Int32 → Int32 → aH → aO := lpF (fun _ _ _ _ => none) (s_X7_nameLayer_2_b ) n
def s_X7_nameLayer (o : Nat) (a1 : Int32) (h : aH) : aO :=
  s_X7_nameLayer_2 FU o a1 0 h
section
variable {p : Program} {l : Launch} {e : Env} {s : State} {m : MethodId} {args : Array Value} {below : List Frame} {meth : Method} {c : Code} {D : va_G} {B0 : Nat} {X : Nat → Nat} {ws0 : va_W} {r : aR} {h' : aH} {mc ms : Nat}
theorem t_X7_nameLayer_2_b (C : Cx p l s m args meth c B0 X RX7 "nameLayer" cX7_nameLayer 3 none [])   {k2 : Nat → Int32 → Int32 → aH → aO} (K2 : ∀ (l0 : Nat) (l1 : Int32) (l2 : Int32) (h : aH), k2 l0 l1 l2 h = some (r, h') → Ev p l e { frames := 0, cells := mc, slots := ms, locals := 0 } s m args below meth c D B0 X ws0 r h' mc ms 3 mc ms 2 [some (.ref l0), some (.int l1), some (.int l2)] [] h) {l0 : Nat} {l1 : Int32} {l2 : Int32} {h : aH} (hs : s_X7_nameLayer_2_b  k2 l0 l1 l2 h = some (r, h')) : Ev p l e { frames := 0, cells := mc, slots := ms, locals := 0 } s m args below meth c D B0 X ws0 r h' mc ms 3 mc ms 2 [some (.ref l0), some (.int l1), some (.int l2)] [] h := by
  unfold s_X7_nameLayer_2_b at hs
  refine ev_iload_n C rfl dX7_nameLayer_2 ?_
  refine ev_aload_n C (x := .ref l0) rfl trivial dX7_nameLayer_3 ?_
  obtain ⟨x4, e4, hs⟩ := aB hs
  refine ev_get C (ci := 7) (k := 0) rfl wu_7 (by decide) wf_X7_36 (gO_F e4) dX7_nameLayer_4 ?_
  obtain ⟨x7, e7, hs⟩ := aB hs
  refine ev_getN C (ci := 2) (k := 12) rfl wu_2 (by decide) wg_X7_64 (gI_F e7) dX7_nameLayer_7 ?_
  refine ev_icmp_ge C (tgt := 44) (by decide) dX7_nameLayer_10 (fun q10 => ?_) (fun q10 => ?_)
  · replace hs := (if_pos q10).symm.trans hs
    cases hs
    exact ev_vret C rfl rfl (Nat.le_refl _) (Nat.le_refl _) rfl dX7_nameLayer_44
  · replace hs := (if_neg q10).symm.trans hs
    refine ev_aload_n C (x := .ref l0) rfl trivial dX7_nameLayer_13 ?_
    obtain ⟨x14, e14, hs⟩ := aB hs
    refine ev_get C (ci := 7) (k := 12) rfl wu_7 (by decide) wf_X7_30 (gO_F e14) dX7_nameLayer_14 ?_
    refine ev_iload_n C rfl dX7_nameLayer_17 ?_
    refine ev_iconst C (v := 5) dX7_nameLayer_18 (by decide) ?_
    refine ev_ishr C dX7_nameLayer_19 ?_
    obtain ⟨x20, e20, hs⟩ := aB hs
    refine ev_iald C e20 dX7_nameLayer_20 ?_
    refine ev_iload_n C rfl dX7_nameLayer_21 ?_
    refine ev_bipush C (v := 31) dX7_nameLayer_22 (by decide) ?_
    refine ev_iand C dX7_nameLayer_24 ?_
    refine ev_ishr C dX7_nameLayer_25 ?_
    refine ev_iconst C (v := 1) dX7_nameLayer_26 (by decide) ?_
    refine ev_iand C dX7_nameLayer_27 ?_
    refine ev_if_eq C (tgt := 38) (by decide) dX7_nameLayer_28 (fun q28 => ?_) (fun q28 => ?_)
    · replace hs := (if_pos q28).symm.trans hs
      refine ev_iinc C (i := 2) (n := 1) (x := l2) (v := l2 + 1) rfl (congrArg (fun z => l2 + z) (show Int32.ofInt 1 = 1 by decide)) (by decide) dX7_nameLayer_38 ?_
      refine ev_goto C (tgt := 2) (by decide) dX7_nameLayer_41 ?_
      exact (K2 _ _ _ _ hs)
    · replace hs := (if_neg q28).symm.trans hs
      refine ev_aload_n C (x := .ref l0) rfl trivial dX7_nameLayer_31 ?_
      obtain ⟨x32, e32, hs⟩ := aB hs
      refine ev_get C (ci := 7) (k := 7) rfl wu_7 (by decide) wf_X7_15 (gO_F e32) dX7_nameLayer_32 ?_
      refine ev_iload_n C rfl dX7_nameLayer_35 ?_
      refine ev_iload_n C rfl dX7_nameLayer_36 ?_
      obtain ⟨h37, e37, hs⟩ := aB hs
      refine ev_iast C e37 dX7_nameLayer_37 ?_
      refine ev_iinc C (i := 2) (n := 1) (x := l2) (v := l2 + 1) rfl (congrArg (fun z => l2 + z) (show Int32.ofInt 1 = 1 by decide)) (by decide) dX7_nameLayer_38 ?_
      refine ev_goto C (tgt := 2) (by decide) dX7_nameLayer_41 ?_
      exact (K2 _ _ _ _ hs)
theorem t_X7_nameLayer_2 (C : Cx p l s m args meth c B0 X RX7 "nameLayer" cX7_nameLayer 3 none [])   : ∀ (n : Nat) {l0 : Nat} {l1 : Int32} {l2 : Int32} {h : aH} (hs : s_X7_nameLayer_2  n l0 l1 l2 h = some (r, h')), Ev p l e { frames := 0, cells := mc, slots := ms, locals := 0 } s m args below meth c D B0 X ws0 r h' mc ms 3 mc ms 2 [some (.ref l0), some (.int l1), some (.int l2)] [] h
  | 0, _, _, _, _, hs => nomatch hs
  | n + 1, _, _, _, _, hs => t_X7_nameLayer_2_b C  (k2 := s_X7_nameLayer_2  n) (fun _ _ _ _ hs => t_X7_nameLayer_2 C  n hs) hs
theorem hy_X7_nameLayer : yX7_nameLayer.cls ≠ "java/lang/invoke/MethodHandle" ∧ yX7_nameLayer.cls ≠ "java/lang/invoke/VarHandle" ∧ (parseMethodDescriptor yX7_nameLayer.desc).map (fun d => d.parameters.length) = some 1 := by decide +kernel
theorem T_X7_nameLayer (o : Nat) (a1 : Int32) (h : aH) (r : aR) (h' : aH) (hs : s_X7_nameLayer o a1 h = some (r, h')) : Mt yX7_nameLayer (Cond.code yX7_nameLayer cX7_nameLayer 3 none :: aTB) 0 0 0 0 [.ref o, .int a1] h r h' := by
  unfold s_X7_nameLayer at hs
  refine Mt_of (k := 1) (by decide) rfl (fun p l e s m args below meth c D B0 X ws0 C => ?_)
  show Ev p l e { frames := 0, cells := 0, slots := 0, locals := 0 } s m args below meth c D B0 X ws0 r h' 0 0 3 0 0 0 [some (.ref o), some (.int a1), none] [] h
  refine ev_iconst C (v := 0) dX7_nameLayer_0 (by decide) ?_
  refine ev_istore_n C (by decide) dX7_nameLayer_1 ?_
  exact (t_X7_nameLayer_2 C  FU hs)
end
-- X7_settle
theorem dX7_settle_0 : decode cX7_settle 0 = .ok (.aload_n 0, 1) := by decide +kernel
theorem dX7_settle_1 : decode cX7_settle 1 = .ok (.getfield 48, 3) := by decide +kernel
theorem dX7_settle_4 : decode cX7_settle 4 = .ok (.ifCond .eq 4, 3) := by decide +kernel
theorem dX7_settle_7 : decode cX7_settle 7 = .ok (.return_, 1) := by decide +kernel
theorem dX7_settle_8 : decode cX7_settle 8 = .ok (.aload_n 0, 1) := by decide +kernel
theorem dX7_settle_9 : decode cX7_settle 9 = .ok (.iconst 1, 1) := by decide +kernel
theorem dX7_settle_10 : decode cX7_settle 10 = .ok (.putfield 48, 3) := by decide +kernel
theorem dX7_settle_13 : decode cX7_settle 13 = .ok (.aload_n 0, 1) := by decide +kernel
theorem dX7_settle_14 : decode cX7_settle 14 = .ok (.aload_n 0, 1) := by decide +kernel
theorem dX7_settle_15 : decode cX7_settle 15 = .ok (.getfield 44, 3) := by decide +kernel
theorem dX7_settle_18 : decode cX7_settle 18 = .ok (.getfield 55, 3) := by decide +kernel
theorem dX7_settle_21 : decode cX7_settle 21 = .ok (.putfield 61, 3) := by decide +kernel
theorem dX7_settle_24 : decode cX7_settle 24 = .ok (.iconst 0, 1) := by decide +kernel
theorem dX7_settle_25 : decode cX7_settle 25 = .ok (.istore_n 1, 1) := by decide +kernel
theorem dX7_settle_26 : decode cX7_settle 26 = .ok (.iload_n 1, 1) := by decide +kernel
theorem dX7_settle_27 : decode cX7_settle 27 = .ok (.aload_n 0, 1) := by decide +kernel
theorem dX7_settle_28 : decode cX7_settle 28 = .ok (.getfield 36, 3) := by decide +kernel
theorem dX7_settle_31 : decode cX7_settle 31 = .ok (.getfield 64, 3) := by decide +kernel
theorem dX7_settle_34 : decode cX7_settle 34 = .ok (.if_icmp .ge 48, 3) := by decide +kernel
theorem dX7_settle_37 : decode cX7_settle 37 = .ok (.aload_n 0, 1) := by decide +kernel
theorem dX7_settle_38 : decode cX7_settle 38 = .ok (.getfield 18, 3) := by decide +kernel
theorem dX7_settle_41 : decode cX7_settle 41 = .ok (.iload_n 1, 1) := by decide +kernel
theorem dX7_settle_42 : decode cX7_settle 42 = .ok (.aload_n 0, 1) := by decide +kernel
theorem dX7_settle_43 : decode cX7_settle 43 = .ok (.getfield 44, 3) := by decide +kernel
theorem dX7_settle_46 : decode cX7_settle 46 = .ok (.iload_n 1, 1) := by decide +kernel
theorem dX7_settle_47 : decode cX7_settle 47 = .ok (.invokevirtual 69, 3) := by decide +kernel
theorem dX7_settle_50 : decode cX7_settle 50 = .ok (.ifCond .eq 17, 3) := by decide +kernel
theorem dX7_settle_53 : decode cX7_settle 53 = .ok (.iconst 1, 1) := by decide +kernel
theorem dX7_settle_54 : decode cX7_settle 54 = .ok (.aload_n 0, 1) := by decide +kernel
theorem dX7_settle_55 : decode cX7_settle 55 = .ok (.getfield 36, 3) := by decide +kernel
theorem dX7_settle_58 : decode cX7_settle 58 = .ok (.getfield 73, 3) := by decide +kernel
theorem dX7_settle_61 : decode cX7_settle 61 = .ok (.ishl, 1) := by decide +kernel
theorem dX7_settle_62 : decode cX7_settle 62 = .ok (.iconst 1, 1) := by decide +kernel
theorem dX7_settle_63 : decode cX7_settle 63 = .ok (.isub, 1) := by decide +kernel
theorem dX7_settle_64 : decode cX7_settle 64 = .ok (.goto 4, 3) := by decide +kernel
theorem dX7_settle_67 : decode cX7_settle 67 = .ok (.iconst 0, 1) := by decide +kernel
theorem dX7_settle_68 : decode cX7_settle 68 = .ok (.iastore, 1) := by decide +kernel
theorem dX7_settle_69 : decode cX7_settle 69 = .ok (.aload_n 0, 1) := by decide +kernel
theorem dX7_settle_70 : decode cX7_settle 70 = .ok (.getfield 15, 3) := by decide +kernel
theorem dX7_settle_73 : decode cX7_settle 73 = .ok (.iload_n 1, 1) := by decide +kernel
theorem dX7_settle_74 : decode cX7_settle 74 = .ok (.iconst 0, 1) := by decide +kernel
theorem dX7_settle_75 : decode cX7_settle 75 = .ok (.iastore, 1) := by decide +kernel
theorem dX7_settle_76 : decode cX7_settle 76 = .ok (.iinc 1 1, 3) := by decide +kernel
theorem dX7_settle_79 : decode cX7_settle 79 = .ok (.goto (-53), 3) := by decide +kernel
theorem dX7_settle_82 : decode cX7_settle 82 = .ok (.iconst 0, 1) := by decide +kernel
theorem dX7_settle_83 : decode cX7_settle 83 = .ok (.istore_n 1, 1) := by decide +kernel
theorem dX7_settle_84 : decode cX7_settle 84 = .ok (.iload_n 1, 1) := by decide +kernel
theorem dX7_settle_85 : decode cX7_settle 85 = .ok (.bipush 13, 2) := by decide +kernel
theorem dX7_settle_87 : decode cX7_settle 87 = .ok (.if_icmp .ge 26, 3) := by decide +kernel
theorem dX7_settle_90 : decode cX7_settle 90 = .ok (.aload_n 0, 1) := by decide +kernel
theorem dX7_settle_91 : decode cX7_settle 91 = .ok (.getfield 30, 3) := by decide +kernel
theorem dX7_settle_94 : decode cX7_settle 94 = .ok (.iload_n 1, 1) := by decide +kernel
theorem dX7_settle_95 : decode cX7_settle 95 = .ok (.aload_n 0, 1) := by decide +kernel
theorem dX7_settle_96 : decode cX7_settle 96 = .ok (.getfield 44, 3) := by decide +kernel
theorem dX7_settle_99 : decode cX7_settle 99 = .ok (.getfield 76, 3) := by decide +kernel
theorem dX7_settle_102 : decode cX7_settle 102 = .ok (.iload_n 1, 1) := by decide +kernel
theorem dX7_settle_103 : decode cX7_settle 103 = .ok (.iaload, 1) := by decide +kernel
theorem dX7_settle_104 : decode cX7_settle 104 = .ok (.iconst (-1), 1) := by decide +kernel
theorem dX7_settle_105 : decode cX7_settle 105 = .ok (.ixor, 1) := by decide +kernel
theorem dX7_settle_106 : decode cX7_settle 106 = .ok (.iastore, 1) := by decide +kernel
theorem dX7_settle_107 : decode cX7_settle 107 = .ok (.iinc 1 1, 3) := by decide +kernel
theorem dX7_settle_110 : decode cX7_settle 110 = .ok (.goto (-26), 3) := by decide +kernel
theorem dX7_settle_113 : decode cX7_settle 113 = .ok (.iconst 1, 1) := by decide +kernel
theorem dX7_settle_114 : decode cX7_settle 114 = .ok (.istore_n 1, 1) := by decide +kernel
theorem dX7_settle_115 : decode cX7_settle 115 = .ok (.iconst 1, 1) := by decide +kernel
theorem dX7_settle_116 : decode cX7_settle 116 = .ok (.istore_n 2, 1) := by decide +kernel
theorem dX7_settle_117 : decode cX7_settle 117 = .ok (.iload_n 1, 1) := by decide +kernel
theorem dX7_settle_118 : decode cX7_settle 118 = .ok (.ifCond .le 53, 3) := by decide +kernel
theorem dX7_settle_121 : decode cX7_settle 121 = .ok (.iload_n 2, 1) := by decide +kernel
theorem dX7_settle_122 : decode cX7_settle 122 = .ok (.aload_n 0, 1) := by decide +kernel
theorem dX7_settle_123 : decode cX7_settle 123 = .ok (.getfield 36, 3) := by decide +kernel
theorem dX7_settle_126 : decode cX7_settle 126 = .ok (.getfield 64, 3) := by decide +kernel
theorem dX7_settle_129 : decode cX7_settle 129 = .ok (.iconst 1, 1) := by decide +kernel
theorem dX7_settle_130 : decode cX7_settle 130 = .ok (.iadd, 1) := by decide +kernel
theorem dX7_settle_131 : decode cX7_settle 131 = .ok (.if_icmp .gt 40, 3) := by decide +kernel
theorem dX7_settle_134 : decode cX7_settle 134 = .ok (.aload_n 0, 1) := by decide +kernel
theorem dX7_settle_135 : decode cX7_settle 135 = .ok (.aload_n 0, 1) := by decide +kernel
theorem dX7_settle_136 : decode cX7_settle 136 = .ok (.getfield 40, 3) := by decide +kernel
theorem dX7_settle_139 : decode cX7_settle 139 = .ok (.getfield 79, 3) := by decide +kernel
theorem dX7_settle_142 : decode cX7_settle 142 = .ok (.aload_n 0, 1) := by decide +kernel
theorem dX7_settle_143 : decode cX7_settle 143 = .ok (.getfield 18, 3) := by decide +kernel
theorem dX7_settle_146 : decode cX7_settle 146 = .ok (.invokevirtual 84, 3) := by decide +kernel
theorem dX7_settle_149 : decode cX7_settle 149 = .ok (.istore_n 1, 1) := by decide +kernel
theorem dX7_settle_150 : decode cX7_settle 150 = .ok (.aload_n 0, 1) := by decide +kernel
theorem dX7_settle_151 : decode cX7_settle 151 = .ok (.dup, 1) := by decide +kernel
theorem dX7_settle_152 : decode cX7_settle 152 = .ok (.getfield 61, 3) := by decide +kernel
theorem dX7_settle_155 : decode cX7_settle 155 = .ok (.iload_n 1, 1) := by decide +kernel
theorem dX7_settle_156 : decode cX7_settle 156 = .ok (.isub, 1) := by decide +kernel
theorem dX7_settle_157 : decode cX7_settle 157 = .ok (.putfield 61, 3) := by decide +kernel
theorem dX7_settle_160 : decode cX7_settle 160 = .ok (.aload_n 0, 1) := by decide +kernel
theorem dX7_settle_161 : decode cX7_settle 161 = .ok (.iload_n 2, 1) := by decide +kernel
theorem dX7_settle_162 : decode cX7_settle 162 = .ok (.invokevirtual 88, 3) := by decide +kernel
theorem dX7_settle_165 : decode cX7_settle 165 = .ok (.iinc 2 1, 3) := by decide +kernel
theorem dX7_settle_168 : decode cX7_settle 168 = .ok (.goto (-51), 3) := by decide +kernel
theorem dX7_settle_171 : decode cX7_settle 171 = .ok (.return_, 1) := by decide +kernel
def s_X7_settle_117_b  (k117 : Nat → Int32 → Int32 → aH → aO) (l0 : Nat) (l1 : Int32) (l2 : Int32) (h : aH) : aO :=
  if l1 ≤ 0 then (some (.inl none, h)) else ((gO h (.ref l0) 7 0).bind fun x123 => (gI h (.ref x123) 2 12).bind fun x126 => if (x126 + 1) < l2 then (some (.inl none, h)) else ((gO h (.ref l0) 7 1).bind fun x136 => (gO h (.ref x136) 3 5).bind fun x139 => (gO h (.ref l0) 7 8).bind fun x143 => kO h l0 7 (cI (s_X7_shrink l0 x139 x143 h) fun x146 h146 => (gI h146 (.ref l0) 7 6).bind fun x152 => (pF h146 (.ref l0) 7 6 (.int (x152 - x146))).bind fun h157 => kO h157 l0 7 (cN (s_X7_nameLayer l0 l2 h157) fun h162 => k117 l0 x146 (l2 + 1) h162))))
def s_X7_settle_117  (n : Nat) : Nat → Int32 → Int32 → aH → aO := lpF (fun _ _ _ _ => none) (s_X7_settle_117_b ) n
def s_X7_settle_84_b  (k84 : Nat → Int32 → aH → aO) (l0 : Nat) (l1 : Int32) (h : aH) : aO :=
  if 13 ≤ l1 then (s_X7_settle_117 FU l0 1 1 h) else ((gO h (.ref l0) 7 12).bind fun x91 => (gO h (.ref l0) 7 2).bind fun x96 => (gO h (.ref x96) 10 4).bind fun x99 => (ldI .int h (.ref x99) l1).bind fun x103 => (stI h (.ref x91) l1 (x103 ^^^ (-1))).bind fun h106 => k84 l0 (l1 + 1) h106)
def s_X7_settle_84  (n : Nat) : Nat → Int32 → aH → aO := lpF (fun _ _ _ => none) (s_X7_settle_84_b ) n
def s_X7_settle_68 (k26 : Nat → Int32 → aH → aO) (l0 : Nat) (l1 : Int32) (s0 : Int32) (s1 : Int32) (s2 : Nat) (h : aH) : aO :=
  (stI h (.ref s2) s1 s0).bind fun h68 => (gO h68 (.ref l0) 7 7).bind fun x70 => (stI h68 (.ref x70) l1 0).bind fun h75 => k26 l0 (l1 + 1) h75
def s_X7_settle_26_b  (k26 : Nat → Int32 → aH → aO) (l0 : Nat) (l1 : Int32) (h : aH) : aO :=
  (gO h (.ref l0) 7 0).bind fun x28 => (gI h (.ref x28) 2 12).bind fun x31 => if x31 ≤ l1 then (s_X7_settle_84 FU l0 0 h) else ((gO h (.ref l0) 7 8).bind fun x38 => (gO h (.ref l0) 7 2).bind fun x43 => kO h x43 10 (cI (s_X10_isGood x43 l1 h) fun x47 h47 => if x47 = 0 then (s_X7_settle_68 k26 l0 l1 0 l1 x38 h47) else ((gO h47 (.ref l0) 7 0).bind fun x55 => (gI h47 (.ref x55) 2 13).bind fun x58 => s_X7_settle_68 k26 l0 l1 ((1 <<< (x58 &&& 31)) - 1) l1 x38 h47)))
def s_X7_settle_26  (n : Nat) : Nat → Int32 → aH → aO := lpF (fun _ _ _ => none) (s_X7_settle_26_b ) n
def s_X7_settle (o : Nat) (h : aH) : aO :=
  (gI h (.ref o) 7 4).bind fun x1 => if x1 = 0 then ((pZ h (.ref o) 7 4 1).bind fun h10 => (gO h10 (.ref o) 7 2).bind fun x15 => (gI h10 (.ref x15) 10 3).bind fun x18 => (pF h10 (.ref o) 7 6 (.int x18)).bind fun h21 => s_X7_settle_26 FU o 0 h21) else (some (.inl none, h))
section
variable {p : Program} {l : Launch} {e : Env} {s : State} {m : MethodId} {args : Array Value} {below : List Frame} {meth : Method} {c : Code} {D : va_G} {B0 : Nat} {X : Nat → Nat} {ws0 : va_W} {r : aR} {h' : aH} {mc ms : Nat}
theorem t_X7_settle_117_b (C : Cx p l s m args meth c B0 X RX7 "settle" cX7_settle 3 none [])   {k117 : Nat → Int32 → Int32 → aH → aO} (K117 : ∀ (l0 : Nat) (l1 : Int32) (l2 : Int32) (h : aH), k117 l0 l1 l2 h = some (r, h') → Ev p l e { frames := 2, cells := mc, slots := ms, locals := 86 } s m args below meth c D B0 X ws0 r h' mc ms 3 mc ms 117 [some (.ref l0), some (.int l1), some (.int l2)] [] h) {l0 : Nat} {l1 : Int32} {l2 : Int32} {h : aH} (hs : s_X7_settle_117_b  k117 l0 l1 l2 h = some (r, h')) : Ev p l e { frames := 2, cells := mc, slots := ms, locals := 86 } s m args below meth c D B0 X ws0 r h' mc ms 3 mc ms 117 [some (.ref l0), some (.int l1), some (.int l2)] [] h := by
  unfold s_X7_settle_117_b at hs
  refine ev_iload_n C rfl dX7_settle_117 ?_
  refine ev_if_le C (tgt := 171) (by decide) dX7_settle_118 (fun q118 => ?_) (fun q118 => ?_)
  · replace hs := (if_pos q118).symm.trans hs
    cases hs
    exact ev_vret C rfl rfl (Nat.le_refl _) (Nat.le_refl _) rfl dX7_settle_171
  · replace hs := (if_neg q118).symm.trans hs
    refine ev_iload_n C rfl dX7_settle_121 ?_
    refine ev_aload_n C (x := .ref l0) rfl trivial dX7_settle_122 ?_
    obtain ⟨x123, e123, hs⟩ := aB hs
    refine ev_get C (ci := 7) (k := 0) rfl wu_7 (by decide) wf_X7_36 (gO_F e123) dX7_settle_123 ?_
    obtain ⟨x126, e126, hs⟩ := aB hs
    refine ev_getN C (ci := 2) (k := 12) rfl wu_2 (by decide) wg_X7_64 (gI_F e126) dX7_settle_126 ?_
    refine ev_iconst C (v := 1) dX7_settle_129 (by decide) ?_
    refine ev_iadd C dX7_settle_130 ?_
    refine ev_icmp_gt C (tgt := 171) (by decide) dX7_settle_131 (fun q131 => ?_) (fun q131 => ?_)
    · replace hs := (if_pos q131).symm.trans hs
      cases hs
      exact ev_vret C rfl rfl (Nat.le_refl _) (Nat.le_refl _) rfl dX7_settle_171
    · replace hs := (if_neg q131).symm.trans hs
      refine ev_aload_n C (x := .ref l0) rfl trivial dX7_settle_134 ?_
      refine ev_aload_n C (x := .ref l0) rfl trivial dX7_settle_135 ?_
      obtain ⟨x136, e136, hs⟩ := aB hs
      refine ev_get C (ci := 7) (k := 1) rfl wu_7 (by decide) wf_X7_40 (gO_F e136) dX7_settle_136 ?_
      obtain ⟨x139, e139, hs⟩ := aB hs
      refine ev_getN C (ci := 3) (k := 5) rfl wu_3 (by decide) wg_X7_79 (gO_F e139) dX7_settle_139 ?_
      refine ev_aload_n C (x := .ref l0) rfl trivial dX7_settle_142 ?_
      obtain ⟨x143, e143, hs⟩ := aB hs
      refine ev_get C (ci := 7) (k := 8) rfl wu_7 (by decide) wf_X7_18 (gO_F e143) dX7_settle_143 ?_
      obtain ⟨eo146, hs⟩ := kO_at hs
      obtain ⟨x146, h146, e146, hs⟩ := cI_at hs
      refine ev_callV C (T_X7_shrink _ _ _ _ _ _ e146) (ci := 7) rfl eo146 wc_X7_shrink wm_X7_84 wi_X7_shrink ws_X7_shrink wz_X7 hy_X7_shrink ⟨(Nat.le_of_ble_eq_true rfl), (Nat.le_of_ble_eq_true rfl)⟩ ⟨(Nat.le_refl _), (Nat.le_refl _)⟩ (Nat.le_of_ble_eq_true rfl) rfl dX7_settle_146 ?_
      refine ev_istore_n C (by decide) dX7_settle_149 ?_
      refine ev_aload_n C (x := .ref l0) rfl trivial dX7_settle_150 ?_
      refine ev_dup C rfl dX7_settle_151 ?_
      obtain ⟨x152, e152, hs⟩ := aB hs
      refine ev_get C (ci := 7) (k := 6) rfl wu_7 (by decide) wf_X7_61 (gI_F e152) dX7_settle_152 ?_
      refine ev_iload_n C rfl dX7_settle_155 ?_
      refine ev_isub C dX7_settle_156 ?_
      obtain ⟨h157, e157, hs⟩ := aB hs
      refine ev_put C (ci := 7) (k := 6) rfl wu_7 (by decide) tyX7 tyX7_ok nmX7 wf_X7_61 rfl trivial e157 dX7_settle_157 ?_
      refine ev_aload_n C (x := .ref l0) rfl trivial dX7_settle_160 ?_
      refine ev_iload_n C rfl dX7_settle_161 ?_
      obtain ⟨eo162, hs⟩ := kO_at hs
      obtain ⟨h162, e162, hs⟩ := cN_at hs
      refine ev_callV C (T_X7_nameLayer _ _ _ _ _ e162) (ci := 7) rfl eo162 wc_X7_nameLayer wm_X7_88 wi_X7_nameLayer ws_X7_nameLayer wz_X7 hy_X7_nameLayer ⟨(Nat.le_of_ble_eq_true rfl), (Nat.le_of_ble_eq_true rfl)⟩ ⟨(Nat.le_refl _), (Nat.le_refl _)⟩ (Nat.le_of_ble_eq_true rfl) rfl dX7_settle_162 ?_
      refine ev_iinc C (i := 2) (n := 1) (x := l2) (v := l2 + 1) rfl (congrArg (fun z => l2 + z) (show Int32.ofInt 1 = 1 by decide)) (by decide) dX7_settle_165 ?_
      refine ev_goto C (tgt := 117) (by decide) dX7_settle_168 ?_
      exact (K117 _ _ _ _ hs)
theorem t_X7_settle_117 (C : Cx p l s m args meth c B0 X RX7 "settle" cX7_settle 3 none [])   : ∀ (n : Nat) {l0 : Nat} {l1 : Int32} {l2 : Int32} {h : aH} (hs : s_X7_settle_117  n l0 l1 l2 h = some (r, h')), Ev p l e { frames := 2, cells := mc, slots := ms, locals := 86 } s m args below meth c D B0 X ws0 r h' mc ms 3 mc ms 117 [some (.ref l0), some (.int l1), some (.int l2)] [] h
  | 0, _, _, _, _, hs => nomatch hs
  | n + 1, _, _, _, _, hs => t_X7_settle_117_b C  (k117 := s_X7_settle_117  n) (fun _ _ _ _ hs => t_X7_settle_117 C  n hs) hs
theorem t_X7_settle_84_b (C : Cx p l s m args meth c B0 X RX7 "settle" cX7_settle 3 none [])   {k84 : Nat → Int32 → aH → aO} (K84 : ∀ (l0 : Nat) (l1 : Int32) (h : aH), k84 l0 l1 h = some (r, h') → Ev p l e { frames := 2, cells := mc, slots := ms, locals := 86 } s m args below meth c D B0 X ws0 r h' mc ms 3 mc ms 84 [some (.ref l0), some (.int l1), none] [] h) {l0 : Nat} {l1 : Int32} {h : aH} (hs : s_X7_settle_84_b  k84 l0 l1 h = some (r, h')) : Ev p l e { frames := 2, cells := mc, slots := ms, locals := 86 } s m args below meth c D B0 X ws0 r h' mc ms 3 mc ms 84 [some (.ref l0), some (.int l1), none] [] h := by
  unfold s_X7_settle_84_b at hs
  refine ev_iload_n C rfl dX7_settle_84 ?_
  refine ev_bipush C (v := 13) dX7_settle_85 (by decide) ?_
  refine ev_icmp_ge C (tgt := 113) (by decide) dX7_settle_87 (fun q87 => ?_) (fun q87 => ?_)
  · replace hs := (if_pos q87).symm.trans hs
    refine ev_iconst C (v := 1) dX7_settle_113 (by decide) ?_
    refine ev_istore_n C (by decide) dX7_settle_114 ?_
    refine ev_iconst C (v := 1) dX7_settle_115 (by decide) ?_
    refine ev_istore_n C (by decide) dX7_settle_116 ?_
    exact (t_X7_settle_117 C  FU hs)
  · replace hs := (if_neg q87).symm.trans hs
    refine ev_aload_n C (x := .ref l0) rfl trivial dX7_settle_90 ?_
    obtain ⟨x91, e91, hs⟩ := aB hs
    refine ev_get C (ci := 7) (k := 12) rfl wu_7 (by decide) wf_X7_30 (gO_F e91) dX7_settle_91 ?_
    refine ev_iload_n C rfl dX7_settle_94 ?_
    refine ev_aload_n C (x := .ref l0) rfl trivial dX7_settle_95 ?_
    obtain ⟨x96, e96, hs⟩ := aB hs
    refine ev_get C (ci := 7) (k := 2) rfl wu_7 (by decide) wf_X7_44 (gO_F e96) dX7_settle_96 ?_
    obtain ⟨x99, e99, hs⟩ := aB hs
    refine ev_getN C (ci := 10) (k := 4) rfl wu_10 (by decide) wg_X7_76 (gO_F e99) dX7_settle_99 ?_
    refine ev_iload_n C rfl dX7_settle_102 ?_
    obtain ⟨x103, e103, hs⟩ := aB hs
    refine ev_iald C e103 dX7_settle_103 ?_
    refine ev_iconst C (v := (-1)) dX7_settle_104 (by decide) ?_
    refine ev_ixor C dX7_settle_105 ?_
    obtain ⟨h106, e106, hs⟩ := aB hs
    refine ev_iast C e106 dX7_settle_106 ?_
    refine ev_iinc C (i := 1) (n := 1) (x := l1) (v := l1 + 1) rfl (congrArg (fun z => l1 + z) (show Int32.ofInt 1 = 1 by decide)) (by decide) dX7_settle_107 ?_
    refine ev_goto C (tgt := 84) (by decide) dX7_settle_110 ?_
    exact (K84 _ _ _ hs)
theorem t_X7_settle_84 (C : Cx p l s m args meth c B0 X RX7 "settle" cX7_settle 3 none [])   : ∀ (n : Nat) {l0 : Nat} {l1 : Int32} {h : aH} (hs : s_X7_settle_84  n l0 l1 h = some (r, h')), Ev p l e { frames := 2, cells := mc, slots := ms, locals := 86 } s m args below meth c D B0 X ws0 r h' mc ms 3 mc ms 84 [some (.ref l0), some (.int l1), none] [] h
  | 0, _, _, _, hs => nomatch hs
  | n + 1, _, _, _, hs => t_X7_settle_84_b C  (k84 := s_X7_settle_84  n) (fun _ _ _ hs => t_X7_settle_84 C  n hs) hs
theorem t_X7_settle_68 (C : Cx p l s m args meth c B0 X RX7 "settle" cX7_settle 3 none []) {k26 : Nat → Int32 → aH → aO} (K26 : ∀ (l0 : Nat) (l1 : Int32) (h : aH), k26 l0 l1 h = some (r, h') → Ev p l e { frames := 2, cells := mc, slots := ms, locals := 86 } s m args below meth c D B0 X ws0 r h' mc ms 3 mc ms 26 [some (.ref l0), some (.int l1), none] [] h) {l0 : Nat} {l1 : Int32} {s0 : Int32} {s1 : Int32} {s2 : Nat} {h : aH} (hs : s_X7_settle_68 k26 l0 l1 s0 s1 s2 h = some (r, h')) : Ev p l e { frames := 2, cells := mc, slots := ms, locals := 86 } s m args below meth c D B0 X ws0 r h' mc ms 3 mc ms 68 [some (.ref l0), some (.int l1), none] [.int s0, .int s1, .ref s2] h := by
  unfold s_X7_settle_68 at hs
  obtain ⟨h68, e68, hs⟩ := aB hs
  refine ev_iast C e68 dX7_settle_68 ?_
  refine ev_aload_n C (x := .ref l0) rfl trivial dX7_settle_69 ?_
  obtain ⟨x70, e70, hs⟩ := aB hs
  refine ev_get C (ci := 7) (k := 7) rfl wu_7 (by decide) wf_X7_15 (gO_F e70) dX7_settle_70 ?_
  refine ev_iload_n C rfl dX7_settle_73 ?_
  refine ev_iconst C (v := 0) dX7_settle_74 (by decide) ?_
  obtain ⟨h75, e75, hs⟩ := aB hs
  refine ev_iast C e75 dX7_settle_75 ?_
  refine ev_iinc C (i := 1) (n := 1) (x := l1) (v := l1 + 1) rfl (congrArg (fun z => l1 + z) (show Int32.ofInt 1 = 1 by decide)) (by decide) dX7_settle_76 ?_
  refine ev_goto C (tgt := 26) (by decide) dX7_settle_79 ?_
  exact (K26 _ _ _ hs)
theorem t_X7_settle_26_b (C : Cx p l s m args meth c B0 X RX7 "settle" cX7_settle 3 none [])   {k26 : Nat → Int32 → aH → aO} (K26 : ∀ (l0 : Nat) (l1 : Int32) (h : aH), k26 l0 l1 h = some (r, h') → Ev p l e { frames := 2, cells := mc, slots := ms, locals := 86 } s m args below meth c D B0 X ws0 r h' mc ms 3 mc ms 26 [some (.ref l0), some (.int l1), none] [] h) {l0 : Nat} {l1 : Int32} {h : aH} (hs : s_X7_settle_26_b  k26 l0 l1 h = some (r, h')) : Ev p l e { frames := 2, cells := mc, slots := ms, locals := 86 } s m args below meth c D B0 X ws0 r h' mc ms 3 mc ms 26 [some (.ref l0), some (.int l1), none] [] h := by
  unfold s_X7_settle_26_b at hs
  refine ev_iload_n C rfl dX7_settle_26 ?_
  refine ev_aload_n C (x := .ref l0) rfl trivial dX7_settle_27 ?_
  obtain ⟨x28, e28, hs⟩ := aB hs
  refine ev_get C (ci := 7) (k := 0) rfl wu_7 (by decide) wf_X7_36 (gO_F e28) dX7_settle_28 ?_
  obtain ⟨x31, e31, hs⟩ := aB hs
  refine ev_getN C (ci := 2) (k := 12) rfl wu_2 (by decide) wg_X7_64 (gI_F e31) dX7_settle_31 ?_
  refine ev_icmp_ge C (tgt := 82) (by decide) dX7_settle_34 (fun q34 => ?_) (fun q34 => ?_)
  · replace hs := (if_pos q34).symm.trans hs
    refine ev_iconst C (v := 0) dX7_settle_82 (by decide) ?_
    refine ev_istore_n C (by decide) dX7_settle_83 ?_
    exact (t_X7_settle_84 C  FU hs)
  · replace hs := (if_neg q34).symm.trans hs
    refine ev_aload_n C (x := .ref l0) rfl trivial dX7_settle_37 ?_
    obtain ⟨x38, e38, hs⟩ := aB hs
    refine ev_get C (ci := 7) (k := 8) rfl wu_7 (by decide) wf_X7_18 (gO_F e38) dX7_settle_38 ?_
    refine ev_iload_n C rfl dX7_settle_41 ?_
    refine ev_aload_n C (x := .ref l0) rfl trivial dX7_settle_42 ?_
    obtain ⟨x43, e43, hs⟩ := aB hs
    refine ev_get C (ci := 7) (k := 2) rfl wu_7 (by decide) wf_X7_44 (gO_F e43) dX7_settle_43 ?_
    refine ev_iload_n C rfl dX7_settle_46 ?_
    obtain ⟨eo47, hs⟩ := kO_at hs
    obtain ⟨x47, h47, e47, hs⟩ := cI_at hs
    refine ev_callVN C (T_X10_isGood _ _ _ _ _ e47) (ci := 10) rfl eo47 wc_X10_isGood wn_X7_69 wi_X10_isGood ws_X10_isGood wz_X10 hy_X10_isGood ⟨(Nat.le_of_ble_eq_true rfl), (Nat.le_of_ble_eq_true rfl)⟩ ⟨(Nat.le_refl _), (Nat.le_refl _)⟩ (Nat.le_of_ble_eq_true rfl) rfl dX7_settle_47 ?_
    refine ev_if_eq C (tgt := 67) (by decide) dX7_settle_50 (fun q50 => ?_) (fun q50 => ?_)
    · replace hs := (if_pos q50).symm.trans hs
      refine ev_iconst C (v := 0) dX7_settle_67 (by decide) ?_
      exact (t_X7_settle_68 C K26 hs)
    · replace hs := (if_neg q50).symm.trans hs
      refine ev_iconst C (v := 1) dX7_settle_53 (by decide) ?_
      refine ev_aload_n C (x := .ref l0) rfl trivial dX7_settle_54 ?_
      obtain ⟨x55, e55, hs⟩ := aB hs
      refine ev_get C (ci := 7) (k := 0) rfl wu_7 (by decide) wf_X7_36 (gO_F e55) dX7_settle_55 ?_
      obtain ⟨x58, e58, hs⟩ := aB hs
      refine ev_getN C (ci := 2) (k := 13) rfl wu_2 (by decide) wg_X7_73 (gI_F e58) dX7_settle_58 ?_
      refine ev_ishl C dX7_settle_61 ?_
      refine ev_iconst C (v := 1) dX7_settle_62 (by decide) ?_
      refine ev_isub C dX7_settle_63 ?_
      refine ev_goto C (tgt := 68) (by decide) dX7_settle_64 ?_
      exact (t_X7_settle_68 C K26 hs)
theorem t_X7_settle_26 (C : Cx p l s m args meth c B0 X RX7 "settle" cX7_settle 3 none [])   : ∀ (n : Nat) {l0 : Nat} {l1 : Int32} {h : aH} (hs : s_X7_settle_26  n l0 l1 h = some (r, h')), Ev p l e { frames := 2, cells := mc, slots := ms, locals := 86 } s m args below meth c D B0 X ws0 r h' mc ms 3 mc ms 26 [some (.ref l0), some (.int l1), none] [] h
  | 0, _, _, _, hs => nomatch hs
  | n + 1, _, _, _, hs => t_X7_settle_26_b C  (k26 := s_X7_settle_26  n) (fun _ _ _ hs => t_X7_settle_26 C  n hs) hs
theorem hy_X7_settle : yX7_settle.cls ≠ "java/lang/invoke/MethodHandle" ∧ yX7_settle.cls ≠ "java/lang/invoke/VarHandle" ∧ (parseMethodDescriptor yX7_settle.desc).map (fun d => d.parameters.length) = some 0 := by decide +kernel
theorem T_X7_settle (o : Nat) (h : aH) (r : aR) (h' : aH) (hs : s_X7_settle o h = some (r, h')) : Mt yX7_settle (Cond.code yX7_settle cX7_settle 3 none :: aTB) 2 86 0 0 [.ref o] h r h' := by
  unfold s_X7_settle at hs
  refine Mt_of (k := 2) (by decide) rfl (fun p l e s m args below meth c D B0 X ws0 C => ?_)
  show Ev p l e { frames := 2, cells := 0, slots := 0, locals := 86 } s m args below meth c D B0 X ws0 r h' 0 0 3 0 0 0 [some (.ref o), none, none] [] h
  refine ev_aload_n C (x := .ref o) rfl trivial dX7_settle_0 ?_
  obtain ⟨x1, e1, hs⟩ := aB hs
  refine ev_get C (ci := 7) (k := 4) rfl wu_7 (by decide) wf_X7_48 (gI_F e1) dX7_settle_1 ?_
  refine ev_if_eq C (tgt := 8) (by decide) dX7_settle_4 (fun q4 => ?_) (fun q4 => ?_)
  · replace hs := (if_pos q4).symm.trans hs
    refine ev_aload_n C (x := .ref o) rfl trivial dX7_settle_8 ?_
    refine ev_iconst C (v := 1) dX7_settle_9 (by decide) ?_
    obtain ⟨h10, e10, hs⟩ := aB hs
    refine ev_put C (ci := 7) (k := 4) rfl wu_7 (by decide) tyX7 tyX7_ok nmX7 wf_X7_48 rfl (pZ_F e10).2 (pZ_F e10).1 dX7_settle_10 ?_
    refine ev_aload_n C (x := .ref o) rfl trivial dX7_settle_13 ?_
    refine ev_aload_n C (x := .ref o) rfl trivial dX7_settle_14 ?_
    obtain ⟨x15, e15, hs⟩ := aB hs
    refine ev_get C (ci := 7) (k := 2) rfl wu_7 (by decide) wf_X7_44 (gO_F e15) dX7_settle_15 ?_
    obtain ⟨x18, e18, hs⟩ := aB hs
    refine ev_getN C (ci := 10) (k := 3) rfl wu_10 (by decide) wg_X7_55 (gI_F e18) dX7_settle_18 ?_
    obtain ⟨h21, e21, hs⟩ := aB hs
    refine ev_put C (ci := 7) (k := 6) rfl wu_7 (by decide) tyX7 tyX7_ok nmX7 wf_X7_61 rfl trivial e21 dX7_settle_21 ?_
    refine ev_iconst C (v := 0) dX7_settle_24 (by decide) ?_
    refine ev_istore_n C (by decide) dX7_settle_25 ?_
    exact (t_X7_settle_26 C  FU hs)
  · replace hs := (if_neg q4).symm.trans hs
    cases hs
    exact ev_vret C rfl rfl (Nat.le_refl _) (Nat.le_refl _) rfl dX7_settle_7
end
-- X7_staysByWider
theorem dX7_staysByWider_0 : decode cX7_staysByWider 0 = .ok (.aload_n 0, 1) := by decide +kernel
theorem dX7_staysByWider_1 : decode cX7_staysByWider 1 = .ok (.getfield 36, 3) := by decide +kernel
theorem dX7_staysByWider_4 : decode cX7_staysByWider 4 = .ok (.iconst 2, 1) := by decide +kernel
theorem dX7_staysByWider_5 : decode cX7_staysByWider 5 = .ok (.iload_n 3, 1) := by decide +kernel
theorem dX7_staysByWider_6 : decode cX7_staysByWider 6 = .ok (.invokevirtual 122, 3) := by decide +kernel
theorem dX7_staysByWider_9 : decode cX7_staysByWider 9 = .ok (.aload_n 0, 1) := by decide +kernel
theorem dX7_staysByWider_10 : decode cX7_staysByWider 10 = .ok (.getfield 36, 3) := by decide +kernel
theorem dX7_staysByWider_13 : decode cX7_staysByWider 13 = .ok (.getfield 126, 3) := by decide +kernel
theorem dX7_staysByWider_16 : decode cX7_staysByWider 16 = .ok (.imul, 1) := by decide +kernel
theorem dX7_staysByWider_17 : decode cX7_staysByWider 17 = .ok (.istore 4, 2) := by decide +kernel
theorem dX7_staysByWider_19 : decode cX7_staysByWider 19 = .ok (.aload_n 0, 1) := by decide +kernel
theorem dX7_staysByWider_20 : decode cX7_staysByWider 20 = .ok (.getfield 36, 3) := by decide +kernel
theorem dX7_staysByWider_23 : decode cX7_staysByWider 23 = .ok (.iconst 0, 1) := by decide +kernel
theorem dX7_staysByWider_24 : decode cX7_staysByWider 24 = .ok (.iload_n 1, 1) := by decide +kernel
theorem dX7_staysByWider_25 : decode cX7_staysByWider 25 = .ok (.iconst 0, 1) := by decide +kernel
theorem dX7_staysByWider_26 : decode cX7_staysByWider 26 = .ok (.aload_n 0, 1) := by decide +kernel
theorem dX7_staysByWider_27 : decode cX7_staysByWider 27 = .ok (.getfield 9, 3) := by decide +kernel
theorem dX7_staysByWider_30 : decode cX7_staysByWider 30 = .ok (.invokevirtual 129, 3) := by decide +kernel
theorem dX7_staysByWider_33 : decode cX7_staysByWider 33 = .ok (.aload_n 0, 1) := by decide +kernel
theorem dX7_staysByWider_34 : decode cX7_staysByWider 34 = .ok (.getfield 36, 3) := by decide +kernel
theorem dX7_staysByWider_37 : decode cX7_staysByWider 37 = .ok (.iconst 1, 1) := by decide +kernel
theorem dX7_staysByWider_38 : decode cX7_staysByWider 38 = .ok (.iload_n 2, 1) := by decide +kernel
theorem dX7_staysByWider_39 : decode cX7_staysByWider 39 = .ok (.iconst 0, 1) := by decide +kernel
theorem dX7_staysByWider_40 : decode cX7_staysByWider 40 = .ok (.aload_n 0, 1) := by decide +kernel
theorem dX7_staysByWider_41 : decode cX7_staysByWider 41 = .ok (.getfield 9, 3) := by decide +kernel
theorem dX7_staysByWider_44 : decode cX7_staysByWider 44 = .ok (.invokevirtual 129, 3) := by decide +kernel
theorem dX7_staysByWider_47 : decode cX7_staysByWider 47 = .ok (.iconst 0, 1) := by decide +kernel
theorem dX7_staysByWider_48 : decode cX7_staysByWider 48 = .ok (.istore 5, 2) := by decide +kernel
theorem dX7_staysByWider_50 : decode cX7_staysByWider 50 = .ok (.iload 5, 2) := by decide +kernel
theorem dX7_staysByWider_52 : decode cX7_staysByWider 52 = .ok (.iload 4, 2) := by decide +kernel
theorem dX7_staysByWider_54 : decode cX7_staysByWider 54 = .ok (.if_icmp .ge 92, 3) := by decide +kernel
theorem dX7_staysByWider_57 : decode cX7_staysByWider 57 = .ok (.aload_n 0, 1) := by decide +kernel
theorem dX7_staysByWider_58 : decode cX7_staysByWider 58 = .ok (.getfield 36, 3) := by decide +kernel
theorem dX7_staysByWider_61 : decode cX7_staysByWider 61 = .ok (.iload 5, 2) := by decide +kernel
theorem dX7_staysByWider_63 : decode cX7_staysByWider 63 = .ok (.iload_n 3, 1) := by decide +kernel
theorem dX7_staysByWider_64 : decode cX7_staysByWider 64 = .ok (.aload_n 0, 1) := by decide +kernel
theorem dX7_staysByWider_65 : decode cX7_staysByWider 65 = .ok (.getfield 9, 3) := by decide +kernel
theorem dX7_staysByWider_68 : decode cX7_staysByWider 68 = .ok (.invokevirtual 133, 3) := by decide +kernel
theorem dX7_staysByWider_71 : decode cX7_staysByWider 71 = .ok (.aload_n 0, 1) := by decide +kernel
theorem dX7_staysByWider_72 : decode cX7_staysByWider 72 = .ok (.getfield 36, 3) := by decide +kernel
theorem dX7_staysByWider_75 : decode cX7_staysByWider 75 = .ok (.iload_n 3, 1) := by decide +kernel
theorem dX7_staysByWider_76 : decode cX7_staysByWider 76 = .ok (.aload_n 0, 1) := by decide +kernel
theorem dX7_staysByWider_77 : decode cX7_staysByWider 77 = .ok (.getfield 9, 3) := by decide +kernel
theorem dX7_staysByWider_80 : decode cX7_staysByWider 80 = .ok (.invokevirtual 137, 3) := by decide +kernel
theorem dX7_staysByWider_83 : decode cX7_staysByWider 83 = .ok (.ifCond .eq 57, 3) := by decide +kernel
theorem dX7_staysByWider_86 : decode cX7_staysByWider 86 = .ok (.aload_n 0, 1) := by decide +kernel
theorem dX7_staysByWider_87 : decode cX7_staysByWider 87 = .ok (.getfield 36, 3) := by decide +kernel
theorem dX7_staysByWider_90 : decode cX7_staysByWider 90 = .ok (.aload_n 0, 1) := by decide +kernel
theorem dX7_staysByWider_91 : decode cX7_staysByWider 91 = .ok (.getfield 9, 3) := by decide +kernel
theorem dX7_staysByWider_94 : decode cX7_staysByWider 94 = .ok (.invokevirtual 141, 3) := by decide +kernel
theorem dX7_staysByWider_97 : decode cX7_staysByWider 97 = .ok (.istore 6, 2) := by decide +kernel
theorem dX7_staysByWider_99 : decode cX7_staysByWider 99 = .ok (.iload 6, 2) := by decide +kernel
theorem dX7_staysByWider_101 : decode cX7_staysByWider 101 = .ok (.ifCond .lt 13, 3) := by decide +kernel
theorem dX7_staysByWider_104 : decode cX7_staysByWider 104 = .ok (.aload_n 0, 1) := by decide +kernel
theorem dX7_staysByWider_105 : decode cX7_staysByWider 105 = .ok (.getfield 24, 3) := by decide +kernel
theorem dX7_staysByWider_108 : decode cX7_staysByWider 108 = .ok (.iload 6, 2) := by decide +kernel
theorem dX7_staysByWider_110 : decode cX7_staysByWider 110 = .ok (.iaload, 1) := by decide +kernel
theorem dX7_staysByWider_111 : decode cX7_staysByWider 111 = .ok (.ifCond .ne 5, 3) := by decide +kernel
theorem dX7_staysByWider_114 : decode cX7_staysByWider 114 = .ok (.iconst 0, 1) := by decide +kernel
theorem dX7_staysByWider_115 : decode cX7_staysByWider 115 = .ok (.ireturn, 1) := by decide +kernel
theorem dX7_staysByWider_116 : decode cX7_staysByWider 116 = .ok (.aload_n 0, 1) := by decide +kernel
theorem dX7_staysByWider_117 : decode cX7_staysByWider 117 = .ok (.getfield 40, 3) := by decide +kernel
theorem dX7_staysByWider_120 : decode cX7_staysByWider 120 = .ok (.aload_n 0, 1) := by decide +kernel
theorem dX7_staysByWider_121 : decode cX7_staysByWider 121 = .ok (.getfield 27, 3) := by decide +kernel
theorem dX7_staysByWider_124 : decode cX7_staysByWider 124 = .ok (.iload_n 1, 1) := by decide +kernel
theorem dX7_staysByWider_125 : decode cX7_staysByWider 125 = .ok (.aload_n 0, 1) := by decide +kernel
theorem dX7_staysByWider_126 : decode cX7_staysByWider 126 = .ok (.getfield 36, 3) := by decide +kernel
theorem dX7_staysByWider_129 : decode cX7_staysByWider 129 = .ok (.getfield 73, 3) := by decide +kernel
theorem dX7_staysByWider_132 : decode cX7_staysByWider 132 = .ok (.imul, 1) := by decide +kernel
theorem dX7_staysByWider_133 : decode cX7_staysByWider 133 = .ok (.iload_n 2, 1) := by decide +kernel
theorem dX7_staysByWider_134 : decode cX7_staysByWider 134 = .ok (.iadd, 1) := by decide +kernel
theorem dX7_staysByWider_135 : decode cX7_staysByWider 135 = .ok (.iload 6, 2) := by decide +kernel
theorem dX7_staysByWider_137 : decode cX7_staysByWider 137 = .ok (.invokevirtual 145, 3) := by decide +kernel
theorem dX7_staysByWider_140 : decode cX7_staysByWider 140 = .ok (.iinc 5 1, 3) := by decide +kernel
theorem dX7_staysByWider_143 : decode cX7_staysByWider 143 = .ok (.goto (-93), 3) := by decide +kernel
theorem dX7_staysByWider_146 : decode cX7_staysByWider 146 = .ok (.iconst 1, 1) := by decide +kernel
theorem dX7_staysByWider_147 : decode cX7_staysByWider 147 = .ok (.ireturn, 1) := by decide +kernel
def s_X7_staysByWider_50_b  (k50 : Nat → Int32 → Int32 → Int32 → Int32 → Int32 → aH → aO) (l0 : Nat) (l1 : Int32) (l2 : Int32) (l3 : Int32) (l4 : Int32) (l5 : Int32) (h : aH) : aO :=
  if l4 ≤ l5 then (rtZ 1 h) else ((gO h (.ref l0) 7 0).bind fun x58 => (gO h (.ref l0) 7 3).bind fun x65 => kO h x58 2 (cN (s_X2_spreadWorld x58 l5 l3 x65 h) fun h68 => (gO h68 (.ref l0) 7 0).bind fun x72 => (gO h68 (.ref l0) 7 3).bind fun x77 => kO h68 x72 2 (cI (s_X2_isEdge x72 l3 x77 h68) fun x80 h80 => if x80 = 0 then (k50 l0 l1 l2 l3 l4 (l5 + 1) h80) else ((gO h80 (.ref l0) 7 0).bind fun x87 => (gO h80 (.ref l0) 7 3).bind fun x91 => kO h80 x87 2 (cI (s_X2_lead x87 x91 h80) fun x94 h94 => if x94 < 0 then (rtZ 0 h94) else ((gO h94 (.ref l0) 7 10).bind fun x105 => (ldI .int h94 (.ref x105) x94).bind fun x110 => if x110 = 0 then (rtZ 0 h94) else ((gO h94 (.ref l0) 7 1).bind fun x117 => (gO h94 (.ref l0) 7 11).bind fun x121 => (gO h94 (.ref l0) 7 0).bind fun x126 => (gI h94 (.ref x126) 2 13).bind fun x129 => kO h94 x117 3 (cN (s_X3_mark x117 x121 ((l1 * x129) + l2) x94 h94) fun h137 => k50 l0 l1 l2 l3 l4 (l5 + 1) h137))))))))
def s_X7_staysByWider_50  (n : Nat) : Nat → Int32 → Int32 → Int32 → Int32 → Int32 → aH → aO := lpF (fun _ _ _ _ _ _ _ => none) (s_X7_staysByWider_50_b ) n
def s_X7_staysByWider (o : Nat) (a1 : Int32) (a2 : Int32) (a3 : Int32) (h : aH) : aO :=
  (gO h (.ref o) 7 0).bind fun x1 => kO h x1 2 (cI (s_X2_parts x1 2 a3 h) fun x6 h6 => (gO h6 (.ref o) 7 0).bind fun x10 => (gI h6 (.ref x10) 2 15).bind fun x13 => (gO h6 (.ref o) 7 0).bind fun x20 => (gO h6 (.ref o) 7 3).bind fun x27 => kO h6 x20 2 (cN (s_X2_spread x20 0 a1 0 x27 h6) fun h30 => (gO h30 (.ref o) 7 0).bind fun x34 => (gO h30 (.ref o) 7 3).bind fun x41 => kO h30 x34 2 (cN (s_X2_spread x34 1 a2 0 x41 h30) fun h44 => s_X7_staysByWider_50 FU o a1 a2 a3 (x6 * x13) 0 h44)))
section
variable {p : Program} {l : Launch} {e : Env} {s : State} {m : MethodId} {args : Array Value} {below : List Frame} {meth : Method} {c : Code} {D : va_G} {B0 : Nat} {X : Nat → Nat} {ws0 : va_W} {r : aR} {h' : aH} {mc ms : Nat}
theorem t_X7_staysByWider_50_b (C : Cx p l s m args meth c B0 X RX7 "staysByWider" cX7_staysByWider 7 (some .boolean) [])   {k50 : Nat → Int32 → Int32 → Int32 → Int32 → Int32 → aH → aO} (K50 : ∀ (l0 : Nat) (l1 : Int32) (l2 : Int32) (l3 : Int32) (l4 : Int32) (l5 : Int32) (h : aH), k50 l0 l1 l2 l3 l4 l5 h = some (r, h') → Ev p l e { frames := 4, cells := mc, slots := ms, locals := 102 } s m args below meth c D B0 X ws0 r h' mc ms 7 mc ms 50 [some (.ref l0), some (.int l1), some (.int l2), some (.int l3), some (.int l4), some (.int l5), none] [] h) {l0 : Nat} {l1 : Int32} {l2 : Int32} {l3 : Int32} {l4 : Int32} {l5 : Int32} {h : aH} (hs : s_X7_staysByWider_50_b  k50 l0 l1 l2 l3 l4 l5 h = some (r, h')) : Ev p l e { frames := 4, cells := mc, slots := ms, locals := 102 } s m args below meth c D B0 X ws0 r h' mc ms 7 mc ms 50 [some (.ref l0), some (.int l1), some (.int l2), some (.int l3), some (.int l4), some (.int l5), none] [] h := by
  unfold s_X7_staysByWider_50_b at hs
  refine ev_iload C rfl dX7_staysByWider_50 ?_
  refine ev_iload C rfl dX7_staysByWider_52 ?_
  refine ev_icmp_ge C (tgt := 146) (by decide) dX7_staysByWider_54 (fun q54 => ?_) (fun q54 => ?_)
  · replace hs := (if_pos q54).symm.trans hs
    refine ev_iconst C (v := 1) dX7_staysByWider_146 (by decide) ?_
    obtain ⟨hz, rfl, rfl⟩ := rtZ_at hs
    exact ev_zret C rfl hz rfl (Nat.le_refl _) (Nat.le_refl _) rfl dX7_staysByWider_147
  · replace hs := (if_neg q54).symm.trans hs
    refine ev_aload_n C (x := .ref l0) rfl trivial dX7_staysByWider_57 ?_
    obtain ⟨x58, e58, hs⟩ := aB hs
    refine ev_get C (ci := 7) (k := 0) rfl wu_7 (by decide) wf_X7_36 (gO_F e58) dX7_staysByWider_58 ?_
    refine ev_iload C rfl dX7_staysByWider_61 ?_
    refine ev_iload_n C rfl dX7_staysByWider_63 ?_
    refine ev_aload_n C (x := .ref l0) rfl trivial dX7_staysByWider_64 ?_
    obtain ⟨x65, e65, hs⟩ := aB hs
    refine ev_get C (ci := 7) (k := 3) rfl wu_7 (by decide) wf_X7_9 (gO_F e65) dX7_staysByWider_65 ?_
    obtain ⟨eo68, hs⟩ := kO_at hs
    obtain ⟨h68, e68, hs⟩ := cN_at hs
    refine ev_callVN C (T_X2_spreadWorld _ _ _ _ _ _ _ e68) (ci := 2) rfl eo68 wc_X2_spreadWorld wn_X7_133 wi_X2_spreadWorld ws_X2_spreadWorld wz_X2 hy_X2_spreadWorld ⟨(Nat.le_of_ble_eq_true rfl), (Nat.le_of_ble_eq_true rfl)⟩ ⟨(Nat.le_refl _), (Nat.le_refl _)⟩ (Nat.le_of_ble_eq_true rfl) rfl dX7_staysByWider_68 ?_
    refine ev_aload_n C (x := .ref l0) rfl trivial dX7_staysByWider_71 ?_
    obtain ⟨x72, e72, hs⟩ := aB hs
    refine ev_get C (ci := 7) (k := 0) rfl wu_7 (by decide) wf_X7_36 (gO_F e72) dX7_staysByWider_72 ?_
    refine ev_iload_n C rfl dX7_staysByWider_75 ?_
    refine ev_aload_n C (x := .ref l0) rfl trivial dX7_staysByWider_76 ?_
    obtain ⟨x77, e77, hs⟩ := aB hs
    refine ev_get C (ci := 7) (k := 3) rfl wu_7 (by decide) wf_X7_9 (gO_F e77) dX7_staysByWider_77 ?_
    obtain ⟨eo80, hs⟩ := kO_at hs
    obtain ⟨x80, h80, e80, hs⟩ := cI_at hs
    refine ev_callVN C (T_X2_isEdge _ _ _ _ _ _ e80) (ci := 2) rfl eo80 wc_X2_isEdge wn_X7_137 wi_X2_isEdge ws_X2_isEdge wz_X2 hy_X2_isEdge ⟨(Nat.le_of_ble_eq_true rfl), (Nat.le_of_ble_eq_true rfl)⟩ ⟨(Nat.le_refl _), (Nat.le_refl _)⟩ (Nat.le_of_ble_eq_true rfl) rfl dX7_staysByWider_80 ?_
    refine ev_if_eq C (tgt := 140) (by decide) dX7_staysByWider_83 (fun q83 => ?_) (fun q83 => ?_)
    · replace hs := (if_pos q83).symm.trans hs
      refine ev_iinc C (i := 5) (n := 1) (x := l5) (v := l5 + 1) rfl (congrArg (fun z => l5 + z) (show Int32.ofInt 1 = 1 by decide)) (by decide) dX7_staysByWider_140 ?_
      refine ev_goto C (tgt := 50) (by decide) dX7_staysByWider_143 ?_
      exact (K50 _ _ _ _ _ _ _ hs)
    · replace hs := (if_neg q83).symm.trans hs
      refine ev_aload_n C (x := .ref l0) rfl trivial dX7_staysByWider_86 ?_
      obtain ⟨x87, e87, hs⟩ := aB hs
      refine ev_get C (ci := 7) (k := 0) rfl wu_7 (by decide) wf_X7_36 (gO_F e87) dX7_staysByWider_87 ?_
      refine ev_aload_n C (x := .ref l0) rfl trivial dX7_staysByWider_90 ?_
      obtain ⟨x91, e91, hs⟩ := aB hs
      refine ev_get C (ci := 7) (k := 3) rfl wu_7 (by decide) wf_X7_9 (gO_F e91) dX7_staysByWider_91 ?_
      obtain ⟨eo94, hs⟩ := kO_at hs
      obtain ⟨x94, h94, e94, hs⟩ := cI_at hs
      refine ev_callVN C (T_X2_lead _ _ _ _ _ e94) (ci := 2) rfl eo94 wc_X2_lead wn_X7_141 wi_X2_lead ws_X2_lead wz_X2 hy_X2_lead ⟨(Nat.le_of_ble_eq_true rfl), (Nat.le_of_ble_eq_true rfl)⟩ ⟨(Nat.le_refl _), (Nat.le_refl _)⟩ (Nat.le_of_ble_eq_true rfl) rfl dX7_staysByWider_94 ?_
      refine ev_istore C (by decide) dX7_staysByWider_97 ?_
      refine ev_iload C rfl dX7_staysByWider_99 ?_
      refine ev_if_lt C (tgt := 114) (by decide) dX7_staysByWider_101 (fun q101 => ?_) (fun q101 => ?_)
      · replace hs := (if_pos q101).symm.trans hs
        refine ev_iconst C (v := 0) dX7_staysByWider_114 (by decide) ?_
        obtain ⟨hz, rfl, rfl⟩ := rtZ_at hs
        exact ev_zret C rfl hz rfl (Nat.le_refl _) (Nat.le_refl _) rfl dX7_staysByWider_115
      · replace hs := (if_neg q101).symm.trans hs
        refine ev_aload_n C (x := .ref l0) rfl trivial dX7_staysByWider_104 ?_
        obtain ⟨x105, e105, hs⟩ := aB hs
        refine ev_get C (ci := 7) (k := 10) rfl wu_7 (by decide) wf_X7_24 (gO_F e105) dX7_staysByWider_105 ?_
        refine ev_iload C rfl dX7_staysByWider_108 ?_
        obtain ⟨x110, e110, hs⟩ := aB hs
        refine ev_iald C e110 dX7_staysByWider_110 ?_
        refine ev_if_ne C (tgt := 116) (by decide) dX7_staysByWider_111 (fun q111 => ?_) (fun q111 => ?_)
        · replace hs := (if_neg q111).symm.trans hs
          refine ev_aload_n C (x := .ref l0) rfl trivial dX7_staysByWider_116 ?_
          obtain ⟨x117, e117, hs⟩ := aB hs
          refine ev_get C (ci := 7) (k := 1) rfl wu_7 (by decide) wf_X7_40 (gO_F e117) dX7_staysByWider_117 ?_
          refine ev_aload_n C (x := .ref l0) rfl trivial dX7_staysByWider_120 ?_
          obtain ⟨x121, e121, hs⟩ := aB hs
          refine ev_get C (ci := 7) (k := 11) rfl wu_7 (by decide) wf_X7_27 (gO_F e121) dX7_staysByWider_121 ?_
          refine ev_iload_n C rfl dX7_staysByWider_124 ?_
          refine ev_aload_n C (x := .ref l0) rfl trivial dX7_staysByWider_125 ?_
          obtain ⟨x126, e126, hs⟩ := aB hs
          refine ev_get C (ci := 7) (k := 0) rfl wu_7 (by decide) wf_X7_36 (gO_F e126) dX7_staysByWider_126 ?_
          obtain ⟨x129, e129, hs⟩ := aB hs
          refine ev_getN C (ci := 2) (k := 13) rfl wu_2 (by decide) wg_X7_73 (gI_F e129) dX7_staysByWider_129 ?_
          refine ev_imul C dX7_staysByWider_132 ?_
          refine ev_iload_n C rfl dX7_staysByWider_133 ?_
          refine ev_iadd C dX7_staysByWider_134 ?_
          refine ev_iload C rfl dX7_staysByWider_135 ?_
          obtain ⟨eo137, hs⟩ := kO_at hs
          obtain ⟨h137, e137, hs⟩ := cN_at hs
          refine ev_callVN C (T_X3_mark _ _ _ _ _ _ _ e137) (ci := 3) rfl eo137 wc_X3_mark wn_X7_145 wi_X3_mark ws_X3_mark wz_X3 hy_X3_mark ⟨(Nat.le_of_ble_eq_true rfl), (Nat.le_of_ble_eq_true rfl)⟩ ⟨(Nat.le_refl _), (Nat.le_refl _)⟩ (Nat.le_of_ble_eq_true rfl) rfl dX7_staysByWider_137 ?_
          refine ev_iinc C (i := 5) (n := 1) (x := l5) (v := l5 + 1) rfl (congrArg (fun z => l5 + z) (show Int32.ofInt 1 = 1 by decide)) (by decide) dX7_staysByWider_140 ?_
          refine ev_goto C (tgt := 50) (by decide) dX7_staysByWider_143 ?_
          exact Ev.keep [true, true, true, true, true, true, false] (K50 _ _ _ _ _ _ _ hs)
        · replace hs := (if_pos q111).symm.trans hs
          refine ev_iconst C (v := 0) dX7_staysByWider_114 (by decide) ?_
          obtain ⟨hz, rfl, rfl⟩ := rtZ_at hs
          exact ev_zret C rfl hz rfl (Nat.le_refl _) (Nat.le_refl _) rfl dX7_staysByWider_115
theorem t_X7_staysByWider_50 (C : Cx p l s m args meth c B0 X RX7 "staysByWider" cX7_staysByWider 7 (some .boolean) [])   : ∀ (n : Nat) {l0 : Nat} {l1 : Int32} {l2 : Int32} {l3 : Int32} {l4 : Int32} {l5 : Int32} {h : aH} (hs : s_X7_staysByWider_50  n l0 l1 l2 l3 l4 l5 h = some (r, h')), Ev p l e { frames := 4, cells := mc, slots := ms, locals := 102 } s m args below meth c D B0 X ws0 r h' mc ms 7 mc ms 50 [some (.ref l0), some (.int l1), some (.int l2), some (.int l3), some (.int l4), some (.int l5), none] [] h
  | 0, _, _, _, _, _, _, _, hs => nomatch hs
  | n + 1, _, _, _, _, _, _, _, hs => t_X7_staysByWider_50_b C  (k50 := s_X7_staysByWider_50  n) (fun _ _ _ _ _ _ _ hs => t_X7_staysByWider_50 C  n hs) hs
theorem hy_X7_staysByWider : yX7_staysByWider.cls ≠ "java/lang/invoke/MethodHandle" ∧ yX7_staysByWider.cls ≠ "java/lang/invoke/VarHandle" ∧ (parseMethodDescriptor yX7_staysByWider.desc).map (fun d => d.parameters.length) = some 3 := by decide +kernel
theorem T_X7_staysByWider (o : Nat) (a1 : Int32) (a2 : Int32) (a3 : Int32) (h : aH) (r : aR) (h' : aH) (hs : s_X7_staysByWider o a1 a2 a3 h = some (r, h')) : Mt yX7_staysByWider (Cond.code yX7_staysByWider cX7_staysByWider 7 (some .boolean) :: aTB) 4 102 0 0 [.ref o, .int a1, .int a2, .int a3] h r h' := by
  unfold s_X7_staysByWider at hs
  refine Mt_of (k := 3) (by decide) rfl (fun p l e s m args below meth c D B0 X ws0 C => ?_)
  show Ev p l e { frames := 4, cells := 0, slots := 0, locals := 102 } s m args below meth c D B0 X ws0 r h' 0 0 7 0 0 0 [some (.ref o), some (.int a1), some (.int a2), some (.int a3), none, none, none] [] h
  refine ev_aload_n C (x := .ref o) rfl trivial dX7_staysByWider_0 ?_
  obtain ⟨x1, e1, hs⟩ := aB hs
  refine ev_get C (ci := 7) (k := 0) rfl wu_7 (by decide) wf_X7_36 (gO_F e1) dX7_staysByWider_1 ?_
  refine ev_iconst C (v := 2) dX7_staysByWider_4 (by decide) ?_
  refine ev_iload_n C rfl dX7_staysByWider_5 ?_
  obtain ⟨eo6, hs⟩ := kO_at hs
  obtain ⟨x6, h6, e6, hs⟩ := cI_at hs
  refine ev_callVN C (T_X2_parts _ _ _ _ _ _ e6) (ci := 2) rfl eo6 wc_X2_parts wn_X7_122 wi_X2_parts ws_X2_parts wz_X2 hy_X2_parts ⟨(Nat.le_of_ble_eq_true rfl), (Nat.le_of_ble_eq_true rfl)⟩ ⟨(Nat.le_refl _), (Nat.le_refl _)⟩ (Nat.le_of_ble_eq_true rfl) rfl dX7_staysByWider_6 ?_
  refine ev_aload_n C (x := .ref o) rfl trivial dX7_staysByWider_9 ?_
  obtain ⟨x10, e10, hs⟩ := aB hs
  refine ev_get C (ci := 7) (k := 0) rfl wu_7 (by decide) wf_X7_36 (gO_F e10) dX7_staysByWider_10 ?_
  obtain ⟨x13, e13, hs⟩ := aB hs
  refine ev_getN C (ci := 2) (k := 15) rfl wu_2 (by decide) wg_X7_126 (gI_F e13) dX7_staysByWider_13 ?_
  refine ev_imul C dX7_staysByWider_16 ?_
  refine ev_istore C (by decide) dX7_staysByWider_17 ?_
  refine ev_aload_n C (x := .ref o) rfl trivial dX7_staysByWider_19 ?_
  obtain ⟨x20, e20, hs⟩ := aB hs
  refine ev_get C (ci := 7) (k := 0) rfl wu_7 (by decide) wf_X7_36 (gO_F e20) dX7_staysByWider_20 ?_
  refine ev_iconst C (v := 0) dX7_staysByWider_23 (by decide) ?_
  refine ev_iload_n C rfl dX7_staysByWider_24 ?_
  refine ev_iconst C (v := 0) dX7_staysByWider_25 (by decide) ?_
  refine ev_aload_n C (x := .ref o) rfl trivial dX7_staysByWider_26 ?_
  obtain ⟨x27, e27, hs⟩ := aB hs
  refine ev_get C (ci := 7) (k := 3) rfl wu_7 (by decide) wf_X7_9 (gO_F e27) dX7_staysByWider_27 ?_
  obtain ⟨eo30, hs⟩ := kO_at hs
  obtain ⟨h30, e30, hs⟩ := cN_at hs
  refine ev_callVN C (T_X2_spread _ _ _ _ _ _ _ _ e30) (ci := 2) rfl eo30 wc_X2_spread wn_X7_129 wi_X2_spread ws_X2_spread wz_X2 hy_X2_spread ⟨(Nat.le_of_ble_eq_true rfl), (Nat.le_of_ble_eq_true rfl)⟩ ⟨(Nat.le_refl _), (Nat.le_refl _)⟩ (Nat.le_of_ble_eq_true rfl) rfl dX7_staysByWider_30 ?_
  refine ev_aload_n C (x := .ref o) rfl trivial dX7_staysByWider_33 ?_
  obtain ⟨x34, e34, hs⟩ := aB hs
  refine ev_get C (ci := 7) (k := 0) rfl wu_7 (by decide) wf_X7_36 (gO_F e34) dX7_staysByWider_34 ?_
  refine ev_iconst C (v := 1) dX7_staysByWider_37 (by decide) ?_
  refine ev_iload_n C rfl dX7_staysByWider_38 ?_
  refine ev_iconst C (v := 0) dX7_staysByWider_39 (by decide) ?_
  refine ev_aload_n C (x := .ref o) rfl trivial dX7_staysByWider_40 ?_
  obtain ⟨x41, e41, hs⟩ := aB hs
  refine ev_get C (ci := 7) (k := 3) rfl wu_7 (by decide) wf_X7_9 (gO_F e41) dX7_staysByWider_41 ?_
  obtain ⟨eo44, hs⟩ := kO_at hs
  obtain ⟨h44, e44, hs⟩ := cN_at hs
  refine ev_callVN C (T_X2_spread _ _ _ _ _ _ _ _ e44) (ci := 2) rfl eo44 wc_X2_spread wn_X7_129 wi_X2_spread ws_X2_spread wz_X2 hy_X2_spread ⟨(Nat.le_of_ble_eq_true rfl), (Nat.le_of_ble_eq_true rfl)⟩ ⟨(Nat.le_refl _), (Nat.le_refl _)⟩ (Nat.le_of_ble_eq_true rfl) rfl dX7_staysByWider_44 ?_
  refine ev_iconst C (v := 0) dX7_staysByWider_47 (by decide) ?_
  refine ev_istore C (by decide) dX7_staysByWider_48 ?_
  exact (t_X7_staysByWider_50 C  FU hs)
end
