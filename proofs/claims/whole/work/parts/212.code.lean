-- X14_pays
theorem dX14_pays_0 : decode cX14_pays 0 = .ok (.iconst 0, 1) := by decide +kernel
theorem dX14_pays_1 : decode cX14_pays 1 = .ok (.istore_n 1, 1) := by decide +kernel
theorem dX14_pays_2 : decode cX14_pays 2 = .ok (.iload_n 1, 1) := by decide +kernel
theorem dX14_pays_3 : decode cX14_pays 3 = .ok (.bipush 20, 2) := by decide +kernel
theorem dX14_pays_5 : decode cX14_pays 5 = .ok (.if_icmp .gt 167, 3) := by decide +kernel
theorem dX14_pays_8 : decode cX14_pays 8 = .ok (.iconst 0, 1) := by decide +kernel
theorem dX14_pays_9 : decode cX14_pays 9 = .ok (.istore_n 2, 1) := by decide +kernel
theorem dX14_pays_10 : decode cX14_pays 10 = .ok (.iload_n 2, 1) := by decide +kernel
theorem dX14_pays_11 : decode cX14_pays 11 = .ok (.aload_n 0, 1) := by decide +kernel
theorem dX14_pays_12 : decode cX14_pays 12 = .ok (.getfield 379, 3) := by decide +kernel
theorem dX14_pays_15 : decode cX14_pays 15 = .ok (.if_icmp .ge 151, 3) := by decide +kernel
theorem dX14_pays_18 : decode cX14_pays 18 = .ok (.sipush 400, 3) := by decide +kernel
theorem dX14_pays_21 : decode cX14_pays 21 = .ok (.iload_n 1, 1) := by decide +kernel
theorem dX14_pays_22 : decode cX14_pays 22 = .ok (.imul, 1) := by decide +kernel
theorem dX14_pays_23 : decode cX14_pays 23 = .ok (.iload_n 2, 1) := by decide +kernel
theorem dX14_pays_24 : decode cX14_pays 24 = .ok (.iadd, 1) := by decide +kernel
theorem dX14_pays_25 : decode cX14_pays 25 = .ok (.istore_n 3, 1) := by decide +kernel
theorem dX14_pays_26 : decode cX14_pays 26 = .ok (.aload_n 0, 1) := by decide +kernel
theorem dX14_pays_27 : decode cX14_pays 27 = .ok (.getfield 81, 3) := by decide +kernel
theorem dX14_pays_30 : decode cX14_pays 30 = .ok (.iload_n 3, 1) := by decide +kernel
theorem dX14_pays_31 : decode cX14_pays 31 = .ok (.aload_n 0, 1) := by decide +kernel
theorem dX14_pays_32 : decode cX14_pays 32 = .ok (.getfield 37, 3) := by decide +kernel
theorem dX14_pays_35 : decode cX14_pays 35 = .ok (.iload_n 2, 1) := by decide +kernel
theorem dX14_pays_36 : decode cX14_pays 36 = .ok (.baload, 1) := by decide +kernel
theorem dX14_pays_37 : decode cX14_pays 37 = .ok (.ifCond .eq 7, 3) := by decide +kernel
theorem dX14_pays_40 : decode cX14_pays 40 = .ok (.iconst 0, 1) := by decide +kernel
theorem dX14_pays_41 : decode cX14_pays 41 = .ok (.goto 6, 3) := by decide +kernel
theorem dX14_pays_44 : decode cX14_pays 44 = .ok (.ldc_w 518, 3) := by decide +kernel
theorem dX14_pays_47 : decode cX14_pays 47 = .ok (.iastore, 1) := by decide +kernel
theorem dX14_pays_48 : decode cX14_pays 48 = .ok (.aload_n 0, 1) := by decide +kernel
theorem dX14_pays_49 : decode cX14_pays 49 = .ok (.getfield 84, 3) := by decide +kernel
theorem dX14_pays_52 : decode cX14_pays 52 = .ok (.iload_n 3, 1) := by decide +kernel
theorem dX14_pays_53 : decode cX14_pays 53 = .ok (.aload_n 0, 1) := by decide +kernel
theorem dX14_pays_54 : decode cX14_pays 54 = .ok (.getfield 37, 3) := by decide +kernel
theorem dX14_pays_57 : decode cX14_pays 57 = .ok (.iload_n 2, 1) := by decide +kernel
theorem dX14_pays_58 : decode cX14_pays 58 = .ok (.baload, 1) := by decide +kernel
theorem dX14_pays_59 : decode cX14_pays 59 = .ok (.ifCond .eq 11, 3) := by decide +kernel
theorem dX14_pays_62 : decode cX14_pays 62 = .ok (.iload_n 1, 1) := by decide +kernel
theorem dX14_pays_63 : decode cX14_pays 63 = .ok (.ifCond .le 7, 3) := by decide +kernel
theorem dX14_pays_66 : decode cX14_pays 66 = .ok (.iconst 0, 1) := by decide +kernel
theorem dX14_pays_67 : decode cX14_pays 67 = .ok (.goto 5, 3) := by decide +kernel
theorem dX14_pays_70 : decode cX14_pays 70 = .ok (.bipush (-2), 2) := by decide +kernel
theorem dX14_pays_72 : decode cX14_pays 72 = .ok (.iastore, 1) := by decide +kernel
theorem dX14_pays_73 : decode cX14_pays 73 = .ok (.aload_n 0, 1) := by decide +kernel
theorem dX14_pays_74 : decode cX14_pays 74 = .ok (.getfield 37, 3) := by decide +kernel
theorem dX14_pays_77 : decode cX14_pays 77 = .ok (.iload_n 2, 1) := by decide +kernel
theorem dX14_pays_78 : decode cX14_pays 78 = .ok (.baload, 1) := by decide +kernel
theorem dX14_pays_79 : decode cX14_pays 79 = .ok (.ifCond .eq 81, 3) := by decide +kernel
theorem dX14_pays_82 : decode cX14_pays 82 = .ok (.iload_n 1, 1) := by decide +kernel
theorem dX14_pays_83 : decode cX14_pays 83 = .ok (.ifCond .ne 6, 3) := by decide +kernel
theorem dX14_pays_86 : decode cX14_pays 86 = .ok (.goto 74, 3) := by decide +kernel
theorem dX14_pays_89 : decode cX14_pays 89 = .ok (.aload_n 0, 1) := by decide +kernel
theorem dX14_pays_90 : decode cX14_pays 90 = .ok (.getfield 81, 3) := by decide +kernel
theorem dX14_pays_93 : decode cX14_pays 93 = .ok (.iload_n 3, 1) := by decide +kernel
theorem dX14_pays_94 : decode cX14_pays 94 = .ok (.aload_n 0, 1) := by decide +kernel
theorem dX14_pays_95 : decode cX14_pays 95 = .ok (.iload_n 2, 1) := by decide +kernel
theorem dX14_pays_96 : decode cX14_pays 96 = .ok (.iconst 0, 1) := by decide +kernel
theorem dX14_pays_97 : decode cX14_pays 97 = .ok (.iload_n 1, 1) := by decide +kernel
theorem dX14_pays_98 : decode cX14_pays 98 = .ok (.invokevirtual 522, 3) := by decide +kernel
theorem dX14_pays_101 : decode cX14_pays 101 = .ok (.iastore, 1) := by decide +kernel
theorem dX14_pays_102 : decode cX14_pays 102 = .ok (.iconst 1, 1) := by decide +kernel
theorem dX14_pays_103 : decode cX14_pays 103 = .ok (.istore 4, 2) := by decide +kernel
theorem dX14_pays_105 : decode cX14_pays 105 = .ok (.iload 4, 2) := by decide +kernel
theorem dX14_pays_107 : decode cX14_pays 107 = .ok (.aload_n 0, 1) := by decide +kernel
theorem dX14_pays_108 : decode cX14_pays 108 = .ok (.getfield 382, 3) := by decide +kernel
theorem dX14_pays_111 : decode cX14_pays 111 = .ok (.if_icmp .ge 49, 3) := by decide +kernel
theorem dX14_pays_114 : decode cX14_pays 114 = .ok (.aload_n 0, 1) := by decide +kernel
theorem dX14_pays_115 : decode cX14_pays 115 = .ok (.iload_n 2, 1) := by decide +kernel
theorem dX14_pays_116 : decode cX14_pays 116 = .ok (.iload 4, 2) := by decide +kernel
theorem dX14_pays_118 : decode cX14_pays 118 = .ok (.iload_n 1, 1) := by decide +kernel
theorem dX14_pays_119 : decode cX14_pays 119 = .ok (.invokevirtual 522, 3) := by decide +kernel
theorem dX14_pays_122 : decode cX14_pays 122 = .ok (.istore 5, 2) := by decide +kernel
theorem dX14_pays_124 : decode cX14_pays 124 = .ok (.iload 5, 2) := by decide +kernel
theorem dX14_pays_126 : decode cX14_pays 126 = .ok (.aload_n 0, 1) := by decide +kernel
theorem dX14_pays_127 : decode cX14_pays 127 = .ok (.getfield 81, 3) := by decide +kernel
theorem dX14_pays_130 : decode cX14_pays 130 = .ok (.iload_n 3, 1) := by decide +kernel
theorem dX14_pays_131 : decode cX14_pays 131 = .ok (.iaload, 1) := by decide +kernel
theorem dX14_pays_132 : decode cX14_pays 132 = .ok (.if_icmp .lt 6, 3) := by decide +kernel
theorem dX14_pays_135 : decode cX14_pays 135 = .ok (.goto 19, 3) := by decide +kernel
theorem dX14_pays_138 : decode cX14_pays 138 = .ok (.aload_n 0, 1) := by decide +kernel
theorem dX14_pays_139 : decode cX14_pays 139 = .ok (.getfield 81, 3) := by decide +kernel
theorem dX14_pays_142 : decode cX14_pays 142 = .ok (.iload_n 3, 1) := by decide +kernel
theorem dX14_pays_143 : decode cX14_pays 143 = .ok (.iload 5, 2) := by decide +kernel
theorem dX14_pays_145 : decode cX14_pays 145 = .ok (.iastore, 1) := by decide +kernel
theorem dX14_pays_146 : decode cX14_pays 146 = .ok (.aload_n 0, 1) := by decide +kernel
theorem dX14_pays_147 : decode cX14_pays 147 = .ok (.getfield 84, 3) := by decide +kernel
theorem dX14_pays_150 : decode cX14_pays 150 = .ok (.iload_n 3, 1) := by decide +kernel
theorem dX14_pays_151 : decode cX14_pays 151 = .ok (.iload 4, 2) := by decide +kernel
theorem dX14_pays_153 : decode cX14_pays 153 = .ok (.iastore, 1) := by decide +kernel
theorem dX14_pays_154 : decode cX14_pays 154 = .ok (.iinc 4 1, 3) := by decide +kernel
theorem dX14_pays_157 : decode cX14_pays 157 = .ok (.goto (-52), 3) := by decide +kernel
theorem dX14_pays_160 : decode cX14_pays 160 = .ok (.iinc 2 1, 3) := by decide +kernel
theorem dX14_pays_163 : decode cX14_pays 163 = .ok (.goto (-153), 3) := by decide +kernel
theorem dX14_pays_166 : decode cX14_pays 166 = .ok (.iinc 1 1, 3) := by decide +kernel
theorem dX14_pays_169 : decode cX14_pays 169 = .ok (.goto (-167), 3) := by decide +kernel
theorem dX14_pays_172 : decode cX14_pays 172 = .ok (.return_, 1) := by decide +kernel
def s_X14_pays_105_b (k2 : Nat → Int32 → aH → aO) (k10 : Nat → Int32 → Int32 → aH → aO) (k105 : Nat → Int32 → Int32 → Int32 → Int32 → aH → aO) (l0 : Nat) (l1 : Int32) (l2 : Int32) (l3 : Int32) (l4 : Int32) (h : aH) : aO :=
  (gI h (.ref l0) 14 21).bind fun x108 => if x108 ≤ l4 then (k10 l0 l1 (l2 + 1) h) else (kO h l0 14 (cI (s_X14_paidBy l0 l2 l4 l1 h) fun x119 h119 => (gO h119 (.ref l0) 14 41).bind fun x127 => (ldI .int h119 (.ref x127) l3).bind fun x131 => if x119 < x131 then ((gO h119 (.ref l0) 14 41).bind fun x139 => (stI h119 (.ref x139) l3 x119).bind fun h145 => (gO h145 (.ref l0) 14 42).bind fun x147 => (stI h145 (.ref x147) l3 l4).bind fun h153 => k105 l0 l1 l2 l3 (l4 + 1) h153) else (k105 l0 l1 l2 l3 (l4 + 1) h119)))
def s_X14_pays_105 (k2 : Nat → Int32 → aH → aO) (k10 : Nat → Int32 → Int32 → aH → aO) (n : Nat) : Nat → Int32 → Int32 → Int32 → Int32 → aH → aO := lpF (fun _ _ _ _ _ _ => none) (s_X14_pays_105_b k2 k10) n
def s_X14_pays_72 (k2 : Nat → Int32 → aH → aO) (k10 : Nat → Int32 → Int32 → aH → aO) (l0 : Nat) (l1 : Int32) (l2 : Int32) (l3 : Int32) (s0 : Int32) (s1 : Int32) (s2 : Nat) (h : aH) : aO :=
  (stI h (.ref s2) s1 s0).bind fun h72 => (gO h72 (.ref l0) 14 27).bind fun x74 => (ldI .boolean h72 (.ref x74) l2).bind fun x78 => if x78 = 0 then (k10 l0 l1 (l2 + 1) h72) else (if l1 = 0 then (k10 l0 l1 (l2 + 1) h72) else ((gO h72 (.ref l0) 14 41).bind fun x90 => kO h72 l0 14 (cI (s_X14_paidBy l0 l2 0 l1 h72) fun x98 h98 => (stI h98 (.ref x90) l3 x98).bind fun h101 => s_X14_pays_105 k2 k10 FU l0 l1 l2 l3 1 h101)))
def s_X14_pays_70 (k2 : Nat → Int32 → aH → aO) (k10 : Nat → Int32 → Int32 → aH → aO) (l0 : Nat) (l1 : Int32) (l2 : Int32) (l3 : Int32) (s0 : Int32) (s1 : Nat) (h : aH) : aO :=
  s_X14_pays_72 k2 k10 l0 l1 l2 l3 (-2) s0 s1 h
def s_X14_pays_47 (k2 : Nat → Int32 → aH → aO) (k10 : Nat → Int32 → Int32 → aH → aO) (l0 : Nat) (l1 : Int32) (l2 : Int32) (l3 : Int32) (s0 : Int32) (s1 : Int32) (s2 : Nat) (h : aH) : aO :=
  (stI h (.ref s2) s1 s0).bind fun h47 => (gO h47 (.ref l0) 14 42).bind fun x49 => (gO h47 (.ref l0) 14 27).bind fun x54 => (ldI .boolean h47 (.ref x54) l2).bind fun x58 => if x58 = 0 then (s_X14_pays_70 k2 k10 l0 l1 l2 l3 l3 x49 h47) else (if l1 ≤ 0 then (s_X14_pays_70 k2 k10 l0 l1 l2 l3 l3 x49 h47) else (s_X14_pays_72 k2 k10 l0 l1 l2 l3 0 l3 x49 h47))
def s_X14_pays_10_b (k2 : Nat → Int32 → aH → aO) (k10 : Nat → Int32 → Int32 → aH → aO) (l0 : Nat) (l1 : Int32) (l2 : Int32) (h : aH) : aO :=
  (gI h (.ref l0) 14 20).bind fun x12 => if x12 ≤ l2 then (k2 l0 (l1 + 1) h) else ((gO h (.ref l0) 14 41).bind fun x27 => (gO h (.ref l0) 14 27).bind fun x32 => (ldI .boolean h (.ref x32) l2).bind fun x36 => if x36 = 0 then (s_X14_pays_47 k2 k10 l0 l1 l2 ((400 * l1) + l2) 1000000 ((400 * l1) + l2) x27 h) else (s_X14_pays_47 k2 k10 l0 l1 l2 ((400 * l1) + l2) 0 ((400 * l1) + l2) x27 h))
def s_X14_pays_10 (k2 : Nat → Int32 → aH → aO) (n : Nat) : Nat → Int32 → Int32 → aH → aO := lpF (fun _ _ _ _ => none) (s_X14_pays_10_b k2) n
def s_X14_pays_2_b  (k2 : Nat → Int32 → aH → aO) (l0 : Nat) (l1 : Int32) (h : aH) : aO :=
  if 20 < l1 then (some (.inl none, h)) else (s_X14_pays_10 k2 FU l0 l1 0 h)
def s_X14_pays_2  (n : Nat) : Nat → Int32 → aH → aO := lpF (fun _ _ _ => none) (s_X14_pays_2_b ) n
def s_X14_pays (o : Nat) (h : aH) : aO :=
  s_X14_pays_2 FU o 0 h
section
variable {p : Program} {l : Launch} {e : Env} {s : State} {m : MethodId} {args : Array Value} {below : List Frame} {meth : Method} {c : Code} {D : va_G} {B0 : Nat} {X : Nat → Nat} {ws0 : va_W} {r : aR} {h' : aH} {mc ms : Nat}
theorem t_X14_pays_105_b (C : Cx p l s m args meth c B0 X RX14 "pays" cX14_pays 6 none []) {k2 : Nat → Int32 → aH → aO} {k10 : Nat → Int32 → Int32 → aH → aO} (K2 : ∀ (l0 : Nat) (l1 : Int32) (h : aH), k2 l0 l1 h = some (r, h') → Ev p l e { frames := 5, cells := mc, slots := ms, locals := 122 } s m args below meth c D B0 X ws0 r h' mc ms 6 mc ms 2 [some (.ref l0), some (.int l1), none, none, none, none] [] h) (K10 : ∀ (l0 : Nat) (l1 : Int32) (l2 : Int32) (h : aH), k10 l0 l1 l2 h = some (r, h') → Ev p l e { frames := 5, cells := mc, slots := ms, locals := 122 } s m args below meth c D B0 X ws0 r h' mc ms 6 mc ms 10 [some (.ref l0), some (.int l1), some (.int l2), none, none, none] [] h) {k105 : Nat → Int32 → Int32 → Int32 → Int32 → aH → aO} (K105 : ∀ (l0 : Nat) (l1 : Int32) (l2 : Int32) (l3 : Int32) (l4 : Int32) (h : aH), k105 l0 l1 l2 l3 l4 h = some (r, h') → Ev p l e { frames := 5, cells := mc, slots := ms, locals := 122 } s m args below meth c D B0 X ws0 r h' mc ms 6 mc ms 105 [some (.ref l0), some (.int l1), some (.int l2), some (.int l3), some (.int l4), none] [] h) {l0 : Nat} {l1 : Int32} {l2 : Int32} {l3 : Int32} {l4 : Int32} {h : aH} (hs : s_X14_pays_105_b k2 k10 k105 l0 l1 l2 l3 l4 h = some (r, h')) : Ev p l e { frames := 5, cells := mc, slots := ms, locals := 122 } s m args below meth c D B0 X ws0 r h' mc ms 6 mc ms 105 [some (.ref l0), some (.int l1), some (.int l2), some (.int l3), some (.int l4), none] [] h := by
  unfold s_X14_pays_105_b at hs
  refine ev_iload C rfl dX14_pays_105 ?_
  refine ev_aload_n C (x := .ref l0) rfl trivial dX14_pays_107 ?_
  obtain ⟨x108, e108, hs⟩ := aB hs
  refine ev_get C (ci := 14) (k := 21) rfl wu_14 (by decide) wf_X14_382 (gI_F e108) dX14_pays_108 ?_
  refine ev_icmp_ge C (tgt := 160) (by decide) dX14_pays_111 (fun q111 => ?_) (fun q111 => ?_)
  · replace hs := (if_pos q111).symm.trans hs
    refine ev_iinc C (i := 2) (n := 1) (x := l2) (v := l2 + 1) rfl (congrArg (fun z => l2 + z) (show Int32.ofInt 1 = 1 by decide)) (by decide) dX14_pays_160 ?_
    refine ev_goto C (tgt := 10) (by decide) dX14_pays_163 ?_
    exact Ev.keep [true, true, true, false, false, true] (K10 _ _ _ _ hs)
  · replace hs := (if_neg q111).symm.trans hs
    refine ev_aload_n C (x := .ref l0) rfl trivial dX14_pays_114 ?_
    refine ev_iload_n C rfl dX14_pays_115 ?_
    refine ev_iload C rfl dX14_pays_116 ?_
    refine ev_iload_n C rfl dX14_pays_118 ?_
    obtain ⟨eo119, hs⟩ := kO_at hs
    obtain ⟨x119, h119, e119, hs⟩ := cI_at hs
    refine ev_callV C (T_X14_paidBy _ _ _ _ _ _ _ e119) (ci := 14) rfl eo119 wc_X14_paidBy wm_X14_522 wi_X14_paidBy ws_X14_paidBy wz_X14 hy_X14_paidBy ⟨(Nat.le_of_ble_eq_true rfl), (Nat.le_of_ble_eq_true rfl)⟩ ⟨(Nat.le_refl _), (Nat.le_refl _)⟩ (Nat.le_of_ble_eq_true rfl) rfl dX14_pays_119 ?_
    refine ev_istore C (by decide) dX14_pays_122 ?_
    refine ev_iload C rfl dX14_pays_124 ?_
    refine ev_aload_n C (x := .ref l0) rfl trivial dX14_pays_126 ?_
    obtain ⟨x127, e127, hs⟩ := aB hs
    refine ev_get C (ci := 14) (k := 41) rfl wu_14 (by decide) wf_X14_81 (gO_F e127) dX14_pays_127 ?_
    refine ev_iload_n C rfl dX14_pays_130 ?_
    obtain ⟨x131, e131, hs⟩ := aB hs
    refine ev_iald C e131 dX14_pays_131 ?_
    refine ev_icmp_lt C (tgt := 138) (by decide) dX14_pays_132 (fun q132 => ?_) (fun q132 => ?_)
    · replace hs := (if_pos q132).symm.trans hs
      refine ev_aload_n C (x := .ref l0) rfl trivial dX14_pays_138 ?_
      obtain ⟨x139, e139, hs⟩ := aB hs
      refine ev_get C (ci := 14) (k := 41) rfl wu_14 (by decide) wf_X14_81 (gO_F e139) dX14_pays_139 ?_
      refine ev_iload_n C rfl dX14_pays_142 ?_
      refine ev_iload C rfl dX14_pays_143 ?_
      obtain ⟨h145, e145, hs⟩ := aB hs
      refine ev_iast C e145 dX14_pays_145 ?_
      refine ev_aload_n C (x := .ref l0) rfl trivial dX14_pays_146 ?_
      obtain ⟨x147, e147, hs⟩ := aB hs
      refine ev_get C (ci := 14) (k := 42) rfl wu_14 (by decide) wf_X14_84 (gO_F e147) dX14_pays_147 ?_
      refine ev_iload_n C rfl dX14_pays_150 ?_
      refine ev_iload C rfl dX14_pays_151 ?_
      obtain ⟨h153, e153, hs⟩ := aB hs
      refine ev_iast C e153 dX14_pays_153 ?_
      refine ev_iinc C (i := 4) (n := 1) (x := l4) (v := l4 + 1) rfl (congrArg (fun z => l4 + z) (show Int32.ofInt 1 = 1 by decide)) (by decide) dX14_pays_154 ?_
      refine ev_goto C (tgt := 105) (by decide) dX14_pays_157 ?_
      exact Ev.keep [true, true, true, true, true, false] (K105 _ _ _ _ _ _ hs)
    · replace hs := (if_neg q132).symm.trans hs
      refine ev_goto C (tgt := 154) (by decide) dX14_pays_135 ?_
      refine ev_iinc C (i := 4) (n := 1) (x := l4) (v := l4 + 1) rfl (congrArg (fun z => l4 + z) (show Int32.ofInt 1 = 1 by decide)) (by decide) dX14_pays_154 ?_
      refine ev_goto C (tgt := 105) (by decide) dX14_pays_157 ?_
      exact Ev.keep [true, true, true, true, true, false] (K105 _ _ _ _ _ _ hs)
theorem t_X14_pays_105 (C : Cx p l s m args meth c B0 X RX14 "pays" cX14_pays 6 none []) {k2 : Nat → Int32 → aH → aO} {k10 : Nat → Int32 → Int32 → aH → aO} (K2 : ∀ (l0 : Nat) (l1 : Int32) (h : aH), k2 l0 l1 h = some (r, h') → Ev p l e { frames := 5, cells := mc, slots := ms, locals := 122 } s m args below meth c D B0 X ws0 r h' mc ms 6 mc ms 2 [some (.ref l0), some (.int l1), none, none, none, none] [] h) (K10 : ∀ (l0 : Nat) (l1 : Int32) (l2 : Int32) (h : aH), k10 l0 l1 l2 h = some (r, h') → Ev p l e { frames := 5, cells := mc, slots := ms, locals := 122 } s m args below meth c D B0 X ws0 r h' mc ms 6 mc ms 10 [some (.ref l0), some (.int l1), some (.int l2), none, none, none] [] h) : ∀ (n : Nat) {l0 : Nat} {l1 : Int32} {l2 : Int32} {l3 : Int32} {l4 : Int32} {h : aH} (hs : s_X14_pays_105 k2 k10 n l0 l1 l2 l3 l4 h = some (r, h')), Ev p l e { frames := 5, cells := mc, slots := ms, locals := 122 } s m args below meth c D B0 X ws0 r h' mc ms 6 mc ms 105 [some (.ref l0), some (.int l1), some (.int l2), some (.int l3), some (.int l4), none] [] h
  | 0, _, _, _, _, _, _, hs => nomatch hs
  | n + 1, _, _, _, _, _, _, hs => t_X14_pays_105_b C K2 K10 (k105 := s_X14_pays_105 k2 k10 n) (fun _ _ _ _ _ _ hs => t_X14_pays_105 C K2 K10 n hs) hs
theorem t_X14_pays_72 (C : Cx p l s m args meth c B0 X RX14 "pays" cX14_pays 6 none []) {k2 : Nat → Int32 → aH → aO} {k10 : Nat → Int32 → Int32 → aH → aO} (K2 : ∀ (l0 : Nat) (l1 : Int32) (h : aH), k2 l0 l1 h = some (r, h') → Ev p l e { frames := 5, cells := mc, slots := ms, locals := 122 } s m args below meth c D B0 X ws0 r h' mc ms 6 mc ms 2 [some (.ref l0), some (.int l1), none, none, none, none] [] h) (K10 : ∀ (l0 : Nat) (l1 : Int32) (l2 : Int32) (h : aH), k10 l0 l1 l2 h = some (r, h') → Ev p l e { frames := 5, cells := mc, slots := ms, locals := 122 } s m args below meth c D B0 X ws0 r h' mc ms 6 mc ms 10 [some (.ref l0), some (.int l1), some (.int l2), none, none, none] [] h) {l0 : Nat} {l1 : Int32} {l2 : Int32} {l3 : Int32} {s0 : Int32} {s1 : Int32} {s2 : Nat} {h : aH} (hs : s_X14_pays_72 k2 k10 l0 l1 l2 l3 s0 s1 s2 h = some (r, h')) : Ev p l e { frames := 5, cells := mc, slots := ms, locals := 122 } s m args below meth c D B0 X ws0 r h' mc ms 6 mc ms 72 [some (.ref l0), some (.int l1), some (.int l2), some (.int l3), none, none] [.int s0, .int s1, .ref s2] h := by
  unfold s_X14_pays_72 at hs
  obtain ⟨h72, e72, hs⟩ := aB hs
  refine ev_iast C e72 dX14_pays_72 ?_
  refine ev_aload_n C (x := .ref l0) rfl trivial dX14_pays_73 ?_
  obtain ⟨x74, e74, hs⟩ := aB hs
  refine ev_get C (ci := 14) (k := 27) rfl wu_14 (by decide) wf_X14_37 (gO_F e74) dX14_pays_74 ?_
  refine ev_iload_n C rfl dX14_pays_77 ?_
  obtain ⟨x78, e78, hs⟩ := aB hs
  refine ev_zald C e78 dX14_pays_78 ?_
  refine ev_if_eq C (tgt := 160) (by decide) dX14_pays_79 (fun q79 => ?_) (fun q79 => ?_)
  · replace hs := (if_pos q79).symm.trans hs
    refine ev_iinc C (i := 2) (n := 1) (x := l2) (v := l2 + 1) rfl (congrArg (fun z => l2 + z) (show Int32.ofInt 1 = 1 by decide)) (by decide) dX14_pays_160 ?_
    refine ev_goto C (tgt := 10) (by decide) dX14_pays_163 ?_
    exact Ev.keep [true, true, true, false, true, true] (K10 _ _ _ _ hs)
  · replace hs := (if_neg q79).symm.trans hs
    refine ev_iload_n C rfl dX14_pays_82 ?_
    refine ev_if_ne C (tgt := 89) (by decide) dX14_pays_83 (fun q83 => ?_) (fun q83 => ?_)
    · replace hs := (if_neg q83).symm.trans hs
      refine ev_aload_n C (x := .ref l0) rfl trivial dX14_pays_89 ?_
      obtain ⟨x90, e90, hs⟩ := aB hs
      refine ev_get C (ci := 14) (k := 41) rfl wu_14 (by decide) wf_X14_81 (gO_F e90) dX14_pays_90 ?_
      refine ev_iload_n C rfl dX14_pays_93 ?_
      refine ev_aload_n C (x := .ref l0) rfl trivial dX14_pays_94 ?_
      refine ev_iload_n C rfl dX14_pays_95 ?_
      refine ev_iconst C (v := 0) dX14_pays_96 (by decide) ?_
      refine ev_iload_n C rfl dX14_pays_97 ?_
      obtain ⟨eo98, hs⟩ := kO_at hs
      obtain ⟨x98, h98, e98, hs⟩ := cI_at hs
      refine ev_callV C (T_X14_paidBy _ _ _ _ _ _ _ e98) (ci := 14) rfl eo98 wc_X14_paidBy wm_X14_522 wi_X14_paidBy ws_X14_paidBy wz_X14 hy_X14_paidBy ⟨(Nat.le_of_ble_eq_true rfl), (Nat.le_of_ble_eq_true rfl)⟩ ⟨(Nat.le_refl _), (Nat.le_refl _)⟩ (Nat.le_of_ble_eq_true rfl) rfl dX14_pays_98 ?_
      obtain ⟨h101, e101, hs⟩ := aB hs
      refine ev_iast C e101 dX14_pays_101 ?_
      refine ev_iconst C (v := 1) dX14_pays_102 (by decide) ?_
      refine ev_istore C (by decide) dX14_pays_103 ?_
      exact (t_X14_pays_105 C K2 K10 FU hs)
    · replace hs := (if_pos q83).symm.trans hs
      refine ev_goto C (tgt := 160) (by decide) dX14_pays_86 ?_
      refine ev_iinc C (i := 2) (n := 1) (x := l2) (v := l2 + 1) rfl (congrArg (fun z => l2 + z) (show Int32.ofInt 1 = 1 by decide)) (by decide) dX14_pays_160 ?_
      refine ev_goto C (tgt := 10) (by decide) dX14_pays_163 ?_
      exact Ev.keep [true, true, true, false, true, true] (K10 _ _ _ _ hs)
theorem t_X14_pays_70 (C : Cx p l s m args meth c B0 X RX14 "pays" cX14_pays 6 none []) {k2 : Nat → Int32 → aH → aO} {k10 : Nat → Int32 → Int32 → aH → aO} (K2 : ∀ (l0 : Nat) (l1 : Int32) (h : aH), k2 l0 l1 h = some (r, h') → Ev p l e { frames := 5, cells := mc, slots := ms, locals := 122 } s m args below meth c D B0 X ws0 r h' mc ms 6 mc ms 2 [some (.ref l0), some (.int l1), none, none, none, none] [] h) (K10 : ∀ (l0 : Nat) (l1 : Int32) (l2 : Int32) (h : aH), k10 l0 l1 l2 h = some (r, h') → Ev p l e { frames := 5, cells := mc, slots := ms, locals := 122 } s m args below meth c D B0 X ws0 r h' mc ms 6 mc ms 10 [some (.ref l0), some (.int l1), some (.int l2), none, none, none] [] h) {l0 : Nat} {l1 : Int32} {l2 : Int32} {l3 : Int32} {s0 : Int32} {s1 : Nat} {h : aH} (hs : s_X14_pays_70 k2 k10 l0 l1 l2 l3 s0 s1 h = some (r, h')) : Ev p l e { frames := 5, cells := mc, slots := ms, locals := 122 } s m args below meth c D B0 X ws0 r h' mc ms 6 mc ms 70 [some (.ref l0), some (.int l1), some (.int l2), some (.int l3), none, none] [.int s0, .ref s1] h := by
  unfold s_X14_pays_70 at hs
  refine ev_bipush C (v := (-2)) dX14_pays_70 (by decide) ?_
  exact (t_X14_pays_72 C K2 K10 hs)
theorem t_X14_pays_47 (C : Cx p l s m args meth c B0 X RX14 "pays" cX14_pays 6 none []) {k2 : Nat → Int32 → aH → aO} {k10 : Nat → Int32 → Int32 → aH → aO} (K2 : ∀ (l0 : Nat) (l1 : Int32) (h : aH), k2 l0 l1 h = some (r, h') → Ev p l e { frames := 5, cells := mc, slots := ms, locals := 122 } s m args below meth c D B0 X ws0 r h' mc ms 6 mc ms 2 [some (.ref l0), some (.int l1), none, none, none, none] [] h) (K10 : ∀ (l0 : Nat) (l1 : Int32) (l2 : Int32) (h : aH), k10 l0 l1 l2 h = some (r, h') → Ev p l e { frames := 5, cells := mc, slots := ms, locals := 122 } s m args below meth c D B0 X ws0 r h' mc ms 6 mc ms 10 [some (.ref l0), some (.int l1), some (.int l2), none, none, none] [] h) {l0 : Nat} {l1 : Int32} {l2 : Int32} {l3 : Int32} {s0 : Int32} {s1 : Int32} {s2 : Nat} {h : aH} (hs : s_X14_pays_47 k2 k10 l0 l1 l2 l3 s0 s1 s2 h = some (r, h')) : Ev p l e { frames := 5, cells := mc, slots := ms, locals := 122 } s m args below meth c D B0 X ws0 r h' mc ms 6 mc ms 47 [some (.ref l0), some (.int l1), some (.int l2), some (.int l3), none, none] [.int s0, .int s1, .ref s2] h := by
  unfold s_X14_pays_47 at hs
  obtain ⟨h47, e47, hs⟩ := aB hs
  refine ev_iast C e47 dX14_pays_47 ?_
  refine ev_aload_n C (x := .ref l0) rfl trivial dX14_pays_48 ?_
  obtain ⟨x49, e49, hs⟩ := aB hs
  refine ev_get C (ci := 14) (k := 42) rfl wu_14 (by decide) wf_X14_84 (gO_F e49) dX14_pays_49 ?_
  refine ev_iload_n C rfl dX14_pays_52 ?_
  refine ev_aload_n C (x := .ref l0) rfl trivial dX14_pays_53 ?_
  obtain ⟨x54, e54, hs⟩ := aB hs
  refine ev_get C (ci := 14) (k := 27) rfl wu_14 (by decide) wf_X14_37 (gO_F e54) dX14_pays_54 ?_
  refine ev_iload_n C rfl dX14_pays_57 ?_
  obtain ⟨x58, e58, hs⟩ := aB hs
  refine ev_zald C e58 dX14_pays_58 ?_
  refine ev_if_eq C (tgt := 70) (by decide) dX14_pays_59 (fun q59 => ?_) (fun q59 => ?_)
  · replace hs := (if_pos q59).symm.trans hs
    exact (t_X14_pays_70 C K2 K10 hs)
  · replace hs := (if_neg q59).symm.trans hs
    refine ev_iload_n C rfl dX14_pays_62 ?_
    refine ev_if_le C (tgt := 70) (by decide) dX14_pays_63 (fun q63 => ?_) (fun q63 => ?_)
    · replace hs := (if_pos q63).symm.trans hs
      exact (t_X14_pays_70 C K2 K10 hs)
    · replace hs := (if_neg q63).symm.trans hs
      refine ev_iconst C (v := 0) dX14_pays_66 (by decide) ?_
      refine ev_goto C (tgt := 72) (by decide) dX14_pays_67 ?_
      exact (t_X14_pays_72 C K2 K10 hs)
theorem t_X14_pays_10_b (C : Cx p l s m args meth c B0 X RX14 "pays" cX14_pays 6 none []) {k2 : Nat → Int32 → aH → aO} (K2 : ∀ (l0 : Nat) (l1 : Int32) (h : aH), k2 l0 l1 h = some (r, h') → Ev p l e { frames := 5, cells := mc, slots := ms, locals := 122 } s m args below meth c D B0 X ws0 r h' mc ms 6 mc ms 2 [some (.ref l0), some (.int l1), none, none, none, none] [] h) {k10 : Nat → Int32 → Int32 → aH → aO} (K10 : ∀ (l0 : Nat) (l1 : Int32) (l2 : Int32) (h : aH), k10 l0 l1 l2 h = some (r, h') → Ev p l e { frames := 5, cells := mc, slots := ms, locals := 122 } s m args below meth c D B0 X ws0 r h' mc ms 6 mc ms 10 [some (.ref l0), some (.int l1), some (.int l2), none, none, none] [] h) {l0 : Nat} {l1 : Int32} {l2 : Int32} {h : aH} (hs : s_X14_pays_10_b k2 k10 l0 l1 l2 h = some (r, h')) : Ev p l e { frames := 5, cells := mc, slots := ms, locals := 122 } s m args below meth c D B0 X ws0 r h' mc ms 6 mc ms 10 [some (.ref l0), some (.int l1), some (.int l2), none, none, none] [] h := by
  unfold s_X14_pays_10_b at hs
  refine ev_iload_n C rfl dX14_pays_10 ?_
  refine ev_aload_n C (x := .ref l0) rfl trivial dX14_pays_11 ?_
  obtain ⟨x12, e12, hs⟩ := aB hs
  refine ev_get C (ci := 14) (k := 20) rfl wu_14 (by decide) wf_X14_379 (gI_F e12) dX14_pays_12 ?_
  refine ev_icmp_ge C (tgt := 166) (by decide) dX14_pays_15 (fun q15 => ?_) (fun q15 => ?_)
  · replace hs := (if_pos q15).symm.trans hs
    refine ev_iinc C (i := 1) (n := 1) (x := l1) (v := l1 + 1) rfl (congrArg (fun z => l1 + z) (show Int32.ofInt 1 = 1 by decide)) (by decide) dX14_pays_166 ?_
    refine ev_goto C (tgt := 2) (by decide) dX14_pays_169 ?_
    exact Ev.keep [true, true, false, true, true, true] (K2 _ _ _ hs)
  · replace hs := (if_neg q15).symm.trans hs
    refine ev_sipush C (v := 400) dX14_pays_18 (by decide) ?_
    refine ev_iload_n C rfl dX14_pays_21 ?_
    refine ev_imul C dX14_pays_22 ?_
    refine ev_iload_n C rfl dX14_pays_23 ?_
    refine ev_iadd C dX14_pays_24 ?_
    refine ev_istore_n C (by decide) dX14_pays_25 ?_
    refine ev_aload_n C (x := .ref l0) rfl trivial dX14_pays_26 ?_
    obtain ⟨x27, e27, hs⟩ := aB hs
    refine ev_get C (ci := 14) (k := 41) rfl wu_14 (by decide) wf_X14_81 (gO_F e27) dX14_pays_27 ?_
    refine ev_iload_n C rfl dX14_pays_30 ?_
    refine ev_aload_n C (x := .ref l0) rfl trivial dX14_pays_31 ?_
    obtain ⟨x32, e32, hs⟩ := aB hs
    refine ev_get C (ci := 14) (k := 27) rfl wu_14 (by decide) wf_X14_37 (gO_F e32) dX14_pays_32 ?_
    refine ev_iload_n C rfl dX14_pays_35 ?_
    obtain ⟨x36, e36, hs⟩ := aB hs
    refine ev_zald C e36 dX14_pays_36 ?_
    refine ev_if_eq C (tgt := 44) (by decide) dX14_pays_37 (fun q37 => ?_) (fun q37 => ?_)
    · replace hs := (if_pos q37).symm.trans hs
      refine ev_ldcw C wv_X14_518 dX14_pays_44 ?_
      exact (t_X14_pays_47 C K2 K10 hs)
    · replace hs := (if_neg q37).symm.trans hs
      refine ev_iconst C (v := 0) dX14_pays_40 (by decide) ?_
      refine ev_goto C (tgt := 47) (by decide) dX14_pays_41 ?_
      exact (t_X14_pays_47 C K2 K10 hs)
theorem t_X14_pays_10 (C : Cx p l s m args meth c B0 X RX14 "pays" cX14_pays 6 none []) {k2 : Nat → Int32 → aH → aO} (K2 : ∀ (l0 : Nat) (l1 : Int32) (h : aH), k2 l0 l1 h = some (r, h') → Ev p l e { frames := 5, cells := mc, slots := ms, locals := 122 } s m args below meth c D B0 X ws0 r h' mc ms 6 mc ms 2 [some (.ref l0), some (.int l1), none, none, none, none] [] h) : ∀ (n : Nat) {l0 : Nat} {l1 : Int32} {l2 : Int32} {h : aH} (hs : s_X14_pays_10 k2 n l0 l1 l2 h = some (r, h')), Ev p l e { frames := 5, cells := mc, slots := ms, locals := 122 } s m args below meth c D B0 X ws0 r h' mc ms 6 mc ms 10 [some (.ref l0), some (.int l1), some (.int l2), none, none, none] [] h
  | 0, _, _, _, _, hs => nomatch hs
  | n + 1, _, _, _, _, hs => t_X14_pays_10_b C K2 (k10 := s_X14_pays_10 k2 n) (fun _ _ _ _ hs => t_X14_pays_10 C K2 n hs) hs
theorem t_X14_pays_2_b (C : Cx p l s m args meth c B0 X RX14 "pays" cX14_pays 6 none [])   {k2 : Nat → Int32 → aH → aO} (K2 : ∀ (l0 : Nat) (l1 : Int32) (h : aH), k2 l0 l1 h = some (r, h') → Ev p l e { frames := 5, cells := mc, slots := ms, locals := 122 } s m args below meth c D B0 X ws0 r h' mc ms 6 mc ms 2 [some (.ref l0), some (.int l1), none, none, none, none] [] h) {l0 : Nat} {l1 : Int32} {h : aH} (hs : s_X14_pays_2_b  k2 l0 l1 h = some (r, h')) : Ev p l e { frames := 5, cells := mc, slots := ms, locals := 122 } s m args below meth c D B0 X ws0 r h' mc ms 6 mc ms 2 [some (.ref l0), some (.int l1), none, none, none, none] [] h := by
  unfold s_X14_pays_2_b at hs
  refine ev_iload_n C rfl dX14_pays_2 ?_
  refine ev_bipush C (v := 20) dX14_pays_3 (by decide) ?_
  refine ev_icmp_gt C (tgt := 172) (by decide) dX14_pays_5 (fun q5 => ?_) (fun q5 => ?_)
  · replace hs := (if_pos q5).symm.trans hs
    cases hs
    exact ev_vret C rfl rfl (Nat.le_refl _) (Nat.le_refl _) rfl dX14_pays_172
  · replace hs := (if_neg q5).symm.trans hs
    refine ev_iconst C (v := 0) dX14_pays_8 (by decide) ?_
    refine ev_istore_n C (by decide) dX14_pays_9 ?_
    exact (t_X14_pays_10 C K2 FU hs)
theorem t_X14_pays_2 (C : Cx p l s m args meth c B0 X RX14 "pays" cX14_pays 6 none [])   : ∀ (n : Nat) {l0 : Nat} {l1 : Int32} {h : aH} (hs : s_X14_pays_2  n l0 l1 h = some (r, h')), Ev p l e { frames := 5, cells := mc, slots := ms, locals := 122 } s m args below meth c D B0 X ws0 r h' mc ms 6 mc ms 2 [some (.ref l0), some (.int l1), none, none, none, none] [] h
  | 0, _, _, _, hs => nomatch hs
  | n + 1, _, _, _, hs => t_X14_pays_2_b C  (k2 := s_X14_pays_2  n) (fun _ _ _ hs => t_X14_pays_2 C  n hs) hs
theorem hy_X14_pays : yX14_pays.cls ≠ "java/lang/invoke/MethodHandle" ∧ yX14_pays.cls ≠ "java/lang/invoke/VarHandle" ∧ (parseMethodDescriptor yX14_pays.desc).map (fun d => d.parameters.length) = some 0 := by decide +kernel
theorem T_X14_pays (o : Nat) (h : aH) (r : aR) (h' : aH) (hs : s_X14_pays o h = some (r, h')) : Mt yX14_pays (Cond.code yX14_pays cX14_pays 6 none :: aTB) 5 122 0 0 [.ref o] h r h' := by
  unfold s_X14_pays at hs
  refine Mt_of (k := 5) (by decide) rfl (fun p l e s m args below meth c D B0 X ws0 C => ?_)
  show Ev p l e { frames := 5, cells := 0, slots := 0, locals := 122 } s m args below meth c D B0 X ws0 r h' 0 0 6 0 0 0 [some (.ref o), none, none, none, none, none] [] h
  refine ev_iconst C (v := 0) dX14_pays_0 (by decide) ?_
  refine ev_istore_n C (by decide) dX14_pays_1 ?_
  exact (t_X14_pays_2 C  FU hs)
end
-- X14_finds
theorem dX14_finds_0 : decode cX14_finds 0 = .ok (.aload_n 0, 1) := by decide +kernel
theorem dX14_finds_1 : decode cX14_finds 1 = .ok (.getfield 409, 3) := by decide +kernel
theorem dX14_finds_4 : decode cX14_finds 4 = .ok (.ifCond .eq 4, 3) := by decide +kernel
theorem dX14_finds_7 : decode cX14_finds 7 = .ok (.return_, 1) := by decide +kernel
theorem dX14_finds_8 : decode cX14_finds 8 = .ok (.iconst 2, 1) := by decide +kernel
theorem dX14_finds_9 : decode cX14_finds 9 = .ok (.istore_n 1, 1) := by decide +kernel
theorem dX14_finds_10 : decode cX14_finds 10 = .ok (.iload_n 1, 1) := by decide +kernel
theorem dX14_finds_11 : decode cX14_finds 11 = .ok (.ifCond .lt 14, 3) := by decide +kernel
theorem dX14_finds_14 : decode cX14_finds 14 = .ok (.aload_n 0, 1) := by decide +kernel
theorem dX14_finds_15 : decode cX14_finds 15 = .ok (.iload_n 1, 1) := by decide +kernel
theorem dX14_finds_16 : decode cX14_finds 16 = .ok (.invokevirtual 525, 3) := by decide +kernel
theorem dX14_finds_19 : decode cX14_finds 19 = .ok (.iinc 1 (-1), 3) := by decide +kernel
theorem dX14_finds_22 : decode cX14_finds 22 = .ok (.goto (-12), 3) := by decide +kernel
theorem dX14_finds_25 : decode cX14_finds 25 = .ok (.aload_n 0, 1) := by decide +kernel
theorem dX14_finds_26 : decode cX14_finds 26 = .ok (.invokevirtual 528, 3) := by decide +kernel
theorem dX14_finds_29 : decode cX14_finds 29 = .ok (.aload_n 0, 1) := by decide +kernel
theorem dX14_finds_30 : decode cX14_finds 30 = .ok (.invokevirtual 531, 3) := by decide +kernel
theorem dX14_finds_33 : decode cX14_finds 33 = .ok (.aload_n 0, 1) := by decide +kernel
theorem dX14_finds_34 : decode cX14_finds 34 = .ok (.iconst 1, 1) := by decide +kernel
theorem dX14_finds_35 : decode cX14_finds 35 = .ok (.putfield 409, 3) := by decide +kernel
theorem dX14_finds_38 : decode cX14_finds 38 = .ok (.return_, 1) := by decide +kernel
def s_X14_finds_10_b  (k10 : Nat → Int32 → aH → aO) (l0 : Nat) (l1 : Int32) (h : aH) : aO :=
  if l1 < 0 then (kO h l0 14 (cN (s_X14_reaches l0 h) fun h26 => kO h26 l0 14 (cN (s_X14_pays l0 h26) fun h30 => (pZ h30 (.ref l0) 14 25 1).bind fun h35 => some (.inl none, h35)))) else (kO h l0 14 (cN (s_X14_keeps l0 l1 h) fun h16 => k10 l0 (l1 + (-1)) h16))
def s_X14_finds_10  (n : Nat) : Nat → Int32 → aH → aO := lpF (fun _ _ _ => none) (s_X14_finds_10_b ) n
def s_X14_finds (o : Nat) (h : aH) : aO :=
  (gI h (.ref o) 14 25).bind fun x1 => if x1 = 0 then (s_X14_finds_10 FU o 2 h) else (some (.inl none, h))
section
variable {p : Program} {l : Launch} {e : Env} {s : State} {m : MethodId} {args : Array Value} {below : List Frame} {meth : Method} {c : Code} {D : va_G} {B0 : Nat} {X : Nat → Nat} {ws0 : va_W} {r : aR} {h' : aH} {mc ms : Nat}
theorem t_X14_finds_10_b (C : Cx p l s m args meth c B0 X RX14 "finds" cX14_finds 2 none [])   {k10 : Nat → Int32 → aH → aO} (K10 : ∀ (l0 : Nat) (l1 : Int32) (h : aH), k10 l0 l1 h = some (r, h') → Ev p l e { frames := 6, cells := mc, slots := ms, locals := 153 } s m args below meth c D B0 X ws0 r h' mc ms 2 mc ms 10 [some (.ref l0), some (.int l1)] [] h) {l0 : Nat} {l1 : Int32} {h : aH} (hs : s_X14_finds_10_b  k10 l0 l1 h = some (r, h')) : Ev p l e { frames := 6, cells := mc, slots := ms, locals := 153 } s m args below meth c D B0 X ws0 r h' mc ms 2 mc ms 10 [some (.ref l0), some (.int l1)] [] h := by
  unfold s_X14_finds_10_b at hs
  refine ev_iload_n C rfl dX14_finds_10 ?_
  refine ev_if_lt C (tgt := 25) (by decide) dX14_finds_11 (fun q11 => ?_) (fun q11 => ?_)
  · replace hs := (if_pos q11).symm.trans hs
    refine ev_aload_n C (x := .ref l0) rfl trivial dX14_finds_25 ?_
    obtain ⟨eo26, hs⟩ := kO_at hs
    obtain ⟨h26, e26, hs⟩ := cN_at hs
    refine ev_callV C (T_X14_reaches _ _ _ _ e26) (ci := 14) rfl eo26 wc_X14_reaches wm_X14_528 wi_X14_reaches ws_X14_reaches wz_X14 hy_X14_reaches ⟨(Nat.le_of_ble_eq_true rfl), (Nat.le_of_ble_eq_true rfl)⟩ ⟨(Nat.le_refl _), (Nat.le_refl _)⟩ (Nat.le_of_ble_eq_true rfl) rfl dX14_finds_26 ?_
    refine ev_aload_n C (x := .ref l0) rfl trivial dX14_finds_29 ?_
    obtain ⟨eo30, hs⟩ := kO_at hs
    obtain ⟨h30, e30, hs⟩ := cN_at hs
    refine ev_callV C (T_X14_pays _ _ _ _ e30) (ci := 14) rfl eo30 wc_X14_pays wm_X14_531 wi_X14_pays ws_X14_pays wz_X14 hy_X14_pays ⟨(Nat.le_of_ble_eq_true rfl), (Nat.le_of_ble_eq_true rfl)⟩ ⟨(Nat.le_refl _), (Nat.le_refl _)⟩ (Nat.le_of_ble_eq_true rfl) rfl dX14_finds_30 ?_
    refine ev_aload_n C (x := .ref l0) rfl trivial dX14_finds_33 ?_
    refine ev_iconst C (v := 1) dX14_finds_34 (by decide) ?_
    obtain ⟨h35, e35, hs⟩ := aB hs
    refine ev_put C (ci := 14) (k := 25) rfl wu_14 (by decide) tyX14 tyX14_ok nmX14 wf_X14_409 rfl (pZ_F e35).2 (pZ_F e35).1 dX14_finds_35 ?_
    cases hs
    exact ev_vret C rfl rfl (Nat.le_refl _) (Nat.le_refl _) rfl dX14_finds_38
  · replace hs := (if_neg q11).symm.trans hs
    refine ev_aload_n C (x := .ref l0) rfl trivial dX14_finds_14 ?_
    refine ev_iload_n C rfl dX14_finds_15 ?_
    obtain ⟨eo16, hs⟩ := kO_at hs
    obtain ⟨h16, e16, hs⟩ := cN_at hs
    refine ev_callV C (T_X14_keeps _ _ _ _ _ e16) (ci := 14) rfl eo16 wc_X14_keeps wm_X14_525 wi_X14_keeps ws_X14_keeps wz_X14 hy_X14_keeps ⟨(Nat.le_of_ble_eq_true rfl), (Nat.le_of_ble_eq_true rfl)⟩ ⟨(Nat.le_refl _), (Nat.le_refl _)⟩ (Nat.le_of_ble_eq_true rfl) rfl dX14_finds_16 ?_
    refine ev_iinc C (i := 1) (n := -1) (x := l1) (v := l1 + (-1)) rfl (congrArg (fun z => l1 + z) (show Int32.ofInt (-1) = (-1) by decide)) (by decide) dX14_finds_19 ?_
    refine ev_goto C (tgt := 10) (by decide) dX14_finds_22 ?_
    exact (K10 _ _ _ hs)
theorem t_X14_finds_10 (C : Cx p l s m args meth c B0 X RX14 "finds" cX14_finds 2 none [])   : ∀ (n : Nat) {l0 : Nat} {l1 : Int32} {h : aH} (hs : s_X14_finds_10  n l0 l1 h = some (r, h')), Ev p l e { frames := 6, cells := mc, slots := ms, locals := 153 } s m args below meth c D B0 X ws0 r h' mc ms 2 mc ms 10 [some (.ref l0), some (.int l1)] [] h
  | 0, _, _, _, hs => nomatch hs
  | n + 1, _, _, _, hs => t_X14_finds_10_b C  (k10 := s_X14_finds_10  n) (fun _ _ _ hs => t_X14_finds_10 C  n hs) hs
theorem hy_X14_finds : yX14_finds.cls ≠ "java/lang/invoke/MethodHandle" ∧ yX14_finds.cls ≠ "java/lang/invoke/VarHandle" ∧ (parseMethodDescriptor yX14_finds.desc).map (fun d => d.parameters.length) = some 0 := by decide +kernel
theorem T_X14_finds (o : Nat) (h : aH) (r : aR) (h' : aH) (hs : s_X14_finds o h = some (r, h')) : Mt yX14_finds (Cond.code yX14_finds cX14_finds 2 none :: aTB) 6 153 0 0 [.ref o] h r h' := by
  unfold s_X14_finds at hs
  refine Mt_of (k := 1) (by decide) rfl (fun p l e s m args below meth c D B0 X ws0 C => ?_)
  show Ev p l e { frames := 6, cells := 0, slots := 0, locals := 153 } s m args below meth c D B0 X ws0 r h' 0 0 2 0 0 0 [some (.ref o), none] [] h
  refine ev_aload_n C (x := .ref o) rfl trivial dX14_finds_0 ?_
  obtain ⟨x1, e1, hs⟩ := aB hs
  refine ev_get C (ci := 14) (k := 25) rfl wu_14 (by decide) wf_X14_409 (gI_F e1) dX14_finds_1 ?_
  refine ev_if_eq C (tgt := 8) (by decide) dX14_finds_4 (fun q4 => ?_) (fun q4 => ?_)
  · replace hs := (if_pos q4).symm.trans hs
    refine ev_iconst C (v := 2) dX14_finds_8 (by decide) ?_
    refine ev_istore_n C (by decide) dX14_finds_9 ?_
    exact (t_X14_finds_10 C  FU hs)
  · replace hs := (if_neg q4).symm.trans hs
    cases hs
    exact ev_vret C rfl rfl (Nat.le_refl _) (Nat.le_refl _) rfl dX14_finds_7
end
-- X14_isSafe
theorem dX14_isSafe_0 : decode cX14_isSafe 0 = .ok (.aload_n 0, 1) := by decide +kernel
theorem dX14_isSafe_1 : decode cX14_isSafe 1 = .ok (.getfield 72, 3) := by decide +kernel
theorem dX14_isSafe_4 : decode cX14_isSafe 4 = .ok (.iconst 0, 1) := by decide +kernel
theorem dX14_isSafe_5 : decode cX14_isSafe 5 = .ok (.iload_n 1, 1) := by decide +kernel
theorem dX14_isSafe_6 : decode cX14_isSafe 6 = .ok (.invokestatic 503, 3) := by decide +kernel
theorem dX14_isSafe_9 : decode cX14_isSafe 9 = .ok (.ireturn, 1) := by decide +kernel
def s_X14_isSafe (o : Nat) (a1 : Int32) (h : aH) : aO :=
  (gO h (.ref o) 14 38).bind fun x1 => cI (s_X14_isIn x1 0 a1 h) fun x6 h6 => rtZ x6 h6
section
variable {p : Program} {l : Launch} {e : Env} {s : State} {m : MethodId} {args : Array Value} {below : List Frame} {meth : Method} {c : Code} {D : va_G} {B0 : Nat} {X : Nat → Nat} {ws0 : va_W} {r : aR} {h' : aH} {mc ms : Nat}
theorem hy_X14_isSafe : yX14_isSafe.cls ≠ "java/lang/invoke/MethodHandle" ∧ yX14_isSafe.cls ≠ "java/lang/invoke/VarHandle" ∧ (parseMethodDescriptor yX14_isSafe.desc).map (fun d => d.parameters.length) = some 1 := by decide +kernel
theorem T_X14_isSafe (o : Nat) (a1 : Int32) (h : aH) (r : aR) (h' : aH) (hs : s_X14_isSafe o a1 h = some (r, h')) : Mt yX14_isSafe (Cond.code yX14_isSafe cX14_isSafe 2 (some .boolean) :: aTB) 1 22 0 0 [.ref o, .int a1] h r h' := by
  unfold s_X14_isSafe at hs
  refine Mt_of (k := 0) (by decide) rfl (fun p l e s m args below meth c D B0 X ws0 C => ?_)
  show Ev p l e { frames := 1, cells := 0, slots := 0, locals := 22 } s m args below meth c D B0 X ws0 r h' 0 0 2 0 0 0 [some (.ref o), some (.int a1)] [] h
  refine ev_aload_n C (x := .ref o) rfl trivial dX14_isSafe_0 ?_
  obtain ⟨x1, e1, hs⟩ := aB hs
  refine ev_get C (ci := 14) (k := 38) rfl wu_14 (by decide) wf_X14_72 (gO_F e1) dX14_isSafe_1 ?_
  refine ev_iconst C (v := 0) dX14_isSafe_4 (by decide) ?_
  refine ev_iload_n C rfl dX14_isSafe_5 ?_
  obtain ⟨x6, h6, e6, hs⟩ := cI_at hs
  refine ev_callS C (T_X14_isIn _ _ _ _ _ _ e6) wc_X14_isIn wm_X14_503 wt_X14_isIn wz_X14 hy_X14_isIn ⟨(Nat.le_of_ble_eq_true rfl), (Nat.le_of_ble_eq_true rfl)⟩ ⟨(Nat.le_refl _), (Nat.le_refl _)⟩ (Nat.le_of_ble_eq_true rfl) rfl dX14_isSafe_6 ?_
  obtain ⟨hz, rfl, rfl⟩ := rtZ_at hs
  exact ev_zret C rfl hz rfl (Nat.le_refl _) (Nat.le_refl _) rfl dX14_isSafe_9
end
-- X14_safe
theorem dX14_safe_0 : decode cX14_safe 0 = .ok (.aload_n 0, 1) := by decide +kernel
theorem dX14_safe_1 : decode cX14_safe 1 = .ok (.iconst 0, 1) := by decide +kernel
theorem dX14_safe_2 : decode cX14_safe 2 = .ok (.putfield 154, 3) := by decide +kernel
theorem dX14_safe_5 : decode cX14_safe 5 = .ok (.aload_n 0, 1) := by decide +kernel
theorem dX14_safe_6 : decode cX14_safe 6 = .ok (.getfield 376, 3) := by decide +kernel
theorem dX14_safe_9 : decode cX14_safe 9 = .ok (.ifnonnull 9, 3) := by decide +kernel
theorem dX14_safe_12 : decode cX14_safe 12 = .ok (.aload_n 0, 1) := by decide +kernel
theorem dX14_safe_13 : decode cX14_safe 13 = .ok (.iconst 1, 1) := by decide +kernel
theorem dX14_safe_14 : decode cX14_safe 14 = .ok (.invokevirtual 360, 3) := by decide +kernel
theorem dX14_safe_17 : decode cX14_safe 17 = .ok (.ireturn, 1) := by decide +kernel
theorem dX14_safe_18 : decode cX14_safe 18 = .ok (.aload_n 0, 1) := by decide +kernel
theorem dX14_safe_19 : decode cX14_safe 19 = .ok (.invokevirtual 534, 3) := by decide +kernel
theorem dX14_safe_22 : decode cX14_safe 22 = .ok (.iconst 0, 1) := by decide +kernel
theorem dX14_safe_23 : decode cX14_safe 23 = .ok (.istore_n 1, 1) := by decide +kernel
theorem dX14_safe_24 : decode cX14_safe 24 = .ok (.iconst 0, 1) := by decide +kernel
theorem dX14_safe_25 : decode cX14_safe 25 = .ok (.istore_n 2, 1) := by decide +kernel
theorem dX14_safe_26 : decode cX14_safe 26 = .ok (.iload_n 2, 1) := by decide +kernel
theorem dX14_safe_27 : decode cX14_safe 27 = .ok (.aload_n 0, 1) := by decide +kernel
theorem dX14_safe_28 : decode cX14_safe 28 = .ok (.getfield 379, 3) := by decide +kernel
theorem dX14_safe_31 : decode cX14_safe 31 = .ok (.if_icmp .ge 25, 3) := by decide +kernel
theorem dX14_safe_34 : decode cX14_safe 34 = .ok (.iload_n 1, 1) := by decide +kernel
theorem dX14_safe_35 : decode cX14_safe 35 = .ok (.aload_n 0, 1) := by decide +kernel
theorem dX14_safe_36 : decode cX14_safe 36 = .ok (.iload_n 2, 1) := by decide +kernel
theorem dX14_safe_37 : decode cX14_safe 37 = .ok (.invokevirtual 537, 3) := by decide +kernel
theorem dX14_safe_40 : decode cX14_safe 40 = .ok (.ifCond .eq 7, 3) := by decide +kernel
theorem dX14_safe_43 : decode cX14_safe 43 = .ok (.iconst 1, 1) := by decide +kernel
theorem dX14_safe_44 : decode cX14_safe 44 = .ok (.goto 4, 3) := by decide +kernel
theorem dX14_safe_47 : decode cX14_safe 47 = .ok (.iconst 0, 1) := by decide +kernel
theorem dX14_safe_48 : decode cX14_safe 48 = .ok (.iadd, 1) := by decide +kernel
theorem dX14_safe_49 : decode cX14_safe 49 = .ok (.istore_n 1, 1) := by decide +kernel
theorem dX14_safe_50 : decode cX14_safe 50 = .ok (.iinc 2 1, 3) := by decide +kernel
theorem dX14_safe_53 : decode cX14_safe 53 = .ok (.goto (-27), 3) := by decide +kernel
theorem dX14_safe_56 : decode cX14_safe 56 = .ok (.aload_n 0, 1) := by decide +kernel
theorem dX14_safe_57 : decode cX14_safe 57 = .ok (.iload_n 1, 1) := by decide +kernel
theorem dX14_safe_58 : decode cX14_safe 58 = .ok (.invokevirtual 413, 3) := by decide +kernel
theorem dX14_safe_61 : decode cX14_safe 61 = .ok (.ireturn, 1) := by decide +kernel
def s_X14_safe_48 (k26 : Nat → Int32 → Int32 → aH → aO) (l0 : Nat) (l2 : Int32) (s0 : Int32) (s1 : Int32) (h : aH) : aO :=
  k26 l0 (s1 + s0) (l2 + 1) h
def s_X14_safe_26_b  (k26 : Nat → Int32 → Int32 → aH → aO) (l0 : Nat) (l1 : Int32) (l2 : Int32) (h : aH) : aO :=
  (gI h (.ref l0) 14 20).bind fun x28 => if x28 ≤ l2 then (kO h l0 14 (cI (s_X14_done l0 l1 h) fun x58 h58 => some (.inl (some (.int x58)), h58))) else (kO h l0 14 (cI (s_X14_isSafe l0 l2 h) fun x37 h37 => if x37 = 0 then (s_X14_safe_48 k26 l0 l2 0 l1 h37) else (s_X14_safe_48 k26 l0 l2 1 l1 h37)))
def s_X14_safe_26  (n : Nat) : Nat → Int32 → Int32 → aH → aO := lpF (fun _ _ _ _ => none) (s_X14_safe_26_b ) n
def s_X14_safe (o : Nat) (h : aH) : aO :=
  (pF h (.ref o) 14 0 (.int 0)).bind fun h2 => (gW h2 (.ref o) 14 4).bind fun x6 => match x6 with | .null => (kO h2 o 14 (cI (s_X14_refused o 1 h2) fun x14 h14 => some (.inl (some (.int x14)), h14))) | .ref n9 => (kO h2 o 14 (cN (s_X14_finds o h2) fun h19 => s_X14_safe_26 FU o 0 0 h19)) | _ => none
section
variable {p : Program} {l : Launch} {e : Env} {s : State} {m : MethodId} {args : Array Value} {below : List Frame} {meth : Method} {c : Code} {D : va_G} {B0 : Nat} {X : Nat → Nat} {ws0 : va_W} {r : aR} {h' : aH} {mc ms : Nat}
theorem t_X14_safe_48 (C : Cx p l s m args meth c B0 X RX14 "safe" cX14_safe 3 (some .int) []) {k26 : Nat → Int32 → Int32 → aH → aO} (K26 : ∀ (l0 : Nat) (l1 : Int32) (l2 : Int32) (h : aH), k26 l0 l1 l2 h = some (r, h') → Ev p l e { frames := 7, cells := mc, slots := ms, locals := 174 } s m args below meth c D B0 X ws0 r h' mc ms 3 mc ms 26 [some (.ref l0), some (.int l1), some (.int l2)] [] h) {l0 : Nat} {l2 : Int32} {s0 : Int32} {s1 : Int32} {h : aH} (hs : s_X14_safe_48 k26 l0 l2 s0 s1 h = some (r, h')) : Ev p l e { frames := 7, cells := mc, slots := ms, locals := 174 } s m args below meth c D B0 X ws0 r h' mc ms 3 mc ms 48 [some (.ref l0), none, some (.int l2)] [.int s0, .int s1] h := by
  unfold s_X14_safe_48 at hs
  refine ev_iadd C dX14_safe_48 ?_
  refine ev_istore_n C (by decide) dX14_safe_49 ?_
  refine ev_iinc C (i := 2) (n := 1) (x := l2) (v := l2 + 1) rfl (congrArg (fun z => l2 + z) (show Int32.ofInt 1 = 1 by decide)) (by decide) dX14_safe_50 ?_
  refine ev_goto C (tgt := 26) (by decide) dX14_safe_53 ?_
  exact (K26 _ _ _ _ hs)
theorem t_X14_safe_26_b (C : Cx p l s m args meth c B0 X RX14 "safe" cX14_safe 3 (some .int) [])   {k26 : Nat → Int32 → Int32 → aH → aO} (K26 : ∀ (l0 : Nat) (l1 : Int32) (l2 : Int32) (h : aH), k26 l0 l1 l2 h = some (r, h') → Ev p l e { frames := 7, cells := mc, slots := ms, locals := 174 } s m args below meth c D B0 X ws0 r h' mc ms 3 mc ms 26 [some (.ref l0), some (.int l1), some (.int l2)] [] h) {l0 : Nat} {l1 : Int32} {l2 : Int32} {h : aH} (hs : s_X14_safe_26_b  k26 l0 l1 l2 h = some (r, h')) : Ev p l e { frames := 7, cells := mc, slots := ms, locals := 174 } s m args below meth c D B0 X ws0 r h' mc ms 3 mc ms 26 [some (.ref l0), some (.int l1), some (.int l2)] [] h := by
  unfold s_X14_safe_26_b at hs
  refine ev_iload_n C rfl dX14_safe_26 ?_
  refine ev_aload_n C (x := .ref l0) rfl trivial dX14_safe_27 ?_
  obtain ⟨x28, e28, hs⟩ := aB hs
  refine ev_get C (ci := 14) (k := 20) rfl wu_14 (by decide) wf_X14_379 (gI_F e28) dX14_safe_28 ?_
  refine ev_icmp_ge C (tgt := 56) (by decide) dX14_safe_31 (fun q31 => ?_) (fun q31 => ?_)
  · replace hs := (if_pos q31).symm.trans hs
    refine ev_aload_n C (x := .ref l0) rfl trivial dX14_safe_56 ?_
    refine ev_iload_n C rfl dX14_safe_57 ?_
    obtain ⟨eo58, hs⟩ := kO_at hs
    obtain ⟨x58, h58, e58, hs⟩ := cI_at hs
    refine ev_callV C (T_X14_done _ _ _ _ _ e58) (ci := 14) rfl eo58 wc_X14_done wm_X14_413 wi_X14_done ws_X14_done wz_X14 hy_X14_done ⟨(Nat.le_of_ble_eq_true rfl), (Nat.le_of_ble_eq_true rfl)⟩ ⟨(Nat.le_refl _), (Nat.le_refl _)⟩ (Nat.le_of_ble_eq_true rfl) rfl dX14_safe_58 ?_
    cases hs
    exact ev_iret C rfl rfl (Nat.le_refl _) (Nat.le_refl _) rfl dX14_safe_61
  · replace hs := (if_neg q31).symm.trans hs
    refine ev_iload_n C rfl dX14_safe_34 ?_
    refine ev_aload_n C (x := .ref l0) rfl trivial dX14_safe_35 ?_
    refine ev_iload_n C rfl dX14_safe_36 ?_
    obtain ⟨eo37, hs⟩ := kO_at hs
    obtain ⟨x37, h37, e37, hs⟩ := cI_at hs
    refine ev_callV C (T_X14_isSafe _ _ _ _ _ e37) (ci := 14) rfl eo37 wc_X14_isSafe wm_X14_537 wi_X14_isSafe ws_X14_isSafe wz_X14 hy_X14_isSafe ⟨(Nat.le_of_ble_eq_true rfl), (Nat.le_of_ble_eq_true rfl)⟩ ⟨(Nat.le_refl _), (Nat.le_refl _)⟩ (Nat.le_of_ble_eq_true rfl) rfl dX14_safe_37 ?_
    refine ev_if_eq C (tgt := 47) (by decide) dX14_safe_40 (fun q40 => ?_) (fun q40 => ?_)
    · replace hs := (if_pos q40).symm.trans hs
      refine ev_iconst C (v := 0) dX14_safe_47 (by decide) ?_
      exact Ev.keep [true, false, true] (t_X14_safe_48 C K26 hs)
    · replace hs := (if_neg q40).symm.trans hs
      refine ev_iconst C (v := 1) dX14_safe_43 (by decide) ?_
      refine ev_goto C (tgt := 48) (by decide) dX14_safe_44 ?_
      exact Ev.keep [true, false, true] (t_X14_safe_48 C K26 hs)
theorem t_X14_safe_26 (C : Cx p l s m args meth c B0 X RX14 "safe" cX14_safe 3 (some .int) [])   : ∀ (n : Nat) {l0 : Nat} {l1 : Int32} {l2 : Int32} {h : aH} (hs : s_X14_safe_26  n l0 l1 l2 h = some (r, h')), Ev p l e { frames := 7, cells := mc, slots := ms, locals := 174 } s m args below meth c D B0 X ws0 r h' mc ms 3 mc ms 26 [some (.ref l0), some (.int l1), some (.int l2)] [] h
  | 0, _, _, _, _, hs => nomatch hs
  | n + 1, _, _, _, _, hs => t_X14_safe_26_b C  (k26 := s_X14_safe_26  n) (fun _ _ _ _ hs => t_X14_safe_26 C  n hs) hs
theorem hy_X14_safe : yX14_safe.cls ≠ "java/lang/invoke/MethodHandle" ∧ yX14_safe.cls ≠ "java/lang/invoke/VarHandle" ∧ (parseMethodDescriptor yX14_safe.desc).map (fun d => d.parameters.length) = some 0 := by decide +kernel
theorem T_X14_safe (o : Nat) (h : aH) (r : aR) (h' : aH) (hs : s_X14_safe o h = some (r, h')) : Mt yX14_safe (Cond.code yX14_safe cX14_safe 3 (some .int) :: aTB) 7 174 0 0 [.ref o] h r h' := by
  unfold s_X14_safe at hs
  refine Mt_of (k := 2) (by decide) rfl (fun p l e s m args below meth c D B0 X ws0 C => ?_)
  show Ev p l e { frames := 7, cells := 0, slots := 0, locals := 174 } s m args below meth c D B0 X ws0 r h' 0 0 3 0 0 0 [some (.ref o), none, none] [] h
  refine ev_aload_n C (x := .ref o) rfl trivial dX14_safe_0 ?_
  refine ev_iconst C (v := 0) dX14_safe_1 (by decide) ?_
  obtain ⟨h2, e2, hs⟩ := aB hs
  refine ev_put C (ci := 14) (k := 0) rfl wu_14 (by decide) tyX14 tyX14_ok nmX14 wf_X14_154 rfl trivial e2 dX14_safe_2 ?_
  refine ev_aload_n C (x := .ref o) rfl trivial dX14_safe_5 ?_
  obtain ⟨x6, e6, hs⟩ := aB hs
  refine ev_get C (ci := 14) (k := 4) rfl wu_14 (by decide) wf_X14_376 (gW_F e6).1 dX14_safe_6 ?_
  cases x6 with
  | null =>
    refine ev_ifnonnull_n C dX14_safe_9 ?_
    refine ev_aload_n C (x := .ref o) rfl trivial dX14_safe_12 ?_
    refine ev_iconst C (v := 1) dX14_safe_13 (by decide) ?_
    obtain ⟨eo14, hs⟩ := kO_at hs
    obtain ⟨x14, h14, e14, hs⟩ := cI_at hs
    refine ev_callV C (T_X14_refused _ _ _ _ _ e14) (ci := 14) rfl eo14 wc_X14_refused wm_X14_360 wi_X14_refused ws_X14_refused wz_X14 hy_X14_refused ⟨(Nat.le_of_ble_eq_true rfl), (Nat.le_of_ble_eq_true rfl)⟩ ⟨(Nat.le_refl _), (Nat.le_refl _)⟩ (Nat.le_of_ble_eq_true rfl) rfl dX14_safe_14 ?_
    cases hs
    exact ev_iret C rfl rfl (Nat.le_refl _) (Nat.le_refl _) rfl dX14_safe_17
  | ref n9 =>
    refine ev_ifnonnull_r C (tgt := 18) (by decide) dX14_safe_9 ?_
    refine ev_aload_n C (x := .ref o) rfl trivial dX14_safe_18 ?_
    obtain ⟨eo19, hs⟩ := kO_at hs
    obtain ⟨h19, e19, hs⟩ := cN_at hs
    refine ev_callV C (T_X14_finds _ _ _ _ e19) (ci := 14) rfl eo19 wc_X14_finds wm_X14_534 wi_X14_finds ws_X14_finds wz_X14 hy_X14_finds ⟨(Nat.le_of_ble_eq_true rfl), (Nat.le_of_ble_eq_true rfl)⟩ ⟨(Nat.le_refl _), (Nat.le_refl _)⟩ (Nat.le_of_ble_eq_true rfl) rfl dX14_safe_19 ?_
    refine ev_iconst C (v := 0) dX14_safe_22 (by decide) ?_
    refine ev_istore_n C (by decide) dX14_safe_23 ?_
    refine ev_iconst C (v := 0) dX14_safe_24 (by decide) ?_
    refine ev_istore_n C (by decide) dX14_safe_25 ?_
    exact (t_X14_safe_26 C  FU hs)
  | _ => cases hs
end
-- X14_layer
theorem dX14_layer_0 : decode cX14_layer 0 = .ok (.aload_n 0, 1) := by decide +kernel
theorem dX14_layer_1 : decode cX14_layer 1 = .ok (.iconst 0, 1) := by decide +kernel
theorem dX14_layer_2 : decode cX14_layer 2 = .ok (.putfield 154, 3) := by decide +kernel
theorem dX14_layer_5 : decode cX14_layer 5 = .ok (.aload_n 0, 1) := by decide +kernel
theorem dX14_layer_6 : decode cX14_layer 6 = .ok (.iload_n 1, 1) := by decide +kernel
theorem dX14_layer_7 : decode cX14_layer 7 = .ok (.invokevirtual 474, 3) := by decide +kernel
theorem dX14_layer_10 : decode cX14_layer 10 = .ok (.ifCond .ne 5, 3) := by decide +kernel
theorem dX14_layer_13 : decode cX14_layer 13 = .ok (.iconst (-1), 1) := by decide +kernel
theorem dX14_layer_14 : decode cX14_layer 14 = .ok (.ireturn, 1) := by decide +kernel
theorem dX14_layer_15 : decode cX14_layer 15 = .ok (.aload_n 0, 1) := by decide +kernel
theorem dX14_layer_16 : decode cX14_layer 16 = .ok (.invokevirtual 534, 3) := by decide +kernel
theorem dX14_layer_19 : decode cX14_layer 19 = .ok (.aload_n 0, 1) := by decide +kernel
theorem dX14_layer_20 : decode cX14_layer 20 = .ok (.getfield 69, 3) := by decide +kernel
theorem dX14_layer_23 : decode cX14_layer 23 = .ok (.iload_n 1, 1) := by decide +kernel
theorem dX14_layer_24 : decode cX14_layer 24 = .ok (.iaload, 1) := by decide +kernel
theorem dX14_layer_25 : decode cX14_layer 25 = .ok (.ireturn, 1) := by decide +kernel
def s_X14_layer (o : Nat) (a1 : Int32) (h : aH) : aO :=
  (pF h (.ref o) 14 0 (.int 0)).bind fun h2 => kO h2 o 14 (cI (s_X14_isCell o a1 h2) fun x7 h7 => if x7 = 0 then (some (.inl (some (.int (-1))), h7)) else (kO h7 o 14 (cN (s_X14_finds o h7) fun h16 => (gO h16 (.ref o) 14 37).bind fun x20 => (ldI .int h16 (.ref x20) a1).bind fun x24 => some (.inl (some (.int x24)), h16))))
section
variable {p : Program} {l : Launch} {e : Env} {s : State} {m : MethodId} {args : Array Value} {below : List Frame} {meth : Method} {c : Code} {D : va_G} {B0 : Nat} {X : Nat → Nat} {ws0 : va_W} {r : aR} {h' : aH} {mc ms : Nat}
theorem hy_X14_layer : yX14_layer.cls ≠ "java/lang/invoke/MethodHandle" ∧ yX14_layer.cls ≠ "java/lang/invoke/VarHandle" ∧ (parseMethodDescriptor yX14_layer.desc).map (fun d => d.parameters.length) = some 1 := by decide +kernel
theorem T_X14_layer (o : Nat) (a1 : Int32) (h : aH) (r : aR) (h' : aH) (hs : s_X14_layer o a1 h = some (r, h')) : Mt yX14_layer (Cond.code yX14_layer cX14_layer 2 (some .int) :: aTB) 7 174 0 0 [.ref o, .int a1] h r h' := by
  unfold s_X14_layer at hs
  refine Mt_of (k := 0) (by decide) rfl (fun p l e s m args below meth c D B0 X ws0 C => ?_)
  show Ev p l e { frames := 7, cells := 0, slots := 0, locals := 174 } s m args below meth c D B0 X ws0 r h' 0 0 2 0 0 0 [some (.ref o), some (.int a1)] [] h
  refine ev_aload_n C (x := .ref o) rfl trivial dX14_layer_0 ?_
  refine ev_iconst C (v := 0) dX14_layer_1 (by decide) ?_
  obtain ⟨h2, e2, hs⟩ := aB hs
  refine ev_put C (ci := 14) (k := 0) rfl wu_14 (by decide) tyX14 tyX14_ok nmX14 wf_X14_154 rfl trivial e2 dX14_layer_2 ?_
  refine ev_aload_n C (x := .ref o) rfl trivial dX14_layer_5 ?_
  refine ev_iload_n C rfl dX14_layer_6 ?_
  obtain ⟨eo7, hs⟩ := kO_at hs
  obtain ⟨x7, h7, e7, hs⟩ := cI_at hs
  refine ev_callV C (T_X14_isCell _ _ _ _ _ e7) (ci := 14) rfl eo7 wc_X14_isCell wm_X14_474 wi_X14_isCell ws_X14_isCell wz_X14 hy_X14_isCell ⟨(Nat.le_of_ble_eq_true rfl), (Nat.le_of_ble_eq_true rfl)⟩ ⟨(Nat.le_refl _), (Nat.le_refl _)⟩ (Nat.le_of_ble_eq_true rfl) rfl dX14_layer_7 ?_
  refine ev_if_ne C (tgt := 15) (by decide) dX14_layer_10 (fun q10 => ?_) (fun q10 => ?_)
  · replace hs := (if_neg q10).symm.trans hs
    refine ev_aload_n C (x := .ref o) rfl trivial dX14_layer_15 ?_
    obtain ⟨eo16, hs⟩ := kO_at hs
    obtain ⟨h16, e16, hs⟩ := cN_at hs
    refine ev_callV C (T_X14_finds _ _ _ _ e16) (ci := 14) rfl eo16 wc_X14_finds wm_X14_534 wi_X14_finds ws_X14_finds wz_X14 hy_X14_finds ⟨(Nat.le_of_ble_eq_true rfl), (Nat.le_of_ble_eq_true rfl)⟩ ⟨(Nat.le_refl _), (Nat.le_refl _)⟩ (Nat.le_of_ble_eq_true rfl) rfl dX14_layer_16 ?_
    refine ev_aload_n C (x := .ref o) rfl trivial dX14_layer_19 ?_
    obtain ⟨x20, e20, hs⟩ := aB hs
    refine ev_get C (ci := 14) (k := 37) rfl wu_14 (by decide) wf_X14_69 (gO_F e20) dX14_layer_20 ?_
    refine ev_iload_n C rfl dX14_layer_23 ?_
    obtain ⟨x24, e24, hs⟩ := aB hs
    refine ev_iald C e24 dX14_layer_24 ?_
    cases hs
    exact ev_iret C rfl rfl (Nat.le_refl _) (Nat.le_refl _) rfl dX14_layer_25
  · replace hs := (if_pos q10).symm.trans hs
    refine ev_iconst C (v := (-1)) dX14_layer_13 (by decide) ?_
    cases hs
    exact ev_iret C rfl rfl (Nat.le_refl _) (Nat.le_refl _) rfl dX14_layer_14
end
-- X14_allowedOf
theorem dX14_allowedOf_0 : decode cX14_allowedOf 0 = .ok (.aload_n 0, 1) := by decide +kernel
theorem dX14_allowedOf_1 : decode cX14_allowedOf 1 = .ok (.iload_n 1, 1) := by decide +kernel
theorem dX14_allowedOf_2 : decode cX14_allowedOf 2 = .ok (.invokevirtual 537, 3) := by decide +kernel
theorem dX14_allowedOf_5 : decode cX14_allowedOf 5 = .ok (.ifCond .ne 5, 3) := by decide +kernel
theorem dX14_allowedOf_8 : decode cX14_allowedOf 8 = .ok (.iconst 0, 1) := by decide +kernel
theorem dX14_allowedOf_9 : decode cX14_allowedOf 9 = .ok (.ireturn, 1) := by decide +kernel
theorem dX14_allowedOf_10 : decode cX14_allowedOf 10 = .ok (.iconst 0, 1) := by decide +kernel
theorem dX14_allowedOf_11 : decode cX14_allowedOf 11 = .ok (.istore_n 2, 1) := by decide +kernel
theorem dX14_allowedOf_12 : decode cX14_allowedOf 12 = .ok (.iload_n 2, 1) := by decide +kernel
theorem dX14_allowedOf_13 : decode cX14_allowedOf 13 = .ok (.bipush 13, 2) := by decide +kernel
theorem dX14_allowedOf_15 : decode cX14_allowedOf 15 = .ok (.if_icmp .ge 21, 3) := by decide +kernel
theorem dX14_allowedOf_18 : decode cX14_allowedOf 18 = .ok (.aload_n 0, 1) := by decide +kernel
theorem dX14_allowedOf_19 : decode cX14_allowedOf 19 = .ok (.getfield 63, 3) := by decide +kernel
theorem dX14_allowedOf_22 : decode cX14_allowedOf 22 = .ok (.iload_n 2, 1) := by decide +kernel
theorem dX14_allowedOf_23 : decode cX14_allowedOf 23 = .ok (.aload_n 0, 1) := by decide +kernel
theorem dX14_allowedOf_24 : decode cX14_allowedOf 24 = .ok (.getfield 72, 3) := by decide +kernel
theorem dX14_allowedOf_27 : decode cX14_allowedOf 27 = .ok (.iload_n 2, 1) := by decide +kernel
theorem dX14_allowedOf_28 : decode cX14_allowedOf 28 = .ok (.iaload, 1) := by decide +kernel
theorem dX14_allowedOf_29 : decode cX14_allowedOf 29 = .ok (.iastore, 1) := by decide +kernel
theorem dX14_allowedOf_30 : decode cX14_allowedOf 30 = .ok (.iinc 2 1, 3) := by decide +kernel
theorem dX14_allowedOf_33 : decode cX14_allowedOf 33 = .ok (.goto (-21), 3) := by decide +kernel
theorem dX14_allowedOf_36 : decode cX14_allowedOf 36 = .ok (.iconst 0, 1) := by decide +kernel
theorem dX14_allowedOf_37 : decode cX14_allowedOf 37 = .ok (.istore_n 2, 1) := by decide +kernel
theorem dX14_allowedOf_38 : decode cX14_allowedOf 38 = .ok (.iconst 0, 1) := by decide +kernel
theorem dX14_allowedOf_39 : decode cX14_allowedOf 39 = .ok (.istore_n 3, 1) := by decide +kernel
theorem dX14_allowedOf_40 : decode cX14_allowedOf 40 = .ok (.iload_n 3, 1) := by decide +kernel
theorem dX14_allowedOf_41 : decode cX14_allowedOf 41 = .ok (.aload_n 0, 1) := by decide +kernel
theorem dX14_allowedOf_42 : decode cX14_allowedOf 42 = .ok (.getfield 382, 3) := by decide +kernel
theorem dX14_allowedOf_45 : decode cX14_allowedOf 45 = .ok (.if_icmp .ge 32, 3) := by decide +kernel
theorem dX14_allowedOf_48 : decode cX14_allowedOf 48 = .ok (.iload_n 2, 1) := by decide +kernel
theorem dX14_allowedOf_49 : decode cX14_allowedOf 49 = .ok (.aload_n 0, 1) := by decide +kernel
theorem dX14_allowedOf_50 : decode cX14_allowedOf 50 = .ok (.iload_n 1, 1) := by decide +kernel
theorem dX14_allowedOf_51 : decode cX14_allowedOf 51 = .ok (.iload_n 3, 1) := by decide +kernel
theorem dX14_allowedOf_52 : decode cX14_allowedOf 52 = .ok (.aload_n 0, 1) := by decide +kernel
theorem dX14_allowedOf_53 : decode cX14_allowedOf 53 = .ok (.getfield 63, 3) := by decide +kernel
theorem dX14_allowedOf_56 : decode cX14_allowedOf 56 = .ok (.invokevirtual 496, 3) := by decide +kernel
theorem dX14_allowedOf_59 : decode cX14_allowedOf 59 = .ok (.ifCond .eq 9, 3) := by decide +kernel
theorem dX14_allowedOf_62 : decode cX14_allowedOf 62 = .ok (.iconst 1, 1) := by decide +kernel
theorem dX14_allowedOf_63 : decode cX14_allowedOf 63 = .ok (.iload_n 3, 1) := by decide +kernel
theorem dX14_allowedOf_64 : decode cX14_allowedOf 64 = .ok (.ishl, 1) := by decide +kernel
theorem dX14_allowedOf_65 : decode cX14_allowedOf 65 = .ok (.goto 4, 3) := by decide +kernel
theorem dX14_allowedOf_68 : decode cX14_allowedOf 68 = .ok (.iconst 0, 1) := by decide +kernel
theorem dX14_allowedOf_69 : decode cX14_allowedOf 69 = .ok (.ior, 1) := by decide +kernel
theorem dX14_allowedOf_70 : decode cX14_allowedOf 70 = .ok (.istore_n 2, 1) := by decide +kernel
theorem dX14_allowedOf_71 : decode cX14_allowedOf 71 = .ok (.iinc 3 1, 3) := by decide +kernel
theorem dX14_allowedOf_74 : decode cX14_allowedOf 74 = .ok (.goto (-34), 3) := by decide +kernel
theorem dX14_allowedOf_77 : decode cX14_allowedOf 77 = .ok (.iload_n 2, 1) := by decide +kernel
theorem dX14_allowedOf_78 : decode cX14_allowedOf 78 = .ok (.ireturn, 1) := by decide +kernel
def s_X14_allowedOf_69 (k40 : Nat → Int32 → Int32 → Int32 → aH → aO) (l0 : Nat) (l1 : Int32) (l3 : Int32) (s0 : Int32) (s1 : Int32) (h : aH) : aO :=
  k40 l0 l1 (s1 ||| s0) (l3 + 1) h
def s_X14_allowedOf_40_b  (k40 : Nat → Int32 → Int32 → Int32 → aH → aO) (l0 : Nat) (l1 : Int32) (l2 : Int32) (l3 : Int32) (h : aH) : aO :=
  (gI h (.ref l0) 14 21).bind fun x42 => if x42 ≤ l3 then (some (.inl (some (.int l2)), h)) else ((gO h (.ref l0) 14 35).bind fun x53 => kO h l0 14 (cI (s_X14_leadsInto l0 l1 l3 x53 h) fun x56 h56 => if x56 = 0 then (s_X14_allowedOf_69 k40 l0 l1 l3 0 l2 h56) else (s_X14_allowedOf_69 k40 l0 l1 l3 (1 <<< (l3 &&& 31)) l2 h56)))
def s_X14_allowedOf_40  (n : Nat) : Nat → Int32 → Int32 → Int32 → aH → aO := lpF (fun _ _ _ _ _ => none) (s_X14_allowedOf_40_b ) n
def s_X14_allowedOf_12_b  (k12 : Nat → Int32 → Int32 → aH → aO) (l0 : Nat) (l1 : Int32) (l2 : Int32) (h : aH) : aO :=
  if 13 ≤ l2 then (s_X14_allowedOf_40 FU l0 l1 0 0 h) else ((gO h (.ref l0) 14 35).bind fun x19 => (gO h (.ref l0) 14 38).bind fun x24 => (ldI .int h (.ref x24) l2).bind fun x28 => (stI h (.ref x19) l2 x28).bind fun h29 => k12 l0 l1 (l2 + 1) h29)
def s_X14_allowedOf_12  (n : Nat) : Nat → Int32 → Int32 → aH → aO := lpF (fun _ _ _ _ => none) (s_X14_allowedOf_12_b ) n
def s_X14_allowedOf (o : Nat) (a1 : Int32) (h : aH) : aO :=
  kO h o 14 (cI (s_X14_isSafe o a1 h) fun x2 h2 => if x2 = 0 then (some (.inl (some (.int 0)), h2)) else (s_X14_allowedOf_12 FU o a1 0 h2))
section
variable {p : Program} {l : Launch} {e : Env} {s : State} {m : MethodId} {args : Array Value} {below : List Frame} {meth : Method} {c : Code} {D : va_G} {B0 : Nat} {X : Nat → Nat} {ws0 : va_W} {r : aR} {h' : aH} {mc ms : Nat}
theorem t_X14_allowedOf_69 (C : Cx p l s m args meth c B0 X RX14 "allowedOf" cX14_allowedOf 4 (some .int) []) {k40 : Nat → Int32 → Int32 → Int32 → aH → aO} (K40 : ∀ (l0 : Nat) (l1 : Int32) (l2 : Int32) (l3 : Int32) (h : aH), k40 l0 l1 l2 l3 h = some (r, h') → Ev p l e { frames := 2, cells := mc, slots := ms, locals := 43 } s m args below meth c D B0 X ws0 r h' mc ms 4 mc ms 40 [some (.ref l0), some (.int l1), some (.int l2), some (.int l3)] [] h) {l0 : Nat} {l1 : Int32} {l3 : Int32} {s0 : Int32} {s1 : Int32} {h : aH} (hs : s_X14_allowedOf_69 k40 l0 l1 l3 s0 s1 h = some (r, h')) : Ev p l e { frames := 2, cells := mc, slots := ms, locals := 43 } s m args below meth c D B0 X ws0 r h' mc ms 4 mc ms 69 [some (.ref l0), some (.int l1), none, some (.int l3)] [.int s0, .int s1] h := by
  unfold s_X14_allowedOf_69 at hs
  refine ev_ior C dX14_allowedOf_69 ?_
  refine ev_istore_n C (by decide) dX14_allowedOf_70 ?_
  refine ev_iinc C (i := 3) (n := 1) (x := l3) (v := l3 + 1) rfl (congrArg (fun z => l3 + z) (show Int32.ofInt 1 = 1 by decide)) (by decide) dX14_allowedOf_71 ?_
  refine ev_goto C (tgt := 40) (by decide) dX14_allowedOf_74 ?_
  exact (K40 _ _ _ _ _ hs)
theorem t_X14_allowedOf_40_b (C : Cx p l s m args meth c B0 X RX14 "allowedOf" cX14_allowedOf 4 (some .int) [])   {k40 : Nat → Int32 → Int32 → Int32 → aH → aO} (K40 : ∀ (l0 : Nat) (l1 : Int32) (l2 : Int32) (l3 : Int32) (h : aH), k40 l0 l1 l2 l3 h = some (r, h') → Ev p l e { frames := 2, cells := mc, slots := ms, locals := 43 } s m args below meth c D B0 X ws0 r h' mc ms 4 mc ms 40 [some (.ref l0), some (.int l1), some (.int l2), some (.int l3)] [] h) {l0 : Nat} {l1 : Int32} {l2 : Int32} {l3 : Int32} {h : aH} (hs : s_X14_allowedOf_40_b  k40 l0 l1 l2 l3 h = some (r, h')) : Ev p l e { frames := 2, cells := mc, slots := ms, locals := 43 } s m args below meth c D B0 X ws0 r h' mc ms 4 mc ms 40 [some (.ref l0), some (.int l1), some (.int l2), some (.int l3)] [] h := by
  unfold s_X14_allowedOf_40_b at hs
  refine ev_iload_n C rfl dX14_allowedOf_40 ?_
  refine ev_aload_n C (x := .ref l0) rfl trivial dX14_allowedOf_41 ?_
  obtain ⟨x42, e42, hs⟩ := aB hs
  refine ev_get C (ci := 14) (k := 21) rfl wu_14 (by decide) wf_X14_382 (gI_F e42) dX14_allowedOf_42 ?_
  refine ev_icmp_ge C (tgt := 77) (by decide) dX14_allowedOf_45 (fun q45 => ?_) (fun q45 => ?_)
  · replace hs := (if_pos q45).symm.trans hs
    refine ev_iload_n C rfl dX14_allowedOf_77 ?_
    cases hs
    exact ev_iret C rfl rfl (Nat.le_refl _) (Nat.le_refl _) rfl dX14_allowedOf_78
  · replace hs := (if_neg q45).symm.trans hs
    refine ev_iload_n C rfl dX14_allowedOf_48 ?_
    refine ev_aload_n C (x := .ref l0) rfl trivial dX14_allowedOf_49 ?_
    refine ev_iload_n C rfl dX14_allowedOf_50 ?_
    refine ev_iload_n C rfl dX14_allowedOf_51 ?_
    refine ev_aload_n C (x := .ref l0) rfl trivial dX14_allowedOf_52 ?_
    obtain ⟨x53, e53, hs⟩ := aB hs
    refine ev_get C (ci := 14) (k := 35) rfl wu_14 (by decide) wf_X14_63 (gO_F e53) dX14_allowedOf_53 ?_
    obtain ⟨eo56, hs⟩ := kO_at hs
    obtain ⟨x56, h56, e56, hs⟩ := cI_at hs
    refine ev_callV C (T_X14_leadsInto _ _ _ _ _ _ _ e56) (ci := 14) rfl eo56 wc_X14_leadsInto wm_X14_496 wi_X14_leadsInto ws_X14_leadsInto wz_X14 hy_X14_leadsInto ⟨(Nat.le_of_ble_eq_true rfl), (Nat.le_of_ble_eq_true rfl)⟩ ⟨(Nat.le_refl _), (Nat.le_refl _)⟩ (Nat.le_of_ble_eq_true rfl) rfl dX14_allowedOf_56 ?_
    refine ev_if_eq C (tgt := 68) (by decide) dX14_allowedOf_59 (fun q59 => ?_) (fun q59 => ?_)
    · replace hs := (if_pos q59).symm.trans hs
      refine ev_iconst C (v := 0) dX14_allowedOf_68 (by decide) ?_
      exact Ev.keep [true, true, false, true] (t_X14_allowedOf_69 C K40 hs)
    · replace hs := (if_neg q59).symm.trans hs
      refine ev_iconst C (v := 1) dX14_allowedOf_62 (by decide) ?_
      refine ev_iload_n C rfl dX14_allowedOf_63 ?_
      refine ev_ishl C dX14_allowedOf_64 ?_
      refine ev_goto C (tgt := 69) (by decide) dX14_allowedOf_65 ?_
      exact Ev.keep [true, true, false, true] (t_X14_allowedOf_69 C K40 hs)
theorem t_X14_allowedOf_40 (C : Cx p l s m args meth c B0 X RX14 "allowedOf" cX14_allowedOf 4 (some .int) [])   : ∀ (n : Nat) {l0 : Nat} {l1 : Int32} {l2 : Int32} {l3 : Int32} {h : aH} (hs : s_X14_allowedOf_40  n l0 l1 l2 l3 h = some (r, h')), Ev p l e { frames := 2, cells := mc, slots := ms, locals := 43 } s m args below meth c D B0 X ws0 r h' mc ms 4 mc ms 40 [some (.ref l0), some (.int l1), some (.int l2), some (.int l3)] [] h
  | 0, _, _, _, _, _, hs => nomatch hs
  | n + 1, _, _, _, _, _, hs => t_X14_allowedOf_40_b C  (k40 := s_X14_allowedOf_40  n) (fun _ _ _ _ _ hs => t_X14_allowedOf_40 C  n hs) hs
theorem t_X14_allowedOf_12_b (C : Cx p l s m args meth c B0 X RX14 "allowedOf" cX14_allowedOf 4 (some .int) [])   {k12 : Nat → Int32 → Int32 → aH → aO} (K12 : ∀ (l0 : Nat) (l1 : Int32) (l2 : Int32) (h : aH), k12 l0 l1 l2 h = some (r, h') → Ev p l e { frames := 2, cells := mc, slots := ms, locals := 43 } s m args below meth c D B0 X ws0 r h' mc ms 4 mc ms 12 [some (.ref l0), some (.int l1), some (.int l2), none] [] h) {l0 : Nat} {l1 : Int32} {l2 : Int32} {h : aH} (hs : s_X14_allowedOf_12_b  k12 l0 l1 l2 h = some (r, h')) : Ev p l e { frames := 2, cells := mc, slots := ms, locals := 43 } s m args below meth c D B0 X ws0 r h' mc ms 4 mc ms 12 [some (.ref l0), some (.int l1), some (.int l2), none] [] h := by
  unfold s_X14_allowedOf_12_b at hs
  refine ev_iload_n C rfl dX14_allowedOf_12 ?_
  refine ev_bipush C (v := 13) dX14_allowedOf_13 (by decide) ?_
  refine ev_icmp_ge C (tgt := 36) (by decide) dX14_allowedOf_15 (fun q15 => ?_) (fun q15 => ?_)
  · replace hs := (if_pos q15).symm.trans hs
    refine ev_iconst C (v := 0) dX14_allowedOf_36 (by decide) ?_
    refine ev_istore_n C (by decide) dX14_allowedOf_37 ?_
    refine ev_iconst C (v := 0) dX14_allowedOf_38 (by decide) ?_
    refine ev_istore_n C (by decide) dX14_allowedOf_39 ?_
    exact (t_X14_allowedOf_40 C  FU hs)
  · replace hs := (if_neg q15).symm.trans hs
    refine ev_aload_n C (x := .ref l0) rfl trivial dX14_allowedOf_18 ?_
    obtain ⟨x19, e19, hs⟩ := aB hs
    refine ev_get C (ci := 14) (k := 35) rfl wu_14 (by decide) wf_X14_63 (gO_F e19) dX14_allowedOf_19 ?_
    refine ev_iload_n C rfl dX14_allowedOf_22 ?_
    refine ev_aload_n C (x := .ref l0) rfl trivial dX14_allowedOf_23 ?_
    obtain ⟨x24, e24, hs⟩ := aB hs
    refine ev_get C (ci := 14) (k := 38) rfl wu_14 (by decide) wf_X14_72 (gO_F e24) dX14_allowedOf_24 ?_
    refine ev_iload_n C rfl dX14_allowedOf_27 ?_
    obtain ⟨x28, e28, hs⟩ := aB hs
    refine ev_iald C e28 dX14_allowedOf_28 ?_
    obtain ⟨h29, e29, hs⟩ := aB hs
    refine ev_iast C e29 dX14_allowedOf_29 ?_
    refine ev_iinc C (i := 2) (n := 1) (x := l2) (v := l2 + 1) rfl (congrArg (fun z => l2 + z) (show Int32.ofInt 1 = 1 by decide)) (by decide) dX14_allowedOf_30 ?_
    refine ev_goto C (tgt := 12) (by decide) dX14_allowedOf_33 ?_
    exact (K12 _ _ _ _ hs)
theorem t_X14_allowedOf_12 (C : Cx p l s m args meth c B0 X RX14 "allowedOf" cX14_allowedOf 4 (some .int) [])   : ∀ (n : Nat) {l0 : Nat} {l1 : Int32} {l2 : Int32} {h : aH} (hs : s_X14_allowedOf_12  n l0 l1 l2 h = some (r, h')), Ev p l e { frames := 2, cells := mc, slots := ms, locals := 43 } s m args below meth c D B0 X ws0 r h' mc ms 4 mc ms 12 [some (.ref l0), some (.int l1), some (.int l2), none] [] h
  | 0, _, _, _, _, hs => nomatch hs
  | n + 1, _, _, _, _, hs => t_X14_allowedOf_12_b C  (k12 := s_X14_allowedOf_12  n) (fun _ _ _ _ hs => t_X14_allowedOf_12 C  n hs) hs
theorem hy_X14_allowedOf : yX14_allowedOf.cls ≠ "java/lang/invoke/MethodHandle" ∧ yX14_allowedOf.cls ≠ "java/lang/invoke/VarHandle" ∧ (parseMethodDescriptor yX14_allowedOf.desc).map (fun d => d.parameters.length) = some 1 := by decide +kernel
theorem T_X14_allowedOf (o : Nat) (a1 : Int32) (h : aH) (r : aR) (h' : aH) (hs : s_X14_allowedOf o a1 h = some (r, h')) : Mt yX14_allowedOf (Cond.code yX14_allowedOf cX14_allowedOf 4 (some .int) :: aTB) 2 43 0 0 [.ref o, .int a1] h r h' := by
  unfold s_X14_allowedOf at hs
  refine Mt_of (k := 2) (by decide) rfl (fun p l e s m args below meth c D B0 X ws0 C => ?_)
  show Ev p l e { frames := 2, cells := 0, slots := 0, locals := 43 } s m args below meth c D B0 X ws0 r h' 0 0 4 0 0 0 [some (.ref o), some (.int a1), none, none] [] h
  refine ev_aload_n C (x := .ref o) rfl trivial dX14_allowedOf_0 ?_
  refine ev_iload_n C rfl dX14_allowedOf_1 ?_
  obtain ⟨eo2, hs⟩ := kO_at hs
  obtain ⟨x2, h2, e2, hs⟩ := cI_at hs
  refine ev_callV C (T_X14_isSafe _ _ _ _ _ e2) (ci := 14) rfl eo2 wc_X14_isSafe wm_X14_537 wi_X14_isSafe ws_X14_isSafe wz_X14 hy_X14_isSafe ⟨(Nat.le_of_ble_eq_true rfl), (Nat.le_of_ble_eq_true rfl)⟩ ⟨(Nat.le_refl _), (Nat.le_refl _)⟩ (Nat.le_of_ble_eq_true rfl) rfl dX14_allowedOf_2 ?_
  refine ev_if_ne C (tgt := 10) (by decide) dX14_allowedOf_5 (fun q5 => ?_) (fun q5 => ?_)
  · replace hs := (if_neg q5).symm.trans hs
    refine ev_iconst C (v := 0) dX14_allowedOf_10 (by decide) ?_
    refine ev_istore_n C (by decide) dX14_allowedOf_11 ?_
    exact (t_X14_allowedOf_12 C  FU hs)
  · replace hs := (if_pos q5).symm.trans hs
    refine ev_iconst C (v := 0) dX14_allowedOf_8 (by decide) ?_
    cases hs
    exact ev_iret C rfl rfl (Nat.le_refl _) (Nat.le_refl _) rfl dX14_allowedOf_9
end
-- X14_allowed
theorem dX14_allowed_0 : decode cX14_allowed 0 = .ok (.aload_n 0, 1) := by decide +kernel
theorem dX14_allowed_1 : decode cX14_allowed 1 = .ok (.iconst 0, 1) := by decide +kernel
theorem dX14_allowed_2 : decode cX14_allowed 2 = .ok (.putfield 154, 3) := by decide +kernel
theorem dX14_allowed_5 : decode cX14_allowed 5 = .ok (.aload_n 0, 1) := by decide +kernel
theorem dX14_allowed_6 : decode cX14_allowed 6 = .ok (.iload_n 1, 1) := by decide +kernel
theorem dX14_allowed_7 : decode cX14_allowed 7 = .ok (.invokevirtual 474, 3) := by decide +kernel
theorem dX14_allowed_10 : decode cX14_allowed 10 = .ok (.ifCond .ne 5, 3) := by decide +kernel
theorem dX14_allowed_13 : decode cX14_allowed 13 = .ok (.iconst (-1), 1) := by decide +kernel
theorem dX14_allowed_14 : decode cX14_allowed 14 = .ok (.ireturn, 1) := by decide +kernel
theorem dX14_allowed_15 : decode cX14_allowed 15 = .ok (.aload_n 0, 1) := by decide +kernel
theorem dX14_allowed_16 : decode cX14_allowed 16 = .ok (.invokevirtual 534, 3) := by decide +kernel
theorem dX14_allowed_19 : decode cX14_allowed 19 = .ok (.aload_n 0, 1) := by decide +kernel
theorem dX14_allowed_20 : decode cX14_allowed 20 = .ok (.iload_n 1, 1) := by decide +kernel
theorem dX14_allowed_21 : decode cX14_allowed 21 = .ok (.invokevirtual 540, 3) := by decide +kernel
theorem dX14_allowed_24 : decode cX14_allowed 24 = .ok (.ireturn, 1) := by decide +kernel
def s_X14_allowed (o : Nat) (a1 : Int32) (h : aH) : aO :=
  (pF h (.ref o) 14 0 (.int 0)).bind fun h2 => kO h2 o 14 (cI (s_X14_isCell o a1 h2) fun x7 h7 => if x7 = 0 then (some (.inl (some (.int (-1))), h7)) else (kO h7 o 14 (cN (s_X14_finds o h7) fun h16 => kO h16 o 14 (cI (s_X14_allowedOf o a1 h16) fun x21 h21 => some (.inl (some (.int x21)), h21)))))
section
variable {p : Program} {l : Launch} {e : Env} {s : State} {m : MethodId} {args : Array Value} {below : List Frame} {meth : Method} {c : Code} {D : va_G} {B0 : Nat} {X : Nat → Nat} {ws0 : va_W} {r : aR} {h' : aH} {mc ms : Nat}
theorem hy_X14_allowed : yX14_allowed.cls ≠ "java/lang/invoke/MethodHandle" ∧ yX14_allowed.cls ≠ "java/lang/invoke/VarHandle" ∧ (parseMethodDescriptor yX14_allowed.desc).map (fun d => d.parameters.length) = some 1 := by decide +kernel
theorem T_X14_allowed (o : Nat) (a1 : Int32) (h : aH) (r : aR) (h' : aH) (hs : s_X14_allowed o a1 h = some (r, h')) : Mt yX14_allowed (Cond.code yX14_allowed cX14_allowed 2 (some .int) :: aTB) 7 174 0 0 [.ref o, .int a1] h r h' := by
  unfold s_X14_allowed at hs
  refine Mt_of (k := 0) (by decide) rfl (fun p l e s m args below meth c D B0 X ws0 C => ?_)
  show Ev p l e { frames := 7, cells := 0, slots := 0, locals := 174 } s m args below meth c D B0 X ws0 r h' 0 0 2 0 0 0 [some (.ref o), some (.int a1)] [] h
  refine ev_aload_n C (x := .ref o) rfl trivial dX14_allowed_0 ?_
  refine ev_iconst C (v := 0) dX14_allowed_1 (by decide) ?_
  obtain ⟨h2, e2, hs⟩ := aB hs
  refine ev_put C (ci := 14) (k := 0) rfl wu_14 (by decide) tyX14 tyX14_ok nmX14 wf_X14_154 rfl trivial e2 dX14_allowed_2 ?_
  refine ev_aload_n C (x := .ref o) rfl trivial dX14_allowed_5 ?_
  refine ev_iload_n C rfl dX14_allowed_6 ?_
  obtain ⟨eo7, hs⟩ := kO_at hs
  obtain ⟨x7, h7, e7, hs⟩ := cI_at hs
  refine ev_callV C (T_X14_isCell _ _ _ _ _ e7) (ci := 14) rfl eo7 wc_X14_isCell wm_X14_474 wi_X14_isCell ws_X14_isCell wz_X14 hy_X14_isCell ⟨(Nat.le_of_ble_eq_true rfl), (Nat.le_of_ble_eq_true rfl)⟩ ⟨(Nat.le_refl _), (Nat.le_refl _)⟩ (Nat.le_of_ble_eq_true rfl) rfl dX14_allowed_7 ?_
  refine ev_if_ne C (tgt := 15) (by decide) dX14_allowed_10 (fun q10 => ?_) (fun q10 => ?_)
  · replace hs := (if_neg q10).symm.trans hs
    refine ev_aload_n C (x := .ref o) rfl trivial dX14_allowed_15 ?_
    obtain ⟨eo16, hs⟩ := kO_at hs
    obtain ⟨h16, e16, hs⟩ := cN_at hs
    refine ev_callV C (T_X14_finds _ _ _ _ e16) (ci := 14) rfl eo16 wc_X14_finds wm_X14_534 wi_X14_finds ws_X14_finds wz_X14 hy_X14_finds ⟨(Nat.le_of_ble_eq_true rfl), (Nat.le_of_ble_eq_true rfl)⟩ ⟨(Nat.le_refl _), (Nat.le_refl _)⟩ (Nat.le_of_ble_eq_true rfl) rfl dX14_allowed_16 ?_
    refine ev_aload_n C (x := .ref o) rfl trivial dX14_allowed_19 ?_
    refine ev_iload_n C rfl dX14_allowed_20 ?_
    obtain ⟨eo21, hs⟩ := kO_at hs
    obtain ⟨x21, h21, e21, hs⟩ := cI_at hs
    refine ev_callV C (T_X14_allowedOf _ _ _ _ _ e21) (ci := 14) rfl eo21 wc_X14_allowedOf wm_X14_540 wi_X14_allowedOf ws_X14_allowedOf wz_X14 hy_X14_allowedOf ⟨(Nat.le_of_ble_eq_true rfl), (Nat.le_of_ble_eq_true rfl)⟩ ⟨(Nat.le_refl _), (Nat.le_refl _)⟩ (Nat.le_of_ble_eq_true rfl) rfl dX14_allowed_21 ?_
    cases hs
    exact ev_iret C rfl rfl (Nat.le_refl _) (Nat.le_refl _) rfl dX14_allowed_24
  · replace hs := (if_pos q10).symm.trans hs
    refine ev_iconst C (v := (-1)) dX14_allowed_13 (by decide) ?_
    cases hs
    exact ev_iret C rfl rfl (Nat.le_refl _) (Nat.le_refl _) rfl dX14_allowed_14
end
-- X14_ticks
theorem dX14_ticks_0 : decode cX14_ticks 0 = .ok (.aload_n 0, 1) := by decide +kernel
theorem dX14_ticks_1 : decode cX14_ticks 1 = .ok (.iconst 0, 1) := by decide +kernel
theorem dX14_ticks_2 : decode cX14_ticks 2 = .ok (.putfield 154, 3) := by decide +kernel
theorem dX14_ticks_5 : decode cX14_ticks 5 = .ok (.aload_n 0, 1) := by decide +kernel
theorem dX14_ticks_6 : decode cX14_ticks 6 = .ok (.iload_n 1, 1) := by decide +kernel
theorem dX14_ticks_7 : decode cX14_ticks 7 = .ok (.invokevirtual 474, 3) := by decide +kernel
theorem dX14_ticks_10 : decode cX14_ticks 10 = .ok (.ifCond .ne 5, 3) := by decide +kernel
theorem dX14_ticks_13 : decode cX14_ticks 13 = .ok (.iconst (-1), 1) := by decide +kernel
theorem dX14_ticks_14 : decode cX14_ticks 14 = .ok (.ireturn, 1) := by decide +kernel
theorem dX14_ticks_15 : decode cX14_ticks 15 = .ok (.aload_n 0, 1) := by decide +kernel
theorem dX14_ticks_16 : decode cX14_ticks 16 = .ok (.invokevirtual 534, 3) := by decide +kernel
theorem dX14_ticks_19 : decode cX14_ticks 19 = .ok (.aload_n 0, 1) := by decide +kernel
theorem dX14_ticks_20 : decode cX14_ticks 20 = .ok (.getfield 75, 3) := by decide +kernel
theorem dX14_ticks_23 : decode cX14_ticks 23 = .ok (.iload_n 1, 1) := by decide +kernel
theorem dX14_ticks_24 : decode cX14_ticks 24 = .ok (.iaload, 1) := by decide +kernel
theorem dX14_ticks_25 : decode cX14_ticks 25 = .ok (.ireturn, 1) := by decide +kernel
def s_X14_ticks (o : Nat) (a1 : Int32) (h : aH) : aO :=
  (pF h (.ref o) 14 0 (.int 0)).bind fun h2 => kO h2 o 14 (cI (s_X14_isCell o a1 h2) fun x7 h7 => if x7 = 0 then (some (.inl (some (.int (-1))), h7)) else (kO h7 o 14 (cN (s_X14_finds o h7) fun h16 => (gO h16 (.ref o) 14 39).bind fun x20 => (ldI .int h16 (.ref x20) a1).bind fun x24 => some (.inl (some (.int x24)), h16))))
section
variable {p : Program} {l : Launch} {e : Env} {s : State} {m : MethodId} {args : Array Value} {below : List Frame} {meth : Method} {c : Code} {D : va_G} {B0 : Nat} {X : Nat → Nat} {ws0 : va_W} {r : aR} {h' : aH} {mc ms : Nat}
theorem hy_X14_ticks : yX14_ticks.cls ≠ "java/lang/invoke/MethodHandle" ∧ yX14_ticks.cls ≠ "java/lang/invoke/VarHandle" ∧ (parseMethodDescriptor yX14_ticks.desc).map (fun d => d.parameters.length) = some 1 := by decide +kernel
theorem T_X14_ticks (o : Nat) (a1 : Int32) (h : aH) (r : aR) (h' : aH) (hs : s_X14_ticks o a1 h = some (r, h')) : Mt yX14_ticks (Cond.code yX14_ticks cX14_ticks 2 (some .int) :: aTB) 7 174 0 0 [.ref o, .int a1] h r h' := by
  unfold s_X14_ticks at hs
  refine Mt_of (k := 0) (by decide) rfl (fun p l e s m args below meth c D B0 X ws0 C => ?_)
  show Ev p l e { frames := 7, cells := 0, slots := 0, locals := 174 } s m args below meth c D B0 X ws0 r h' 0 0 2 0 0 0 [some (.ref o), some (.int a1)] [] h
  refine ev_aload_n C (x := .ref o) rfl trivial dX14_ticks_0 ?_
  refine ev_iconst C (v := 0) dX14_ticks_1 (by decide) ?_
  obtain ⟨h2, e2, hs⟩ := aB hs
  refine ev_put C (ci := 14) (k := 0) rfl wu_14 (by decide) tyX14 tyX14_ok nmX14 wf_X14_154 rfl trivial e2 dX14_ticks_2 ?_
  refine ev_aload_n C (x := .ref o) rfl trivial dX14_ticks_5 ?_
  refine ev_iload_n C rfl dX14_ticks_6 ?_
  obtain ⟨eo7, hs⟩ := kO_at hs
  obtain ⟨x7, h7, e7, hs⟩ := cI_at hs
  refine ev_callV C (T_X14_isCell _ _ _ _ _ e7) (ci := 14) rfl eo7 wc_X14_isCell wm_X14_474 wi_X14_isCell ws_X14_isCell wz_X14 hy_X14_isCell ⟨(Nat.le_of_ble_eq_true rfl), (Nat.le_of_ble_eq_true rfl)⟩ ⟨(Nat.le_refl _), (Nat.le_refl _)⟩ (Nat.le_of_ble_eq_true rfl) rfl dX14_ticks_7 ?_
  refine ev_if_ne C (tgt := 15) (by decide) dX14_ticks_10 (fun q10 => ?_) (fun q10 => ?_)
  · replace hs := (if_neg q10).symm.trans hs
    refine ev_aload_n C (x := .ref o) rfl trivial dX14_ticks_15 ?_
    obtain ⟨eo16, hs⟩ := kO_at hs
    obtain ⟨h16, e16, hs⟩ := cN_at hs
    refine ev_callV C (T_X14_finds _ _ _ _ e16) (ci := 14) rfl eo16 wc_X14_finds wm_X14_534 wi_X14_finds ws_X14_finds wz_X14 hy_X14_finds ⟨(Nat.le_of_ble_eq_true rfl), (Nat.le_of_ble_eq_true rfl)⟩ ⟨(Nat.le_refl _), (Nat.le_refl _)⟩ (Nat.le_of_ble_eq_true rfl) rfl dX14_ticks_16 ?_
    refine ev_aload_n C (x := .ref o) rfl trivial dX14_ticks_19 ?_
    obtain ⟨x20, e20, hs⟩ := aB hs
    refine ev_get C (ci := 14) (k := 39) rfl wu_14 (by decide) wf_X14_75 (gO_F e20) dX14_ticks_20 ?_
    refine ev_iload_n C rfl dX14_ticks_23 ?_
    obtain ⟨x24, e24, hs⟩ := aB hs
    refine ev_iald C e24 dX14_ticks_24 ?_
    cases hs
    exact ev_iret C rfl rfl (Nat.le_refl _) (Nat.le_refl _) rfl dX14_ticks_25
  · replace hs := (if_pos q10).symm.trans hs
    refine ev_iconst C (v := (-1)) dX14_ticks_13 (by decide) ?_
    cases hs
    exact ev_iret C rfl rfl (Nat.le_refl _) (Nat.le_refl _) rfl dX14_ticks_14
end
-- X14_law
theorem dX14_law_0 : decode cX14_law 0 = .ok (.aload_n 0, 1) := by decide +kernel
theorem dX14_law_1 : decode cX14_law 1 = .ok (.iconst 0, 1) := by decide +kernel
theorem dX14_law_2 : decode cX14_law 2 = .ok (.putfield 154, 3) := by decide +kernel
theorem dX14_law_5 : decode cX14_law 5 = .ok (.aload_n 0, 1) := by decide +kernel
theorem dX14_law_6 : decode cX14_law 6 = .ok (.iload_n 1, 1) := by decide +kernel
theorem dX14_law_7 : decode cX14_law 7 = .ok (.invokevirtual 474, 3) := by decide +kernel
theorem dX14_law_10 : decode cX14_law 10 = .ok (.ifCond .ne 5, 3) := by decide +kernel
theorem dX14_law_13 : decode cX14_law 13 = .ok (.iconst (-1), 1) := by decide +kernel
theorem dX14_law_14 : decode cX14_law 14 = .ok (.ireturn, 1) := by decide +kernel
theorem dX14_law_15 : decode cX14_law 15 = .ok (.aload_n 0, 1) := by decide +kernel
theorem dX14_law_16 : decode cX14_law 16 = .ok (.invokevirtual 534, 3) := by decide +kernel
theorem dX14_law_19 : decode cX14_law 19 = .ok (.aload_n 0, 1) := by decide +kernel
theorem dX14_law_20 : decode cX14_law 20 = .ok (.getfield 78, 3) := by decide +kernel
theorem dX14_law_23 : decode cX14_law 23 = .ok (.iload_n 1, 1) := by decide +kernel
theorem dX14_law_24 : decode cX14_law 24 = .ok (.iaload, 1) := by decide +kernel
theorem dX14_law_25 : decode cX14_law 25 = .ok (.ireturn, 1) := by decide +kernel
def s_X14_law (o : Nat) (a1 : Int32) (h : aH) : aO :=
  (pF h (.ref o) 14 0 (.int 0)).bind fun h2 => kO h2 o 14 (cI (s_X14_isCell o a1 h2) fun x7 h7 => if x7 = 0 then (some (.inl (some (.int (-1))), h7)) else (kO h7 o 14 (cN (s_X14_finds o h7) fun h16 => (gO h16 (.ref o) 14 40).bind fun x20 => (ldI .int h16 (.ref x20) a1).bind fun x24 => some (.inl (some (.int x24)), h16))))
section
variable {p : Program} {l : Launch} {e : Env} {s : State} {m : MethodId} {args : Array Value} {below : List Frame} {meth : Method} {c : Code} {D : va_G} {B0 : Nat} {X : Nat → Nat} {ws0 : va_W} {r : aR} {h' : aH} {mc ms : Nat}
theorem hy_X14_law : yX14_law.cls ≠ "java/lang/invoke/MethodHandle" ∧ yX14_law.cls ≠ "java/lang/invoke/VarHandle" ∧ (parseMethodDescriptor yX14_law.desc).map (fun d => d.parameters.length) = some 1 := by decide +kernel
theorem T_X14_law (o : Nat) (a1 : Int32) (h : aH) (r : aR) (h' : aH) (hs : s_X14_law o a1 h = some (r, h')) : Mt yX14_law (Cond.code yX14_law cX14_law 2 (some .int) :: aTB) 7 174 0 0 [.ref o, .int a1] h r h' := by
  unfold s_X14_law at hs
  refine Mt_of (k := 0) (by decide) rfl (fun p l e s m args below meth c D B0 X ws0 C => ?_)
  show Ev p l e { frames := 7, cells := 0, slots := 0, locals := 174 } s m args below meth c D B0 X ws0 r h' 0 0 2 0 0 0 [some (.ref o), some (.int a1)] [] h
  refine ev_aload_n C (x := .ref o) rfl trivial dX14_law_0 ?_
  refine ev_iconst C (v := 0) dX14_law_1 (by decide) ?_
  obtain ⟨h2, e2, hs⟩ := aB hs
  refine ev_put C (ci := 14) (k := 0) rfl wu_14 (by decide) tyX14 tyX14_ok nmX14 wf_X14_154 rfl trivial e2 dX14_law_2 ?_
  refine ev_aload_n C (x := .ref o) rfl trivial dX14_law_5 ?_
  refine ev_iload_n C rfl dX14_law_6 ?_
  obtain ⟨eo7, hs⟩ := kO_at hs
  obtain ⟨x7, h7, e7, hs⟩ := cI_at hs
  refine ev_callV C (T_X14_isCell _ _ _ _ _ e7) (ci := 14) rfl eo7 wc_X14_isCell wm_X14_474 wi_X14_isCell ws_X14_isCell wz_X14 hy_X14_isCell ⟨(Nat.le_of_ble_eq_true rfl), (Nat.le_of_ble_eq_true rfl)⟩ ⟨(Nat.le_refl _), (Nat.le_refl _)⟩ (Nat.le_of_ble_eq_true rfl) rfl dX14_law_7 ?_
  refine ev_if_ne C (tgt := 15) (by decide) dX14_law_10 (fun q10 => ?_) (fun q10 => ?_)
  · replace hs := (if_neg q10).symm.trans hs
    refine ev_aload_n C (x := .ref o) rfl trivial dX14_law_15 ?_
    obtain ⟨eo16, hs⟩ := kO_at hs
    obtain ⟨h16, e16, hs⟩ := cN_at hs
    refine ev_callV C (T_X14_finds _ _ _ _ e16) (ci := 14) rfl eo16 wc_X14_finds wm_X14_534 wi_X14_finds ws_X14_finds wz_X14 hy_X14_finds ⟨(Nat.le_of_ble_eq_true rfl), (Nat.le_of_ble_eq_true rfl)⟩ ⟨(Nat.le_refl _), (Nat.le_refl _)⟩ (Nat.le_of_ble_eq_true rfl) rfl dX14_law_16 ?_
    refine ev_aload_n C (x := .ref o) rfl trivial dX14_law_19 ?_
    obtain ⟨x20, e20, hs⟩ := aB hs
    refine ev_get C (ci := 14) (k := 40) rfl wu_14 (by decide) wf_X14_78 (gO_F e20) dX14_law_20 ?_
    refine ev_iload_n C rfl dX14_law_23 ?_
    obtain ⟨x24, e24, hs⟩ := aB hs
    refine ev_iald C e24 dX14_law_24 ?_
    cases hs
    exact ev_iret C rfl rfl (Nat.le_refl _) (Nat.le_refl _) rfl dX14_law_25
  · replace hs := (if_pos q10).symm.trans hs
    refine ev_iconst C (v := (-1)) dX14_law_13 (by decide) ?_
    cases hs
    exact ev_iret C rfl rfl (Nat.le_refl _) (Nat.le_refl _) rfl dX14_law_14
end
-- X14_best
theorem dX14_best_0 : decode cX14_best 0 = .ok (.aload_n 0, 1) := by decide +kernel
theorem dX14_best_1 : decode cX14_best 1 = .ok (.iconst 0, 1) := by decide +kernel
theorem dX14_best_2 : decode cX14_best 2 = .ok (.putfield 154, 3) := by decide +kernel
theorem dX14_best_5 : decode cX14_best 5 = .ok (.aload_n 0, 1) := by decide +kernel
theorem dX14_best_6 : decode cX14_best 6 = .ok (.iload_n 1, 1) := by decide +kernel
theorem dX14_best_7 : decode cX14_best 7 = .ok (.invokevirtual 474, 3) := by decide +kernel
theorem dX14_best_10 : decode cX14_best 10 = .ok (.ifCond .ne 9, 3) := by decide +kernel
theorem dX14_best_13 : decode cX14_best 13 = .ok (.aload_n 0, 1) := by decide +kernel
theorem dX14_best_14 : decode cX14_best 14 = .ok (.iconst 1, 1) := by decide +kernel
theorem dX14_best_15 : decode cX14_best 15 = .ok (.invokevirtual 360, 3) := by decide +kernel
theorem dX14_best_18 : decode cX14_best 18 = .ok (.ireturn, 1) := by decide +kernel
theorem dX14_best_19 : decode cX14_best 19 = .ok (.iload_n 2, 1) := by decide +kernel
theorem dX14_best_20 : decode cX14_best 20 = .ok (.iconst 0, 1) := by decide +kernel
theorem dX14_best_21 : decode cX14_best 21 = .ok (.bipush 20, 2) := by decide +kernel
theorem dX14_best_23 : decode cX14_best 23 = .ok (.invokestatic 313, 3) := by decide +kernel
theorem dX14_best_26 : decode cX14_best 26 = .ok (.ifCond .ne 9, 3) := by decide +kernel
theorem dX14_best_29 : decode cX14_best 29 = .ok (.aload_n 0, 1) := by decide +kernel
theorem dX14_best_30 : decode cX14_best 30 = .ok (.iconst 2, 1) := by decide +kernel
theorem dX14_best_31 : decode cX14_best 31 = .ok (.invokevirtual 360, 3) := by decide +kernel
theorem dX14_best_34 : decode cX14_best 34 = .ok (.ireturn, 1) := by decide +kernel
theorem dX14_best_35 : decode cX14_best 35 = .ok (.aload_n 0, 1) := by decide +kernel
theorem dX14_best_36 : decode cX14_best 36 = .ok (.invokevirtual 534, 3) := by decide +kernel
theorem dX14_best_39 : decode cX14_best 39 = .ok (.aload_n 0, 1) := by decide +kernel
theorem dX14_best_40 : decode cX14_best 40 = .ok (.aload_n 0, 1) := by decide +kernel
theorem dX14_best_41 : decode cX14_best 41 = .ok (.getfield 81, 3) := by decide +kernel
theorem dX14_best_44 : decode cX14_best 44 = .ok (.sipush 400, 3) := by decide +kernel
theorem dX14_best_47 : decode cX14_best 47 = .ok (.iload_n 2, 1) := by decide +kernel
theorem dX14_best_48 : decode cX14_best 48 = .ok (.imul, 1) := by decide +kernel
theorem dX14_best_49 : decode cX14_best 49 = .ok (.iload_n 1, 1) := by decide +kernel
theorem dX14_best_50 : decode cX14_best 50 = .ok (.iadd, 1) := by decide +kernel
theorem dX14_best_51 : decode cX14_best 51 = .ok (.iaload, 1) := by decide +kernel
theorem dX14_best_52 : decode cX14_best 52 = .ok (.invokevirtual 413, 3) := by decide +kernel
theorem dX14_best_55 : decode cX14_best 55 = .ok (.ireturn, 1) := by decide +kernel
def s_X14_best (o : Nat) (a1 : Int32) (a2 : Int32) (h : aH) : aO :=
  (pF h (.ref o) 14 0 (.int 0)).bind fun h2 => kO h2 o 14 (cI (s_X14_isCell o a1 h2) fun x7 h7 => if x7 = 0 then (kO h7 o 14 (cI (s_X14_refused o 1 h7) fun x15 h15 => some (.inl (some (.int x15)), h15))) else (cI (s_X14_in a2 0 20 h7) fun x23 h23 => if x23 = 0 then (kO h23 o 14 (cI (s_X14_refused o 2 h23) fun x31 h31 => some (.inl (some (.int x31)), h31))) else (kO h23 o 14 (cN (s_X14_finds o h23) fun h36 => (gO h36 (.ref o) 14 41).bind fun x41 => (ldI .int h36 (.ref x41) ((400 * a2) + a1)).bind fun x51 => kO h36 o 14 (cI (s_X14_done o x51 h36) fun x52 h52 => some (.inl (some (.int x52)), h52))))))
section
variable {p : Program} {l : Launch} {e : Env} {s : State} {m : MethodId} {args : Array Value} {below : List Frame} {meth : Method} {c : Code} {D : va_G} {B0 : Nat} {X : Nat → Nat} {ws0 : va_W} {r : aR} {h' : aH} {mc ms : Nat}
theorem hy_X14_best : yX14_best.cls ≠ "java/lang/invoke/MethodHandle" ∧ yX14_best.cls ≠ "java/lang/invoke/VarHandle" ∧ (parseMethodDescriptor yX14_best.desc).map (fun d => d.parameters.length) = some 2 := by decide +kernel
theorem T_X14_best (o : Nat) (a1 : Int32) (a2 : Int32) (h : aH) (r : aR) (h' : aH) (hs : s_X14_best o a1 a2 h = some (r, h')) : Mt yX14_best (Cond.code yX14_best cX14_best 3 (some .int) :: aTB) 7 174 0 0 [.ref o, .int a1, .int a2] h r h' := by
  unfold s_X14_best at hs
  refine Mt_of (k := 0) (by decide) rfl (fun p l e s m args below meth c D B0 X ws0 C => ?_)
  show Ev p l e { frames := 7, cells := 0, slots := 0, locals := 174 } s m args below meth c D B0 X ws0 r h' 0 0 3 0 0 0 [some (.ref o), some (.int a1), some (.int a2)] [] h
  refine ev_aload_n C (x := .ref o) rfl trivial dX14_best_0 ?_
  refine ev_iconst C (v := 0) dX14_best_1 (by decide) ?_
  obtain ⟨h2, e2, hs⟩ := aB hs
  refine ev_put C (ci := 14) (k := 0) rfl wu_14 (by decide) tyX14 tyX14_ok nmX14 wf_X14_154 rfl trivial e2 dX14_best_2 ?_
  refine ev_aload_n C (x := .ref o) rfl trivial dX14_best_5 ?_
  refine ev_iload_n C rfl dX14_best_6 ?_
  obtain ⟨eo7, hs⟩ := kO_at hs
  obtain ⟨x7, h7, e7, hs⟩ := cI_at hs
  refine ev_callV C (T_X14_isCell _ _ _ _ _ e7) (ci := 14) rfl eo7 wc_X14_isCell wm_X14_474 wi_X14_isCell ws_X14_isCell wz_X14 hy_X14_isCell ⟨(Nat.le_of_ble_eq_true rfl), (Nat.le_of_ble_eq_true rfl)⟩ ⟨(Nat.le_refl _), (Nat.le_refl _)⟩ (Nat.le_of_ble_eq_true rfl) rfl dX14_best_7 ?_
  refine ev_if_ne C (tgt := 19) (by decide) dX14_best_10 (fun q10 => ?_) (fun q10 => ?_)
  · replace hs := (if_neg q10).symm.trans hs
    refine ev_iload_n C rfl dX14_best_19 ?_
    refine ev_iconst C (v := 0) dX14_best_20 (by decide) ?_
    refine ev_bipush C (v := 20) dX14_best_21 (by decide) ?_
    obtain ⟨x23, h23, e23, hs⟩ := cI_at hs
    refine ev_callS C (T_X14_in _ _ _ _ _ _ e23) wc_X14_in wm_X14_313 wt_X14_in wz_X14 hy_X14_in ⟨(Nat.le_of_ble_eq_true rfl), (Nat.le_of_ble_eq_true rfl)⟩ ⟨(Nat.le_refl _), (Nat.le_refl _)⟩ (Nat.le_of_ble_eq_true rfl) rfl dX14_best_23 ?_
    refine ev_if_ne C (tgt := 35) (by decide) dX14_best_26 (fun q26 => ?_) (fun q26 => ?_)
    · replace hs := (if_neg q26).symm.trans hs
      refine ev_aload_n C (x := .ref o) rfl trivial dX14_best_35 ?_
      obtain ⟨eo36, hs⟩ := kO_at hs
      obtain ⟨h36, e36, hs⟩ := cN_at hs
      refine ev_callV C (T_X14_finds _ _ _ _ e36) (ci := 14) rfl eo36 wc_X14_finds wm_X14_534 wi_X14_finds ws_X14_finds wz_X14 hy_X14_finds ⟨(Nat.le_of_ble_eq_true rfl), (Nat.le_of_ble_eq_true rfl)⟩ ⟨(Nat.le_refl _), (Nat.le_refl _)⟩ (Nat.le_of_ble_eq_true rfl) rfl dX14_best_36 ?_
      refine ev_aload_n C (x := .ref o) rfl trivial dX14_best_39 ?_
      refine ev_aload_n C (x := .ref o) rfl trivial dX14_best_40 ?_
      obtain ⟨x41, e41, hs⟩ := aB hs
      refine ev_get C (ci := 14) (k := 41) rfl wu_14 (by decide) wf_X14_81 (gO_F e41) dX14_best_41 ?_
      refine ev_sipush C (v := 400) dX14_best_44 (by decide) ?_
      refine ev_iload_n C rfl dX14_best_47 ?_
      refine ev_imul C dX14_best_48 ?_
      refine ev_iload_n C rfl dX14_best_49 ?_
      refine ev_iadd C dX14_best_50 ?_
      obtain ⟨x51, e51, hs⟩ := aB hs
      refine ev_iald C e51 dX14_best_51 ?_
      obtain ⟨eo52, hs⟩ := kO_at hs
      obtain ⟨x52, h52, e52, hs⟩ := cI_at hs
      refine ev_callV C (T_X14_done _ _ _ _ _ e52) (ci := 14) rfl eo52 wc_X14_done wm_X14_413 wi_X14_done ws_X14_done wz_X14 hy_X14_done ⟨(Nat.le_of_ble_eq_true rfl), (Nat.le_of_ble_eq_true rfl)⟩ ⟨(Nat.le_refl _), (Nat.le_refl _)⟩ (Nat.le_of_ble_eq_true rfl) rfl dX14_best_52 ?_
      cases hs
      exact ev_iret C rfl rfl (Nat.le_refl _) (Nat.le_refl _) rfl dX14_best_55
    · replace hs := (if_pos q26).symm.trans hs
      refine ev_aload_n C (x := .ref o) rfl trivial dX14_best_29 ?_
      refine ev_iconst C (v := 2) dX14_best_30 (by decide) ?_
      obtain ⟨eo31, hs⟩ := kO_at hs
      obtain ⟨x31, h31, e31, hs⟩ := cI_at hs
      refine ev_callV C (T_X14_refused _ _ _ _ _ e31) (ci := 14) rfl eo31 wc_X14_refused wm_X14_360 wi_X14_refused ws_X14_refused wz_X14 hy_X14_refused ⟨(Nat.le_of_ble_eq_true rfl), (Nat.le_of_ble_eq_true rfl)⟩ ⟨(Nat.le_refl _), (Nat.le_refl _)⟩ (Nat.le_of_ble_eq_true rfl) rfl dX14_best_31 ?_
      cases hs
      exact ev_iret C rfl rfl (Nat.le_refl _) (Nat.le_refl _) rfl dX14_best_34
  · replace hs := (if_pos q10).symm.trans hs
    refine ev_aload_n C (x := .ref o) rfl trivial dX14_best_13 ?_
    refine ev_iconst C (v := 1) dX14_best_14 (by decide) ?_
    obtain ⟨eo15, hs⟩ := kO_at hs
    obtain ⟨x15, h15, e15, hs⟩ := cI_at hs
    refine ev_callV C (T_X14_refused _ _ _ _ _ e15) (ci := 14) rfl eo15 wc_X14_refused wm_X14_360 wi_X14_refused ws_X14_refused wz_X14 hy_X14_refused ⟨(Nat.le_of_ble_eq_true rfl), (Nat.le_of_ble_eq_true rfl)⟩ ⟨(Nat.le_refl _), (Nat.le_refl _)⟩ (Nat.le_of_ble_eq_true rfl) rfl dX14_best_15 ?_
    cases hs
    exact ev_iret C rfl rfl (Nat.le_refl _) (Nat.le_refl _) rfl dX14_best_18
end
-- X14_bestLaw
theorem dX14_bestLaw_0 : decode cX14_bestLaw 0 = .ok (.aload_n 0, 1) := by decide +kernel
theorem dX14_bestLaw_1 : decode cX14_bestLaw 1 = .ok (.iconst 0, 1) := by decide +kernel
theorem dX14_bestLaw_2 : decode cX14_bestLaw 2 = .ok (.putfield 154, 3) := by decide +kernel
theorem dX14_bestLaw_5 : decode cX14_bestLaw 5 = .ok (.aload_n 0, 1) := by decide +kernel
theorem dX14_bestLaw_6 : decode cX14_bestLaw 6 = .ok (.iload_n 1, 1) := by decide +kernel
theorem dX14_bestLaw_7 : decode cX14_bestLaw 7 = .ok (.invokevirtual 474, 3) := by decide +kernel
theorem dX14_bestLaw_10 : decode cX14_bestLaw 10 = .ok (.ifCond .ne 9, 3) := by decide +kernel
theorem dX14_bestLaw_13 : decode cX14_bestLaw 13 = .ok (.aload_n 0, 1) := by decide +kernel
theorem dX14_bestLaw_14 : decode cX14_bestLaw 14 = .ok (.iconst 1, 1) := by decide +kernel
theorem dX14_bestLaw_15 : decode cX14_bestLaw 15 = .ok (.invokevirtual 360, 3) := by decide +kernel
theorem dX14_bestLaw_18 : decode cX14_bestLaw 18 = .ok (.ireturn, 1) := by decide +kernel
theorem dX14_bestLaw_19 : decode cX14_bestLaw 19 = .ok (.iload_n 2, 1) := by decide +kernel
theorem dX14_bestLaw_20 : decode cX14_bestLaw 20 = .ok (.iconst 1, 1) := by decide +kernel
theorem dX14_bestLaw_21 : decode cX14_bestLaw 21 = .ok (.bipush 20, 2) := by decide +kernel
theorem dX14_bestLaw_23 : decode cX14_bestLaw 23 = .ok (.invokestatic 313, 3) := by decide +kernel
theorem dX14_bestLaw_26 : decode cX14_bestLaw 26 = .ok (.ifCond .ne 9, 3) := by decide +kernel
theorem dX14_bestLaw_29 : decode cX14_bestLaw 29 = .ok (.aload_n 0, 1) := by decide +kernel
theorem dX14_bestLaw_30 : decode cX14_bestLaw 30 = .ok (.iconst 2, 1) := by decide +kernel
theorem dX14_bestLaw_31 : decode cX14_bestLaw 31 = .ok (.invokevirtual 360, 3) := by decide +kernel
theorem dX14_bestLaw_34 : decode cX14_bestLaw 34 = .ok (.ireturn, 1) := by decide +kernel
theorem dX14_bestLaw_35 : decode cX14_bestLaw 35 = .ok (.aload_n 0, 1) := by decide +kernel
theorem dX14_bestLaw_36 : decode cX14_bestLaw 36 = .ok (.invokevirtual 534, 3) := by decide +kernel
theorem dX14_bestLaw_39 : decode cX14_bestLaw 39 = .ok (.aload_n 0, 1) := by decide +kernel
theorem dX14_bestLaw_40 : decode cX14_bestLaw 40 = .ok (.aload_n 0, 1) := by decide +kernel
theorem dX14_bestLaw_41 : decode cX14_bestLaw 41 = .ok (.getfield 84, 3) := by decide +kernel
theorem dX14_bestLaw_44 : decode cX14_bestLaw 44 = .ok (.sipush 400, 3) := by decide +kernel
theorem dX14_bestLaw_47 : decode cX14_bestLaw 47 = .ok (.iload_n 2, 1) := by decide +kernel
theorem dX14_bestLaw_48 : decode cX14_bestLaw 48 = .ok (.imul, 1) := by decide +kernel
theorem dX14_bestLaw_49 : decode cX14_bestLaw 49 = .ok (.iload_n 1, 1) := by decide +kernel
theorem dX14_bestLaw_50 : decode cX14_bestLaw 50 = .ok (.iadd, 1) := by decide +kernel
theorem dX14_bestLaw_51 : decode cX14_bestLaw 51 = .ok (.iaload, 1) := by decide +kernel
theorem dX14_bestLaw_52 : decode cX14_bestLaw 52 = .ok (.invokevirtual 413, 3) := by decide +kernel
theorem dX14_bestLaw_55 : decode cX14_bestLaw 55 = .ok (.ireturn, 1) := by decide +kernel
def s_X14_bestLaw (o : Nat) (a1 : Int32) (a2 : Int32) (h : aH) : aO :=
  (pF h (.ref o) 14 0 (.int 0)).bind fun h2 => kO h2 o 14 (cI (s_X14_isCell o a1 h2) fun x7 h7 => if x7 = 0 then (kO h7 o 14 (cI (s_X14_refused o 1 h7) fun x15 h15 => some (.inl (some (.int x15)), h15))) else (cI (s_X14_in a2 1 20 h7) fun x23 h23 => if x23 = 0 then (kO h23 o 14 (cI (s_X14_refused o 2 h23) fun x31 h31 => some (.inl (some (.int x31)), h31))) else (kO h23 o 14 (cN (s_X14_finds o h23) fun h36 => (gO h36 (.ref o) 14 42).bind fun x41 => (ldI .int h36 (.ref x41) ((400 * a2) + a1)).bind fun x51 => kO h36 o 14 (cI (s_X14_done o x51 h36) fun x52 h52 => some (.inl (some (.int x52)), h52))))))
section
variable {p : Program} {l : Launch} {e : Env} {s : State} {m : MethodId} {args : Array Value} {below : List Frame} {meth : Method} {c : Code} {D : va_G} {B0 : Nat} {X : Nat → Nat} {ws0 : va_W} {r : aR} {h' : aH} {mc ms : Nat}
theorem hy_X14_bestLaw : yX14_bestLaw.cls ≠ "java/lang/invoke/MethodHandle" ∧ yX14_bestLaw.cls ≠ "java/lang/invoke/VarHandle" ∧ (parseMethodDescriptor yX14_bestLaw.desc).map (fun d => d.parameters.length) = some 2 := by decide +kernel
theorem T_X14_bestLaw (o : Nat) (a1 : Int32) (a2 : Int32) (h : aH) (r : aR) (h' : aH) (hs : s_X14_bestLaw o a1 a2 h = some (r, h')) : Mt yX14_bestLaw (Cond.code yX14_bestLaw cX14_bestLaw 3 (some .int) :: aTB) 7 174 0 0 [.ref o, .int a1, .int a2] h r h' := by
  unfold s_X14_bestLaw at hs
  refine Mt_of (k := 0) (by decide) rfl (fun p l e s m args below meth c D B0 X ws0 C => ?_)
  show Ev p l e { frames := 7, cells := 0, slots := 0, locals := 174 } s m args below meth c D B0 X ws0 r h' 0 0 3 0 0 0 [some (.ref o), some (.int a1), some (.int a2)] [] h
  refine ev_aload_n C (x := .ref o) rfl trivial dX14_bestLaw_0 ?_
  refine ev_iconst C (v := 0) dX14_bestLaw_1 (by decide) ?_
  obtain ⟨h2, e2, hs⟩ := aB hs
  refine ev_put C (ci := 14) (k := 0) rfl wu_14 (by decide) tyX14 tyX14_ok nmX14 wf_X14_154 rfl trivial e2 dX14_bestLaw_2 ?_
  refine ev_aload_n C (x := .ref o) rfl trivial dX14_bestLaw_5 ?_
  refine ev_iload_n C rfl dX14_bestLaw_6 ?_
  obtain ⟨eo7, hs⟩ := kO_at hs
  obtain ⟨x7, h7, e7, hs⟩ := cI_at hs
  refine ev_callV C (T_X14_isCell _ _ _ _ _ e7) (ci := 14) rfl eo7 wc_X14_isCell wm_X14_474 wi_X14_isCell ws_X14_isCell wz_X14 hy_X14_isCell ⟨(Nat.le_of_ble_eq_true rfl), (Nat.le_of_ble_eq_true rfl)⟩ ⟨(Nat.le_refl _), (Nat.le_refl _)⟩ (Nat.le_of_ble_eq_true rfl) rfl dX14_bestLaw_7 ?_
  refine ev_if_ne C (tgt := 19) (by decide) dX14_bestLaw_10 (fun q10 => ?_) (fun q10 => ?_)
  · replace hs := (if_neg q10).symm.trans hs
    refine ev_iload_n C rfl dX14_bestLaw_19 ?_
    refine ev_iconst C (v := 1) dX14_bestLaw_20 (by decide) ?_
    refine ev_bipush C (v := 20) dX14_bestLaw_21 (by decide) ?_
    obtain ⟨x23, h23, e23, hs⟩ := cI_at hs
    refine ev_callS C (T_X14_in _ _ _ _ _ _ e23) wc_X14_in wm_X14_313 wt_X14_in wz_X14 hy_X14_in ⟨(Nat.le_of_ble_eq_true rfl), (Nat.le_of_ble_eq_true rfl)⟩ ⟨(Nat.le_refl _), (Nat.le_refl _)⟩ (Nat.le_of_ble_eq_true rfl) rfl dX14_bestLaw_23 ?_
    refine ev_if_ne C (tgt := 35) (by decide) dX14_bestLaw_26 (fun q26 => ?_) (fun q26 => ?_)
    · replace hs := (if_neg q26).symm.trans hs
      refine ev_aload_n C (x := .ref o) rfl trivial dX14_bestLaw_35 ?_
      obtain ⟨eo36, hs⟩ := kO_at hs
      obtain ⟨h36, e36, hs⟩ := cN_at hs
      refine ev_callV C (T_X14_finds _ _ _ _ e36) (ci := 14) rfl eo36 wc_X14_finds wm_X14_534 wi_X14_finds ws_X14_finds wz_X14 hy_X14_finds ⟨(Nat.le_of_ble_eq_true rfl), (Nat.le_of_ble_eq_true rfl)⟩ ⟨(Nat.le_refl _), (Nat.le_refl _)⟩ (Nat.le_of_ble_eq_true rfl) rfl dX14_bestLaw_36 ?_
      refine ev_aload_n C (x := .ref o) rfl trivial dX14_bestLaw_39 ?_
      refine ev_aload_n C (x := .ref o) rfl trivial dX14_bestLaw_40 ?_
      obtain ⟨x41, e41, hs⟩ := aB hs
      refine ev_get C (ci := 14) (k := 42) rfl wu_14 (by decide) wf_X14_84 (gO_F e41) dX14_bestLaw_41 ?_
      refine ev_sipush C (v := 400) dX14_bestLaw_44 (by decide) ?_
      refine ev_iload_n C rfl dX14_bestLaw_47 ?_
      refine ev_imul C dX14_bestLaw_48 ?_
      refine ev_iload_n C rfl dX14_bestLaw_49 ?_
      refine ev_iadd C dX14_bestLaw_50 ?_
      obtain ⟨x51, e51, hs⟩ := aB hs
      refine ev_iald C e51 dX14_bestLaw_51 ?_
      obtain ⟨eo52, hs⟩ := kO_at hs
      obtain ⟨x52, h52, e52, hs⟩ := cI_at hs
      refine ev_callV C (T_X14_done _ _ _ _ _ e52) (ci := 14) rfl eo52 wc_X14_done wm_X14_413 wi_X14_done ws_X14_done wz_X14 hy_X14_done ⟨(Nat.le_of_ble_eq_true rfl), (Nat.le_of_ble_eq_true rfl)⟩ ⟨(Nat.le_refl _), (Nat.le_refl _)⟩ (Nat.le_of_ble_eq_true rfl) rfl dX14_bestLaw_52 ?_
      cases hs
      exact ev_iret C rfl rfl (Nat.le_refl _) (Nat.le_refl _) rfl dX14_bestLaw_55
    · replace hs := (if_pos q26).symm.trans hs
      refine ev_aload_n C (x := .ref o) rfl trivial dX14_bestLaw_29 ?_
      refine ev_iconst C (v := 2) dX14_bestLaw_30 (by decide) ?_
      obtain ⟨eo31, hs⟩ := kO_at hs
      obtain ⟨x31, h31, e31, hs⟩ := cI_at hs
      refine ev_callV C (T_X14_refused _ _ _ _ _ e31) (ci := 14) rfl eo31 wc_X14_refused wm_X14_360 wi_X14_refused ws_X14_refused wz_X14 hy_X14_refused ⟨(Nat.le_of_ble_eq_true rfl), (Nat.le_of_ble_eq_true rfl)⟩ ⟨(Nat.le_refl _), (Nat.le_refl _)⟩ (Nat.le_of_ble_eq_true rfl) rfl dX14_bestLaw_31 ?_
      cases hs
      exact ev_iret C rfl rfl (Nat.le_refl _) (Nat.le_refl _) rfl dX14_bestLaw_34
  · replace hs := (if_pos q10).symm.trans hs
    refine ev_aload_n C (x := .ref o) rfl trivial dX14_bestLaw_13 ?_
    refine ev_iconst C (v := 1) dX14_bestLaw_14 (by decide) ?_
    obtain ⟨eo15, hs⟩ := kO_at hs
    obtain ⟨x15, h15, e15, hs⟩ := cI_at hs
    refine ev_callV C (T_X14_refused _ _ _ _ _ e15) (ci := 14) rfl eo15 wc_X14_refused wm_X14_360 wi_X14_refused ws_X14_refused wz_X14 hy_X14_refused ⟨(Nat.le_of_ble_eq_true rfl), (Nat.le_of_ble_eq_true rfl)⟩ ⟨(Nat.le_refl _), (Nat.le_refl _)⟩ (Nat.le_of_ble_eq_true rfl) rfl dX14_bestLaw_15 ?_
    cases hs
    exact ev_iret C rfl rfl (Nat.le_refl _) (Nat.le_refl _) rfl dX14_bestLaw_18
end
-- X14_worst
theorem dX14_worst_0 : decode cX14_worst 0 = .ok (.aload_n 0, 1) := by decide +kernel
theorem dX14_worst_1 : decode cX14_worst 1 = .ok (.aload_n 0, 1) := by decide +kernel
theorem dX14_worst_2 : decode cX14_worst 2 = .ok (.iload_n 1, 1) := by decide +kernel
theorem dX14_worst_3 : decode cX14_worst 3 = .ok (.invokevirtual 474, 3) := by decide +kernel
theorem dX14_worst_6 : decode cX14_worst 6 = .ok (.ifCond .eq 24, 3) := by decide +kernel
theorem dX14_worst_9 : decode cX14_worst 9 = .ok (.iload_n 2, 1) := by decide +kernel
theorem dX14_worst_10 : decode cX14_worst 10 = .ok (.iconst 1, 1) := by decide +kernel
theorem dX14_worst_11 : decode cX14_worst 11 = .ok (.bipush 20, 2) := by decide +kernel
theorem dX14_worst_13 : decode cX14_worst 13 = .ok (.invokestatic 313, 3) := by decide +kernel
theorem dX14_worst_16 : decode cX14_worst 16 = .ok (.ifCond .eq 14, 3) := by decide +kernel
theorem dX14_worst_19 : decode cX14_worst 19 = .ok (.iload_n 3, 1) := by decide +kernel
theorem dX14_worst_20 : decode cX14_worst 20 = .ok (.iconst 0, 1) := by decide +kernel
theorem dX14_worst_21 : decode cX14_worst 21 = .ok (.iload_n 2, 1) := by decide +kernel
theorem dX14_worst_22 : decode cX14_worst 22 = .ok (.iconst 1, 1) := by decide +kernel
theorem dX14_worst_23 : decode cX14_worst 23 = .ok (.isub, 1) := by decide +kernel
theorem dX14_worst_24 : decode cX14_worst 24 = .ok (.invokestatic 313, 3) := by decide +kernel
theorem dX14_worst_27 : decode cX14_worst 27 = .ok (.ifCond .ne 7, 3) := by decide +kernel
theorem dX14_worst_30 : decode cX14_worst 30 = .ok (.iconst 1, 1) := by decide +kernel
theorem dX14_worst_31 : decode cX14_worst 31 = .ok (.goto 4, 3) := by decide +kernel
theorem dX14_worst_34 : decode cX14_worst 34 = .ok (.iconst 0, 1) := by decide +kernel
theorem dX14_worst_35 : decode cX14_worst 35 = .ok (.putfield 154, 3) := by decide +kernel
theorem dX14_worst_38 : decode cX14_worst 38 = .ok (.aload_n 0, 1) := by decide +kernel
theorem dX14_worst_39 : decode cX14_worst 39 = .ok (.getfield 154, 3) := by decide +kernel
theorem dX14_worst_42 : decode cX14_worst 42 = .ok (.ifCond .le 5, 3) := by decide +kernel
theorem dX14_worst_45 : decode cX14_worst 45 = .ok (.iconst 0, 1) := by decide +kernel
theorem dX14_worst_46 : decode cX14_worst 46 = .ok (.ireturn, 1) := by decide +kernel
theorem dX14_worst_47 : decode cX14_worst 47 = .ok (.aload_n 0, 1) := by decide +kernel
theorem dX14_worst_48 : decode cX14_worst 48 = .ok (.invokevirtual 534, 3) := by decide +kernel
theorem dX14_worst_51 : decode cX14_worst 51 = .ok (.iload_n 1, 1) := by decide +kernel
theorem dX14_worst_52 : decode cX14_worst 52 = .ok (.istore 4, 2) := by decide +kernel
theorem dX14_worst_54 : decode cX14_worst 54 = .ok (.bipush (-2), 2) := by decide +kernel
theorem dX14_worst_56 : decode cX14_worst 56 = .ok (.istore 5, 2) := by decide +kernel
theorem dX14_worst_58 : decode cX14_worst 58 = .ok (.iconst 0, 1) := by decide +kernel
theorem dX14_worst_59 : decode cX14_worst 59 = .ok (.istore 6, 2) := by decide +kernel
theorem dX14_worst_61 : decode cX14_worst 61 = .ok (.iload 6, 2) := by decide +kernel
theorem dX14_worst_63 : decode cX14_worst 63 = .ok (.iload_n 3, 1) := by decide +kernel
theorem dX14_worst_64 : decode cX14_worst 64 = .ok (.if_icmp .gt 127, 3) := by decide +kernel
theorem dX14_worst_67 : decode cX14_worst 67 = .ok (.iload 4, 2) := by decide +kernel
theorem dX14_worst_69 : decode cX14_worst 69 = .ok (.bipush (-2), 2) := by decide +kernel
theorem dX14_worst_71 : decode cX14_worst 71 = .ok (.if_icmp .eq 13, 3) := by decide +kernel
theorem dX14_worst_74 : decode cX14_worst 74 = .ok (.aload_n 0, 1) := by decide +kernel
theorem dX14_worst_75 : decode cX14_worst 75 = .ok (.getfield 37, 3) := by decide +kernel
theorem dX14_worst_78 : decode cX14_worst 78 = .ok (.iload 4, 2) := by decide +kernel
theorem dX14_worst_80 : decode cX14_worst 80 = .ok (.baload, 1) := by decide +kernel
theorem dX14_worst_81 : decode cX14_worst 81 = .ok (.ifCond .ne 6, 3) := by decide +kernel
theorem dX14_worst_84 : decode cX14_worst 84 = .ok (.bipush (-2), 2) := by decide +kernel
theorem dX14_worst_86 : decode cX14_worst 86 = .ok (.ireturn, 1) := by decide +kernel
theorem dX14_worst_87 : decode cX14_worst 87 = .ok (.iload_n 2, 1) := by decide +kernel
theorem dX14_worst_88 : decode cX14_worst 88 = .ok (.iload 6, 2) := by decide +kernel
theorem dX14_worst_90 : decode cX14_worst 90 = .ok (.isub, 1) := by decide +kernel
theorem dX14_worst_91 : decode cX14_worst 91 = .ok (.istore 7, 2) := by decide +kernel
theorem dX14_worst_93 : decode cX14_worst 93 = .ok (.aload_n 0, 1) := by decide +kernel
theorem dX14_worst_94 : decode cX14_worst 94 = .ok (.getfield 84, 3) := by decide +kernel
theorem dX14_worst_97 : decode cX14_worst 97 = .ok (.sipush 400, 3) := by decide +kernel
theorem dX14_worst_100 : decode cX14_worst 100 = .ok (.iload 7, 2) := by decide +kernel
theorem dX14_worst_102 : decode cX14_worst 102 = .ok (.imul, 1) := by decide +kernel
theorem dX14_worst_103 : decode cX14_worst 103 = .ok (.iload 4, 2) := by decide +kernel
theorem dX14_worst_105 : decode cX14_worst 105 = .ok (.iadd, 1) := by decide +kernel
theorem dX14_worst_106 : decode cX14_worst 106 = .ok (.iaload, 1) := by decide +kernel
theorem dX14_worst_107 : decode cX14_worst 107 = .ok (.istore 8, 2) := by decide +kernel
theorem dX14_worst_109 : decode cX14_worst 109 = .ok (.iconst 0, 1) := by decide +kernel
theorem dX14_worst_110 : decode cX14_worst 110 = .ok (.istore 5, 2) := by decide +kernel
theorem dX14_worst_112 : decode cX14_worst 112 = .ok (.iconst 1, 1) := by decide +kernel
theorem dX14_worst_113 : decode cX14_worst 113 = .ok (.istore 9, 2) := by decide +kernel
theorem dX14_worst_115 : decode cX14_worst 115 = .ok (.iload 9, 2) := by decide +kernel
theorem dX14_worst_117 : decode cX14_worst 117 = .ok (.aload_n 0, 1) := by decide +kernel
theorem dX14_worst_118 : decode cX14_worst 118 = .ok (.getfield 388, 3) := by decide +kernel
theorem dX14_worst_121 : decode cX14_worst 121 = .ok (.if_icmp .ge 52, 3) := by decide +kernel
theorem dX14_worst_124 : decode cX14_worst 124 = .ok (.aload_n 0, 1) := by decide +kernel
theorem dX14_worst_125 : decode cX14_worst 125 = .ok (.aload_n 0, 1) := by decide +kernel
theorem dX14_worst_126 : decode cX14_worst 126 = .ok (.iload 4, 2) := by decide +kernel
theorem dX14_worst_128 : decode cX14_worst 128 = .ok (.iload 8, 2) := by decide +kernel
theorem dX14_worst_130 : decode cX14_worst 130 = .ok (.iload 9, 2) := by decide +kernel
theorem dX14_worst_132 : decode cX14_worst 132 = .ok (.invokevirtual 483, 3) := by decide +kernel
theorem dX14_worst_135 : decode cX14_worst 135 = .ok (.iload 7, 2) := by decide +kernel
theorem dX14_worst_137 : decode cX14_worst 137 = .ok (.iconst 1, 1) := by decide +kernel
theorem dX14_worst_138 : decode cX14_worst 138 = .ok (.isub, 1) := by decide +kernel
theorem dX14_worst_139 : decode cX14_worst 139 = .ok (.invokevirtual 515, 3) := by decide +kernel
theorem dX14_worst_142 : decode cX14_worst 142 = .ok (.aload_n 0, 1) := by decide +kernel
theorem dX14_worst_143 : decode cX14_worst 143 = .ok (.aload_n 0, 1) := by decide +kernel
theorem dX14_worst_144 : decode cX14_worst 144 = .ok (.iload 4, 2) := by decide +kernel
theorem dX14_worst_146 : decode cX14_worst 146 = .ok (.iload 8, 2) := by decide +kernel
theorem dX14_worst_148 : decode cX14_worst 148 = .ok (.iload 5, 2) := by decide +kernel
theorem dX14_worst_150 : decode cX14_worst 150 = .ok (.invokevirtual 483, 3) := by decide +kernel
theorem dX14_worst_153 : decode cX14_worst 153 = .ok (.iload 7, 2) := by decide +kernel
theorem dX14_worst_155 : decode cX14_worst 155 = .ok (.iconst 1, 1) := by decide +kernel
theorem dX14_worst_156 : decode cX14_worst 156 = .ok (.isub, 1) := by decide +kernel
theorem dX14_worst_157 : decode cX14_worst 157 = .ok (.invokevirtual 515, 3) := by decide +kernel
theorem dX14_worst_160 : decode cX14_worst 160 = .ok (.if_icmp .le 7, 3) := by decide +kernel
theorem dX14_worst_163 : decode cX14_worst 163 = .ok (.iload 9, 2) := by decide +kernel
theorem dX14_worst_165 : decode cX14_worst 165 = .ok (.istore 5, 2) := by decide +kernel
theorem dX14_worst_167 : decode cX14_worst 167 = .ok (.iinc 9 1, 3) := by decide +kernel
theorem dX14_worst_170 : decode cX14_worst 170 = .ok (.goto (-55), 3) := by decide +kernel
theorem dX14_worst_173 : decode cX14_worst 173 = .ok (.aload_n 0, 1) := by decide +kernel
theorem dX14_worst_174 : decode cX14_worst 174 = .ok (.iload 4, 2) := by decide +kernel
theorem dX14_worst_176 : decode cX14_worst 176 = .ok (.iload 8, 2) := by decide +kernel
theorem dX14_worst_178 : decode cX14_worst 178 = .ok (.iload 5, 2) := by decide +kernel
theorem dX14_worst_180 : decode cX14_worst 180 = .ok (.invokevirtual 483, 3) := by decide +kernel
theorem dX14_worst_183 : decode cX14_worst 183 = .ok (.istore 4, 2) := by decide +kernel
theorem dX14_worst_185 : decode cX14_worst 185 = .ok (.iinc 6 1, 3) := by decide +kernel
theorem dX14_worst_188 : decode cX14_worst 188 = .ok (.goto (-127), 3) := by decide +kernel
theorem dX14_worst_191 : decode cX14_worst 191 = .ok (.iload 5, 2) := by decide +kernel
theorem dX14_worst_193 : decode cX14_worst 193 = .ok (.ireturn, 1) := by decide +kernel
def s_X14_worst_115_b (k61 : Nat → Int32 → Int32 → Int32 → Int32 → Int32 → aH → aO) (k115 : Nat → Int32 → Int32 → Int32 → Int32 → Int32 → Int32 → Int32 → Int32 → aH → aO) (l0 : Nat) (l2 : Int32) (l3 : Int32) (l4 : Int32) (l5 : Int32) (l6 : Int32) (l7 : Int32) (l8 : Int32) (l9 : Int32) (h : aH) : aO :=
  (gI h (.ref l0) 14 22).bind fun x118 => if x118 ≤ l9 then (kO h l0 14 (cI (s_X14_to l0 l4 l8 l5 h) fun x180 h180 => k61 l0 l2 l3 x180 l5 (l6 + 1) h180)) else (kO h l0 14 (cI (s_X14_to l0 l4 l8 l9 h) fun x132 h132 => kO h132 l0 14 (cI (s_X14_ahead l0 x132 (l7 - 1) h132) fun x139 h139 => kO h139 l0 14 (cI (s_X14_to l0 l4 l8 l5 h139) fun x150 h150 => kO h150 l0 14 (cI (s_X14_ahead l0 x150 (l7 - 1) h150) fun x157 h157 => if x139 ≤ x157 then (k115 l0 l2 l3 l4 l5 l6 l7 l8 (l9 + 1) h157) else (k115 l0 l2 l3 l4 l9 l6 l7 l8 (l9 + 1) h157))))))
def s_X14_worst_115 (k61 : Nat → Int32 → Int32 → Int32 → Int32 → Int32 → aH → aO) (n : Nat) : Nat → Int32 → Int32 → Int32 → Int32 → Int32 → Int32 → Int32 → Int32 → aH → aO := lpF (fun _ _ _ _ _ _ _ _ _ _ => none) (s_X14_worst_115_b k61) n
def s_X14_worst_61_b  (k61 : Nat → Int32 → Int32 → Int32 → Int32 → Int32 → aH → aO) (l0 : Nat) (l2 : Int32) (l3 : Int32) (l4 : Int32) (l5 : Int32) (l6 : Int32) (h : aH) : aO :=
  if l3 < l6 then (some (.inl (some (.int l5)), h)) else (if l4 = (-2) then (some (.inl (some (.int (-2))), h)) else ((gO h (.ref l0) 14 27).bind fun x75 => (ldI .boolean h (.ref x75) l4).bind fun x80 => if x80 = 0 then (some (.inl (some (.int (-2))), h)) else ((gO h (.ref l0) 14 42).bind fun x94 => (ldI .int h (.ref x94) ((400 * (l2 - l6)) + l4)).bind fun x106 => s_X14_worst_115 k61 FU l0 l2 l3 l4 0 l6 (l2 - l6) x106 1 h)))
def s_X14_worst_61  (n : Nat) : Nat → Int32 → Int32 → Int32 → Int32 → Int32 → aH → aO := lpF (fun _ _ _ _ _ _ _ => none) (s_X14_worst_61_b ) n
def s_X14_worst_35  (l0 : Nat) (l1 : Int32) (l2 : Int32) (l3 : Int32) (s0 : Int32) (s1 : Nat) (h : aH) : aO :=
  (pF h (.ref s1) 14 0 (.int s0)).bind fun h35 => (gI h35 (.ref l0) 14 0).bind fun x39 => if x39 ≤ 0 then (kO h35 l0 14 (cN (s_X14_finds l0 h35) fun h48 => s_X14_worst_61 FU l0 l2 l3 l1 (-2) 0 h48)) else (some (.inl (some (.int 0)), h35))
def s_X14_worst_30  (l0 : Nat) (l1 : Int32) (l2 : Int32) (l3 : Int32) (s0 : Nat) (h : aH) : aO :=
  s_X14_worst_35 l0 l1 l2 l3 1 s0 h
def s_X14_worst (o : Nat) (a1 : Int32) (a2 : Int32) (a3 : Int32) (h : aH) : aO :=
  kO h o 14 (cI (s_X14_isCell o a1 h) fun x3 h3 => if x3 = 0 then (s_X14_worst_30 o a1 a2 a3 o h3) else (cI (s_X14_in a2 1 20 h3) fun x13 h13 => if x13 = 0 then (s_X14_worst_30 o a1 a2 a3 o h13) else (cI (s_X14_in a3 0 (a2 - 1) h13) fun x24 h24 => if x24 = 0 then (s_X14_worst_30 o a1 a2 a3 o h24) else (s_X14_worst_35 o a1 a2 a3 0 o h24))))
section
variable {p : Program} {l : Launch} {e : Env} {s : State} {m : MethodId} {args : Array Value} {below : List Frame} {meth : Method} {c : Code} {D : va_G} {B0 : Nat} {X : Nat → Nat} {ws0 : va_W} {r : aR} {h' : aH} {mc ms : Nat}
theorem t_X14_worst_115_b (C : Cx p l s m args meth c B0 X RX14 "worst" cX14_worst 10 (some .int) []) {k61 : Nat → Int32 → Int32 → Int32 → Int32 → Int32 → aH → aO} (K61 : ∀ (l0 : Nat) (l2 : Int32) (l3 : Int32) (l4 : Int32) (l5 : Int32) (l6 : Int32) (h : aH), k61 l0 l2 l3 l4 l5 l6 h = some (r, h') → Ev p l e { frames := 7, cells := mc, slots := ms, locals := 174 } s m args below meth c D B0 X ws0 r h' mc ms 10 mc ms 61 [some (.ref l0), none, some (.int l2), some (.int l3), some (.int l4), some (.int l5), some (.int l6), none, none, none] [] h) {k115 : Nat → Int32 → Int32 → Int32 → Int32 → Int32 → Int32 → Int32 → Int32 → aH → aO} (K115 : ∀ (l0 : Nat) (l2 : Int32) (l3 : Int32) (l4 : Int32) (l5 : Int32) (l6 : Int32) (l7 : Int32) (l8 : Int32) (l9 : Int32) (h : aH), k115 l0 l2 l3 l4 l5 l6 l7 l8 l9 h = some (r, h') → Ev p l e { frames := 7, cells := mc, slots := ms, locals := 174 } s m args below meth c D B0 X ws0 r h' mc ms 10 mc ms 115 [some (.ref l0), none, some (.int l2), some (.int l3), some (.int l4), some (.int l5), some (.int l6), some (.int l7), some (.int l8), some (.int l9)] [] h) {l0 : Nat} {l2 : Int32} {l3 : Int32} {l4 : Int32} {l5 : Int32} {l6 : Int32} {l7 : Int32} {l8 : Int32} {l9 : Int32} {h : aH} (hs : s_X14_worst_115_b k61 k115 l0 l2 l3 l4 l5 l6 l7 l8 l9 h = some (r, h')) : Ev p l e { frames := 7, cells := mc, slots := ms, locals := 174 } s m args below meth c D B0 X ws0 r h' mc ms 10 mc ms 115 [some (.ref l0), none, some (.int l2), some (.int l3), some (.int l4), some (.int l5), some (.int l6), some (.int l7), some (.int l8), some (.int l9)] [] h := by
  unfold s_X14_worst_115_b at hs
  refine ev_iload C rfl dX14_worst_115 ?_
  refine ev_aload_n C (x := .ref l0) rfl trivial dX14_worst_117 ?_
  obtain ⟨x118, e118, hs⟩ := aB hs
  refine ev_get C (ci := 14) (k := 22) rfl wu_14 (by decide) wf_X14_388 (gI_F e118) dX14_worst_118 ?_
  refine ev_icmp_ge C (tgt := 173) (by decide) dX14_worst_121 (fun q121 => ?_) (fun q121 => ?_)
  · replace hs := (if_pos q121).symm.trans hs
    refine ev_aload_n C (x := .ref l0) rfl trivial dX14_worst_173 ?_
    refine ev_iload C rfl dX14_worst_174 ?_
    refine ev_iload C rfl dX14_worst_176 ?_
    refine ev_iload C rfl dX14_worst_178 ?_
    obtain ⟨eo180, hs⟩ := kO_at hs
    obtain ⟨x180, h180, e180, hs⟩ := cI_at hs
    refine ev_callV C (T_X14_to _ _ _ _ _ _ _ e180) (ci := 14) rfl eo180 wc_X14_to wm_X14_483 wi_X14_to ws_X14_to wz_X14 hy_X14_to ⟨(Nat.le_of_ble_eq_true rfl), (Nat.le_of_ble_eq_true rfl)⟩ ⟨(Nat.le_refl _), (Nat.le_refl _)⟩ (Nat.le_of_ble_eq_true rfl) rfl dX14_worst_180 ?_
    refine ev_istore C (by decide) dX14_worst_183 ?_
    refine ev_iinc C (i := 6) (n := 1) (x := l6) (v := l6 + 1) rfl (congrArg (fun z => l6 + z) (show Int32.ofInt 1 = 1 by decide)) (by decide) dX14_worst_185 ?_
    refine ev_goto C (tgt := 61) (by decide) dX14_worst_188 ?_
    exact Ev.keep [true, true, true, true, true, true, true, false, false, false] (K61 _ _ _ _ _ _ _ hs)
  · replace hs := (if_neg q121).symm.trans hs
    refine ev_aload_n C (x := .ref l0) rfl trivial dX14_worst_124 ?_
    refine ev_aload_n C (x := .ref l0) rfl trivial dX14_worst_125 ?_
    refine ev_iload C rfl dX14_worst_126 ?_
    refine ev_iload C rfl dX14_worst_128 ?_
    refine ev_iload C rfl dX14_worst_130 ?_
    obtain ⟨eo132, hs⟩ := kO_at hs
    obtain ⟨x132, h132, e132, hs⟩ := cI_at hs
    refine ev_callV C (T_X14_to _ _ _ _ _ _ _ e132) (ci := 14) rfl eo132 wc_X14_to wm_X14_483 wi_X14_to ws_X14_to wz_X14 hy_X14_to ⟨(Nat.le_of_ble_eq_true rfl), (Nat.le_of_ble_eq_true rfl)⟩ ⟨(Nat.le_refl _), (Nat.le_refl _)⟩ (Nat.le_of_ble_eq_true rfl) rfl dX14_worst_132 ?_
    refine ev_iload C rfl dX14_worst_135 ?_
    refine ev_iconst C (v := 1) dX14_worst_137 (by decide) ?_
    refine ev_isub C dX14_worst_138 ?_
    obtain ⟨eo139, hs⟩ := kO_at hs
    obtain ⟨x139, h139, e139, hs⟩ := cI_at hs
    refine ev_callV C (T_X14_ahead _ _ _ _ _ _ e139) (ci := 14) rfl eo139 wc_X14_ahead wm_X14_515 wi_X14_ahead ws_X14_ahead wz_X14 hy_X14_ahead ⟨(Nat.le_of_ble_eq_true rfl), (Nat.le_of_ble_eq_true rfl)⟩ ⟨(Nat.le_refl _), (Nat.le_refl _)⟩ (Nat.le_of_ble_eq_true rfl) rfl dX14_worst_139 ?_
    refine ev_aload_n C (x := .ref l0) rfl trivial dX14_worst_142 ?_
    refine ev_aload_n C (x := .ref l0) rfl trivial dX14_worst_143 ?_
    refine ev_iload C rfl dX14_worst_144 ?_
    refine ev_iload C rfl dX14_worst_146 ?_
    refine ev_iload C rfl dX14_worst_148 ?_
    obtain ⟨eo150, hs⟩ := kO_at hs
    obtain ⟨x150, h150, e150, hs⟩ := cI_at hs
    refine ev_callV C (T_X14_to _ _ _ _ _ _ _ e150) (ci := 14) rfl eo150 wc_X14_to wm_X14_483 wi_X14_to ws_X14_to wz_X14 hy_X14_to ⟨(Nat.le_of_ble_eq_true rfl), (Nat.le_of_ble_eq_true rfl)⟩ ⟨(Nat.le_refl _), (Nat.le_refl _)⟩ (Nat.le_of_ble_eq_true rfl) rfl dX14_worst_150 ?_
    refine ev_iload C rfl dX14_worst_153 ?_
    refine ev_iconst C (v := 1) dX14_worst_155 (by decide) ?_
    refine ev_isub C dX14_worst_156 ?_
    obtain ⟨eo157, hs⟩ := kO_at hs
    obtain ⟨x157, h157, e157, hs⟩ := cI_at hs
    refine ev_callV C (T_X14_ahead _ _ _ _ _ _ e157) (ci := 14) rfl eo157 wc_X14_ahead wm_X14_515 wi_X14_ahead ws_X14_ahead wz_X14 hy_X14_ahead ⟨(Nat.le_of_ble_eq_true rfl), (Nat.le_of_ble_eq_true rfl)⟩ ⟨(Nat.le_refl _), (Nat.le_refl _)⟩ (Nat.le_of_ble_eq_true rfl) rfl dX14_worst_157 ?_
    refine ev_icmp_le C (tgt := 167) (by decide) dX14_worst_160 (fun q160 => ?_) (fun q160 => ?_)
    · replace hs := (if_pos q160).symm.trans hs
      refine ev_iinc C (i := 9) (n := 1) (x := l9) (v := l9 + 1) rfl (congrArg (fun z => l9 + z) (show Int32.ofInt 1 = 1 by decide)) (by decide) dX14_worst_167 ?_
      refine ev_goto C (tgt := 115) (by decide) dX14_worst_170 ?_
      exact (K115 _ _ _ _ _ _ _ _ _ _ hs)
    · replace hs := (if_neg q160).symm.trans hs
      refine ev_iload C rfl dX14_worst_163 ?_
      refine ev_istore C (by decide) dX14_worst_165 ?_
      refine ev_iinc C (i := 9) (n := 1) (x := l9) (v := l9 + 1) rfl (congrArg (fun z => l9 + z) (show Int32.ofInt 1 = 1 by decide)) (by decide) dX14_worst_167 ?_
      refine ev_goto C (tgt := 115) (by decide) dX14_worst_170 ?_
      exact (K115 _ _ _ _ _ _ _ _ _ _ hs)
theorem t_X14_worst_115 (C : Cx p l s m args meth c B0 X RX14 "worst" cX14_worst 10 (some .int) []) {k61 : Nat → Int32 → Int32 → Int32 → Int32 → Int32 → aH → aO} (K61 : ∀ (l0 : Nat) (l2 : Int32) (l3 : Int32) (l4 : Int32) (l5 : Int32) (l6 : Int32) (h : aH), k61 l0 l2 l3 l4 l5 l6 h = some (r, h') → Ev p l e { frames := 7, cells := mc, slots := ms, locals := 174 } s m args below meth c D B0 X ws0 r h' mc ms 10 mc ms 61 [some (.ref l0), none, some (.int l2), some (.int l3), some (.int l4), some (.int l5), some (.int l6), none, none, none] [] h) : ∀ (n : Nat) {l0 : Nat} {l2 : Int32} {l3 : Int32} {l4 : Int32} {l5 : Int32} {l6 : Int32} {l7 : Int32} {l8 : Int32} {l9 : Int32} {h : aH} (hs : s_X14_worst_115 k61 n l0 l2 l3 l4 l5 l6 l7 l8 l9 h = some (r, h')), Ev p l e { frames := 7, cells := mc, slots := ms, locals := 174 } s m args below meth c D B0 X ws0 r h' mc ms 10 mc ms 115 [some (.ref l0), none, some (.int l2), some (.int l3), some (.int l4), some (.int l5), some (.int l6), some (.int l7), some (.int l8), some (.int l9)] [] h
  | 0, _, _, _, _, _, _, _, _, _, _, hs => nomatch hs
  | n + 1, _, _, _, _, _, _, _, _, _, _, hs => t_X14_worst_115_b C K61 (k115 := s_X14_worst_115 k61 n) (fun _ _ _ _ _ _ _ _ _ _ hs => t_X14_worst_115 C K61 n hs) hs
theorem t_X14_worst_61_b (C : Cx p l s m args meth c B0 X RX14 "worst" cX14_worst 10 (some .int) [])   {k61 : Nat → Int32 → Int32 → Int32 → Int32 → Int32 → aH → aO} (K61 : ∀ (l0 : Nat) (l2 : Int32) (l3 : Int32) (l4 : Int32) (l5 : Int32) (l6 : Int32) (h : aH), k61 l0 l2 l3 l4 l5 l6 h = some (r, h') → Ev p l e { frames := 7, cells := mc, slots := ms, locals := 174 } s m args below meth c D B0 X ws0 r h' mc ms 10 mc ms 61 [some (.ref l0), none, some (.int l2), some (.int l3), some (.int l4), some (.int l5), some (.int l6), none, none, none] [] h) {l0 : Nat} {l2 : Int32} {l3 : Int32} {l4 : Int32} {l5 : Int32} {l6 : Int32} {h : aH} (hs : s_X14_worst_61_b  k61 l0 l2 l3 l4 l5 l6 h = some (r, h')) : Ev p l e { frames := 7, cells := mc, slots := ms, locals := 174 } s m args below meth c D B0 X ws0 r h' mc ms 10 mc ms 61 [some (.ref l0), none, some (.int l2), some (.int l3), some (.int l4), some (.int l5), some (.int l6), none, none, none] [] h := by
  unfold s_X14_worst_61_b at hs
  refine ev_iload C rfl dX14_worst_61 ?_
  refine ev_iload_n C rfl dX14_worst_63 ?_
  refine ev_icmp_gt C (tgt := 191) (by decide) dX14_worst_64 (fun q64 => ?_) (fun q64 => ?_)
  · replace hs := (if_pos q64).symm.trans hs
    refine ev_iload C rfl dX14_worst_191 ?_
    cases hs
    exact ev_iret C rfl rfl (Nat.le_refl _) (Nat.le_refl _) rfl dX14_worst_193
  · replace hs := (if_neg q64).symm.trans hs
    refine ev_iload C rfl dX14_worst_67 ?_
    refine ev_bipush C (v := (-2)) dX14_worst_69 (by decide) ?_
    refine ev_icmp_eq C (tgt := 84) (by decide) dX14_worst_71 (fun q71 => ?_) (fun q71 => ?_)
    · replace hs := (if_pos q71).symm.trans hs
      refine ev_bipush C (v := (-2)) dX14_worst_84 (by decide) ?_
      cases hs
      exact ev_iret C rfl rfl (Nat.le_refl _) (Nat.le_refl _) rfl dX14_worst_86
    · replace hs := (if_neg q71).symm.trans hs
      refine ev_aload_n C (x := .ref l0) rfl trivial dX14_worst_74 ?_
      obtain ⟨x75, e75, hs⟩ := aB hs
      refine ev_get C (ci := 14) (k := 27) rfl wu_14 (by decide) wf_X14_37 (gO_F e75) dX14_worst_75 ?_
      refine ev_iload C rfl dX14_worst_78 ?_
      obtain ⟨x80, e80, hs⟩ := aB hs
      refine ev_zald C e80 dX14_worst_80 ?_
      refine ev_if_ne C (tgt := 87) (by decide) dX14_worst_81 (fun q81 => ?_) (fun q81 => ?_)
      · replace hs := (if_neg q81).symm.trans hs
        refine ev_iload_n C rfl dX14_worst_87 ?_
        refine ev_iload C rfl dX14_worst_88 ?_
        refine ev_isub C dX14_worst_90 ?_
        refine ev_istore C (by decide) dX14_worst_91 ?_
        refine ev_aload_n C (x := .ref l0) rfl trivial dX14_worst_93 ?_
        obtain ⟨x94, e94, hs⟩ := aB hs
        refine ev_get C (ci := 14) (k := 42) rfl wu_14 (by decide) wf_X14_84 (gO_F e94) dX14_worst_94 ?_
        refine ev_sipush C (v := 400) dX14_worst_97 (by decide) ?_
        refine ev_iload C rfl dX14_worst_100 ?_
        refine ev_imul C dX14_worst_102 ?_
        refine ev_iload C rfl dX14_worst_103 ?_
        refine ev_iadd C dX14_worst_105 ?_
        obtain ⟨x106, e106, hs⟩ := aB hs
        refine ev_iald C e106 dX14_worst_106 ?_
        refine ev_istore C (by decide) dX14_worst_107 ?_
        refine ev_iconst C (v := 0) dX14_worst_109 (by decide) ?_
        refine ev_istore C (by decide) dX14_worst_110 ?_
        refine ev_iconst C (v := 1) dX14_worst_112 (by decide) ?_
        refine ev_istore C (by decide) dX14_worst_113 ?_
        exact (t_X14_worst_115 C K61 FU hs)
      · replace hs := (if_pos q81).symm.trans hs
        refine ev_bipush C (v := (-2)) dX14_worst_84 (by decide) ?_
        cases hs
        exact ev_iret C rfl rfl (Nat.le_refl _) (Nat.le_refl _) rfl dX14_worst_86
theorem t_X14_worst_61 (C : Cx p l s m args meth c B0 X RX14 "worst" cX14_worst 10 (some .int) [])   : ∀ (n : Nat) {l0 : Nat} {l2 : Int32} {l3 : Int32} {l4 : Int32} {l5 : Int32} {l6 : Int32} {h : aH} (hs : s_X14_worst_61  n l0 l2 l3 l4 l5 l6 h = some (r, h')), Ev p l e { frames := 7, cells := mc, slots := ms, locals := 174 } s m args below meth c D B0 X ws0 r h' mc ms 10 mc ms 61 [some (.ref l0), none, some (.int l2), some (.int l3), some (.int l4), some (.int l5), some (.int l6), none, none, none] [] h
  | 0, _, _, _, _, _, _, _, hs => nomatch hs
  | n + 1, _, _, _, _, _, _, _, hs => t_X14_worst_61_b C  (k61 := s_X14_worst_61  n) (fun _ _ _ _ _ _ _ hs => t_X14_worst_61 C  n hs) hs
theorem t_X14_worst_35 (C : Cx p l s m args meth c B0 X RX14 "worst" cX14_worst 10 (some .int) [])   {l0 : Nat} {l1 : Int32} {l2 : Int32} {l3 : Int32} {s0 : Int32} {s1 : Nat} {h : aH} (hs : s_X14_worst_35  l0 l1 l2 l3 s0 s1 h = some (r, h')) : Ev p l e { frames := 7, cells := mc, slots := ms, locals := 174 } s m args below meth c D B0 X ws0 r h' mc ms 10 mc ms 35 [some (.ref l0), some (.int l1), some (.int l2), some (.int l3), none, none, none, none, none, none] [.int s0, .ref s1] h := by
  unfold s_X14_worst_35 at hs
  obtain ⟨h35, e35, hs⟩ := aB hs
  refine ev_put C (ci := 14) (k := 0) rfl wu_14 (by decide) tyX14 tyX14_ok nmX14 wf_X14_154 rfl trivial e35 dX14_worst_35 ?_
  refine ev_aload_n C (x := .ref l0) rfl trivial dX14_worst_38 ?_
  obtain ⟨x39, e39, hs⟩ := aB hs
  refine ev_get C (ci := 14) (k := 0) rfl wu_14 (by decide) wf_X14_154 (gI_F e39) dX14_worst_39 ?_
  refine ev_if_le C (tgt := 47) (by decide) dX14_worst_42 (fun q42 => ?_) (fun q42 => ?_)
  · replace hs := (if_pos q42).symm.trans hs
    refine ev_aload_n C (x := .ref l0) rfl trivial dX14_worst_47 ?_
    obtain ⟨eo48, hs⟩ := kO_at hs
    obtain ⟨h48, e48, hs⟩ := cN_at hs
    refine ev_callV C (T_X14_finds _ _ _ _ e48) (ci := 14) rfl eo48 wc_X14_finds wm_X14_534 wi_X14_finds ws_X14_finds wz_X14 hy_X14_finds ⟨(Nat.le_of_ble_eq_true rfl), (Nat.le_of_ble_eq_true rfl)⟩ ⟨(Nat.le_refl _), (Nat.le_refl _)⟩ (Nat.le_of_ble_eq_true rfl) rfl dX14_worst_48 ?_
    refine ev_iload_n C rfl dX14_worst_51 ?_
    refine ev_istore C (by decide) dX14_worst_52 ?_
    refine ev_bipush C (v := (-2)) dX14_worst_54 (by decide) ?_
    refine ev_istore C (by decide) dX14_worst_56 ?_
    refine ev_iconst C (v := 0) dX14_worst_58 (by decide) ?_
    refine ev_istore C (by decide) dX14_worst_59 ?_
    exact Ev.keep [true, false, true, true, true, true, true, true, true, true] (t_X14_worst_61 C  FU hs)
  · replace hs := (if_neg q42).symm.trans hs
    refine ev_iconst C (v := 0) dX14_worst_45 (by decide) ?_
    cases hs
    exact ev_iret C rfl rfl (Nat.le_refl _) (Nat.le_refl _) rfl dX14_worst_46
theorem t_X14_worst_30 (C : Cx p l s m args meth c B0 X RX14 "worst" cX14_worst 10 (some .int) [])   {l0 : Nat} {l1 : Int32} {l2 : Int32} {l3 : Int32} {s0 : Nat} {h : aH} (hs : s_X14_worst_30  l0 l1 l2 l3 s0 h = some (r, h')) : Ev p l e { frames := 7, cells := mc, slots := ms, locals := 174 } s m args below meth c D B0 X ws0 r h' mc ms 10 mc ms 30 [some (.ref l0), some (.int l1), some (.int l2), some (.int l3), none, none, none, none, none, none] [.ref s0] h := by
  unfold s_X14_worst_30 at hs
  refine ev_iconst C (v := 1) dX14_worst_30 (by decide) ?_
  refine ev_goto C (tgt := 35) (by decide) dX14_worst_31 ?_
  exact (t_X14_worst_35 C  hs)
theorem hy_X14_worst : yX14_worst.cls ≠ "java/lang/invoke/MethodHandle" ∧ yX14_worst.cls ≠ "java/lang/invoke/VarHandle" ∧ (parseMethodDescriptor yX14_worst.desc).map (fun d => d.parameters.length) = some 3 := by decide +kernel
theorem T_X14_worst (o : Nat) (a1 : Int32) (a2 : Int32) (a3 : Int32) (h : aH) (r : aR) (h' : aH) (hs : s_X14_worst o a1 a2 a3 h = some (r, h')) : Mt yX14_worst (Cond.code yX14_worst cX14_worst 10 (some .int) :: aTB) 7 174 0 0 [.ref o, .int a1, .int a2, .int a3] h r h' := by
  unfold s_X14_worst at hs
  refine Mt_of (k := 6) (by decide) rfl (fun p l e s m args below meth c D B0 X ws0 C => ?_)
  show Ev p l e { frames := 7, cells := 0, slots := 0, locals := 174 } s m args below meth c D B0 X ws0 r h' 0 0 10 0 0 0 [some (.ref o), some (.int a1), some (.int a2), some (.int a3), none, none, none, none, none, none] [] h
  refine ev_aload_n C (x := .ref o) rfl trivial dX14_worst_0 ?_
  refine ev_aload_n C (x := .ref o) rfl trivial dX14_worst_1 ?_
  refine ev_iload_n C rfl dX14_worst_2 ?_
  obtain ⟨eo3, hs⟩ := kO_at hs
  obtain ⟨x3, h3, e3, hs⟩ := cI_at hs
  refine ev_callV C (T_X14_isCell _ _ _ _ _ e3) (ci := 14) rfl eo3 wc_X14_isCell wm_X14_474 wi_X14_isCell ws_X14_isCell wz_X14 hy_X14_isCell ⟨(Nat.le_of_ble_eq_true rfl), (Nat.le_of_ble_eq_true rfl)⟩ ⟨(Nat.le_refl _), (Nat.le_refl _)⟩ (Nat.le_of_ble_eq_true rfl) rfl dX14_worst_3 ?_
  refine ev_if_eq C (tgt := 30) (by decide) dX14_worst_6 (fun q6 => ?_) (fun q6 => ?_)
  · replace hs := (if_pos q6).symm.trans hs
    exact (t_X14_worst_30 C  hs)
  · replace hs := (if_neg q6).symm.trans hs
    refine ev_iload_n C rfl dX14_worst_9 ?_
    refine ev_iconst C (v := 1) dX14_worst_10 (by decide) ?_
    refine ev_bipush C (v := 20) dX14_worst_11 (by decide) ?_
    obtain ⟨x13, h13, e13, hs⟩ := cI_at hs
    refine ev_callS C (T_X14_in _ _ _ _ _ _ e13) wc_X14_in wm_X14_313 wt_X14_in wz_X14 hy_X14_in ⟨(Nat.le_of_ble_eq_true rfl), (Nat.le_of_ble_eq_true rfl)⟩ ⟨(Nat.le_refl _), (Nat.le_refl _)⟩ (Nat.le_of_ble_eq_true rfl) rfl dX14_worst_13 ?_
    refine ev_if_eq C (tgt := 30) (by decide) dX14_worst_16 (fun q16 => ?_) (fun q16 => ?_)
    · replace hs := (if_pos q16).symm.trans hs
      exact (t_X14_worst_30 C  hs)
    · replace hs := (if_neg q16).symm.trans hs
      refine ev_iload_n C rfl dX14_worst_19 ?_
      refine ev_iconst C (v := 0) dX14_worst_20 (by decide) ?_
      refine ev_iload_n C rfl dX14_worst_21 ?_
      refine ev_iconst C (v := 1) dX14_worst_22 (by decide) ?_
      refine ev_isub C dX14_worst_23 ?_
      obtain ⟨x24, h24, e24, hs⟩ := cI_at hs
      refine ev_callS C (T_X14_in _ _ _ _ _ _ e24) wc_X14_in wm_X14_313 wt_X14_in wz_X14 hy_X14_in ⟨(Nat.le_of_ble_eq_true rfl), (Nat.le_of_ble_eq_true rfl)⟩ ⟨(Nat.le_refl _), (Nat.le_refl _)⟩ (Nat.le_of_ble_eq_true rfl) rfl dX14_worst_24 ?_
      refine ev_if_ne C (tgt := 34) (by decide) dX14_worst_27 (fun q27 => ?_) (fun q27 => ?_)
      · replace hs := (if_neg q27).symm.trans hs
        refine ev_iconst C (v := 0) dX14_worst_34 (by decide) ?_
        exact (t_X14_worst_35 C  hs)
      · replace hs := (if_pos q27).symm.trans hs
        exact (t_X14_worst_30 C  hs)
end
-- X14_margin
theorem dX14_margin_0 : decode cX14_margin 0 = .ok (.aload_n 0, 1) := by decide +kernel
theorem dX14_margin_1 : decode cX14_margin 1 = .ok (.iconst 0, 1) := by decide +kernel
theorem dX14_margin_2 : decode cX14_margin 2 = .ok (.putfield 154, 3) := by decide +kernel
theorem dX14_margin_5 : decode cX14_margin 5 = .ok (.aload_n 0, 1) := by decide +kernel
theorem dX14_margin_6 : decode cX14_margin 6 = .ok (.iload_n 1, 1) := by decide +kernel
theorem dX14_margin_7 : decode cX14_margin 7 = .ok (.invokevirtual 474, 3) := by decide +kernel
theorem dX14_margin_10 : decode cX14_margin 10 = .ok (.ifCond .ne 5, 3) := by decide +kernel
theorem dX14_margin_13 : decode cX14_margin 13 = .ok (.iconst (-1), 1) := by decide +kernel
theorem dX14_margin_14 : decode cX14_margin 14 = .ok (.ireturn, 1) := by decide +kernel
theorem dX14_margin_15 : decode cX14_margin 15 = .ok (.aload_n 0, 1) := by decide +kernel
theorem dX14_margin_16 : decode cX14_margin 16 = .ok (.invokevirtual 534, 3) := by decide +kernel
theorem dX14_margin_19 : decode cX14_margin 19 = .ok (.iconst 2, 1) := by decide +kernel
theorem dX14_margin_20 : decode cX14_margin 20 = .ok (.istore_n 2, 1) := by decide +kernel
theorem dX14_margin_21 : decode cX14_margin 21 = .ok (.iload_n 2, 1) := by decide +kernel
theorem dX14_margin_22 : decode cX14_margin 22 = .ok (.ifCond .lt 26, 3) := by decide +kernel
theorem dX14_margin_25 : decode cX14_margin 25 = .ok (.aload_n 0, 1) := by decide +kernel
theorem dX14_margin_26 : decode cX14_margin 26 = .ok (.getfield 72, 3) := by decide +kernel
theorem dX14_margin_29 : decode cX14_margin 29 = .ok (.bipush 13, 2) := by decide +kernel
theorem dX14_margin_31 : decode cX14_margin 31 = .ok (.iload_n 2, 1) := by decide +kernel
theorem dX14_margin_32 : decode cX14_margin 32 = .ok (.imul, 1) := by decide +kernel
theorem dX14_margin_33 : decode cX14_margin 33 = .ok (.iload_n 1, 1) := by decide +kernel
theorem dX14_margin_34 : decode cX14_margin 34 = .ok (.invokestatic 503, 3) := by decide +kernel
theorem dX14_margin_37 : decode cX14_margin 37 = .ok (.ifCond .eq 5, 3) := by decide +kernel
theorem dX14_margin_40 : decode cX14_margin 40 = .ok (.iload_n 2, 1) := by decide +kernel
theorem dX14_margin_41 : decode cX14_margin 41 = .ok (.ireturn, 1) := by decide +kernel
theorem dX14_margin_42 : decode cX14_margin 42 = .ok (.iinc 2 (-1), 3) := by decide +kernel
theorem dX14_margin_45 : decode cX14_margin 45 = .ok (.goto (-24), 3) := by decide +kernel
theorem dX14_margin_48 : decode cX14_margin 48 = .ok (.bipush (-2), 2) := by decide +kernel
theorem dX14_margin_50 : decode cX14_margin 50 = .ok (.ireturn, 1) := by decide +kernel
def s_X14_margin_21_b  (k21 : Nat → Int32 → Int32 → aH → aO) (l0 : Nat) (l1 : Int32) (l2 : Int32) (h : aH) : aO :=
  if l2 < 0 then (some (.inl (some (.int (-2))), h)) else ((gO h (.ref l0) 14 38).bind fun x26 => cI (s_X14_isIn x26 (13 * l2) l1 h) fun x34 h34 => if x34 = 0 then (k21 l0 l1 (l2 + (-1)) h34) else (some (.inl (some (.int l2)), h34)))
def s_X14_margin_21  (n : Nat) : Nat → Int32 → Int32 → aH → aO := lpF (fun _ _ _ _ => none) (s_X14_margin_21_b ) n
def s_X14_margin (o : Nat) (a1 : Int32) (h : aH) : aO :=
  (pF h (.ref o) 14 0 (.int 0)).bind fun h2 => kO h2 o 14 (cI (s_X14_isCell o a1 h2) fun x7 h7 => if x7 = 0 then (some (.inl (some (.int (-1))), h7)) else (kO h7 o 14 (cN (s_X14_finds o h7) fun h16 => s_X14_margin_21 FU o a1 2 h16)))
section
variable {p : Program} {l : Launch} {e : Env} {s : State} {m : MethodId} {args : Array Value} {below : List Frame} {meth : Method} {c : Code} {D : va_G} {B0 : Nat} {X : Nat → Nat} {ws0 : va_W} {r : aR} {h' : aH} {mc ms : Nat}
theorem t_X14_margin_21_b (C : Cx p l s m args meth c B0 X RX14 "margin" cX14_margin 3 (some .int) [])   {k21 : Nat → Int32 → Int32 → aH → aO} (K21 : ∀ (l0 : Nat) (l1 : Int32) (l2 : Int32) (h : aH), k21 l0 l1 l2 h = some (r, h') → Ev p l e { frames := 7, cells := mc, slots := ms, locals := 174 } s m args below meth c D B0 X ws0 r h' mc ms 3 mc ms 21 [some (.ref l0), some (.int l1), some (.int l2)] [] h) {l0 : Nat} {l1 : Int32} {l2 : Int32} {h : aH} (hs : s_X14_margin_21_b  k21 l0 l1 l2 h = some (r, h')) : Ev p l e { frames := 7, cells := mc, slots := ms, locals := 174 } s m args below meth c D B0 X ws0 r h' mc ms 3 mc ms 21 [some (.ref l0), some (.int l1), some (.int l2)] [] h := by
  unfold s_X14_margin_21_b at hs
  refine ev_iload_n C rfl dX14_margin_21 ?_
  refine ev_if_lt C (tgt := 48) (by decide) dX14_margin_22 (fun q22 => ?_) (fun q22 => ?_)
  · replace hs := (if_pos q22).symm.trans hs
    refine ev_bipush C (v := (-2)) dX14_margin_48 (by decide) ?_
    cases hs
    exact ev_iret C rfl rfl (Nat.le_refl _) (Nat.le_refl _) rfl dX14_margin_50
  · replace hs := (if_neg q22).symm.trans hs
    refine ev_aload_n C (x := .ref l0) rfl trivial dX14_margin_25 ?_
    obtain ⟨x26, e26, hs⟩ := aB hs
    refine ev_get C (ci := 14) (k := 38) rfl wu_14 (by decide) wf_X14_72 (gO_F e26) dX14_margin_26 ?_
    refine ev_bipush C (v := 13) dX14_margin_29 (by decide) ?_
    refine ev_iload_n C rfl dX14_margin_31 ?_
    refine ev_imul C dX14_margin_32 ?_
    refine ev_iload_n C rfl dX14_margin_33 ?_
    obtain ⟨x34, h34, e34, hs⟩ := cI_at hs
    refine ev_callS C (T_X14_isIn _ _ _ _ _ _ e34) wc_X14_isIn wm_X14_503 wt_X14_isIn wz_X14 hy_X14_isIn ⟨(Nat.le_of_ble_eq_true rfl), (Nat.le_of_ble_eq_true rfl)⟩ ⟨(Nat.le_refl _), (Nat.le_refl _)⟩ (Nat.le_of_ble_eq_true rfl) rfl dX14_margin_34 ?_
    refine ev_if_eq C (tgt := 42) (by decide) dX14_margin_37 (fun q37 => ?_) (fun q37 => ?_)
    · replace hs := (if_pos q37).symm.trans hs
      refine ev_iinc C (i := 2) (n := -1) (x := l2) (v := l2 + (-1)) rfl (congrArg (fun z => l2 + z) (show Int32.ofInt (-1) = (-1) by decide)) (by decide) dX14_margin_42 ?_
      refine ev_goto C (tgt := 21) (by decide) dX14_margin_45 ?_
      exact (K21 _ _ _ _ hs)
    · replace hs := (if_neg q37).symm.trans hs
      refine ev_iload_n C rfl dX14_margin_40 ?_
      cases hs
      exact ev_iret C rfl rfl (Nat.le_refl _) (Nat.le_refl _) rfl dX14_margin_41
theorem t_X14_margin_21 (C : Cx p l s m args meth c B0 X RX14 "margin" cX14_margin 3 (some .int) [])   : ∀ (n : Nat) {l0 : Nat} {l1 : Int32} {l2 : Int32} {h : aH} (hs : s_X14_margin_21  n l0 l1 l2 h = some (r, h')), Ev p l e { frames := 7, cells := mc, slots := ms, locals := 174 } s m args below meth c D B0 X ws0 r h' mc ms 3 mc ms 21 [some (.ref l0), some (.int l1), some (.int l2)] [] h
  | 0, _, _, _, _, hs => nomatch hs
  | n + 1, _, _, _, _, hs => t_X14_margin_21_b C  (k21 := s_X14_margin_21  n) (fun _ _ _ _ hs => t_X14_margin_21 C  n hs) hs
theorem hy_X14_margin : yX14_margin.cls ≠ "java/lang/invoke/MethodHandle" ∧ yX14_margin.cls ≠ "java/lang/invoke/VarHandle" ∧ (parseMethodDescriptor yX14_margin.desc).map (fun d => d.parameters.length) = some 1 := by decide +kernel
theorem T_X14_margin (o : Nat) (a1 : Int32) (h : aH) (r : aR) (h' : aH) (hs : s_X14_margin o a1 h = some (r, h')) : Mt yX14_margin (Cond.code yX14_margin cX14_margin 3 (some .int) :: aTB) 7 174 0 0 [.ref o, .int a1] h r h' := by
  unfold s_X14_margin at hs
  refine Mt_of (k := 1) (by decide) rfl (fun p l e s m args below meth c D B0 X ws0 C => ?_)
  show Ev p l e { frames := 7, cells := 0, slots := 0, locals := 174 } s m args below meth c D B0 X ws0 r h' 0 0 3 0 0 0 [some (.ref o), some (.int a1), none] [] h
  refine ev_aload_n C (x := .ref o) rfl trivial dX14_margin_0 ?_
  refine ev_iconst C (v := 0) dX14_margin_1 (by decide) ?_
  obtain ⟨h2, e2, hs⟩ := aB hs
  refine ev_put C (ci := 14) (k := 0) rfl wu_14 (by decide) tyX14 tyX14_ok nmX14 wf_X14_154 rfl trivial e2 dX14_margin_2 ?_
  refine ev_aload_n C (x := .ref o) rfl trivial dX14_margin_5 ?_
  refine ev_iload_n C rfl dX14_margin_6 ?_
  obtain ⟨eo7, hs⟩ := kO_at hs
  obtain ⟨x7, h7, e7, hs⟩ := cI_at hs
  refine ev_callV C (T_X14_isCell _ _ _ _ _ e7) (ci := 14) rfl eo7 wc_X14_isCell wm_X14_474 wi_X14_isCell ws_X14_isCell wz_X14 hy_X14_isCell ⟨(Nat.le_of_ble_eq_true rfl), (Nat.le_of_ble_eq_true rfl)⟩ ⟨(Nat.le_refl _), (Nat.le_refl _)⟩ (Nat.le_of_ble_eq_true rfl) rfl dX14_margin_7 ?_
  refine ev_if_ne C (tgt := 15) (by decide) dX14_margin_10 (fun q10 => ?_) (fun q10 => ?_)
  · replace hs := (if_neg q10).symm.trans hs
    refine ev_aload_n C (x := .ref o) rfl trivial dX14_margin_15 ?_
    obtain ⟨eo16, hs⟩ := kO_at hs
    obtain ⟨h16, e16, hs⟩ := cN_at hs
    refine ev_callV C (T_X14_finds _ _ _ _ e16) (ci := 14) rfl eo16 wc_X14_finds wm_X14_534 wi_X14_finds ws_X14_finds wz_X14 hy_X14_finds ⟨(Nat.le_of_ble_eq_true rfl), (Nat.le_of_ble_eq_true rfl)⟩ ⟨(Nat.le_refl _), (Nat.le_refl _)⟩ (Nat.le_of_ble_eq_true rfl) rfl dX14_margin_16 ?_
    refine ev_iconst C (v := 2) dX14_margin_19 (by decide) ?_
    refine ev_istore_n C (by decide) dX14_margin_20 ?_
    exact (t_X14_margin_21 C  FU hs)
  · replace hs := (if_pos q10).symm.trans hs
    refine ev_iconst C (v := (-1)) dX14_margin_13 (by decide) ?_
    cases hs
    exact ev_iret C rfl rfl (Nat.le_refl _) (Nat.le_refl _) rfl dX14_margin_14
end
-- X14_carries
theorem dX14_carries_0 : decode cX14_carries 0 = .ok (.iconst 0, 1) := by decide +kernel
theorem dX14_carries_1 : decode cX14_carries 1 = .ok (.istore 4, 2) := by decide +kernel
theorem dX14_carries_3 : decode cX14_carries 3 = .ok (.iload 4, 2) := by decide +kernel
theorem dX14_carries_5 : decode cX14_carries 5 = .ok (.iconst 3, 1) := by decide +kernel
theorem dX14_carries_6 : decode cX14_carries 6 = .ok (.if_icmp .ge 89, 3) := by decide +kernel
theorem dX14_carries_9 : decode cX14_carries 9 = .ok (.lconst 0, 1) := by decide +kernel
theorem dX14_carries_10 : decode cX14_carries 10 = .ok (.lstore 5, 2) := by decide +kernel
theorem dX14_carries_12 : decode cX14_carries 12 = .ok (.iconst 0, 1) := by decide +kernel
theorem dX14_carries_13 : decode cX14_carries 13 = .ok (.istore 7, 2) := by decide +kernel
theorem dX14_carries_15 : decode cX14_carries 15 = .ok (.iload 7, 2) := by decide +kernel
theorem dX14_carries_17 : decode cX14_carries 17 = .ok (.iconst 3, 1) := by decide +kernel
theorem dX14_carries_18 : decode cX14_carries 18 = .ok (.if_icmp .ge 58, 3) := by decide +kernel
theorem dX14_carries_21 : decode cX14_carries 21 = .ok (.lload 5, 2) := by decide +kernel
theorem dX14_carries_23 : decode cX14_carries 23 = .ok (.iload_n 3, 1) := by decide +kernel
theorem dX14_carries_24 : decode cX14_carries 24 = .ok (.ifCond .eq 18, 3) := by decide +kernel
theorem dX14_carries_27 : decode cX14_carries 27 = .ok (.aload_n 0, 1) := by decide +kernel
theorem dX14_carries_28 : decode cX14_carries 28 = .ok (.getfield 94, 3) := by decide +kernel
theorem dX14_carries_31 : decode cX14_carries 31 = .ok (.iconst 3, 1) := by decide +kernel
theorem dX14_carries_32 : decode cX14_carries 32 = .ok (.iload 7, 2) := by decide +kernel
theorem dX14_carries_34 : decode cX14_carries 34 = .ok (.imul, 1) := by decide +kernel
theorem dX14_carries_35 : decode cX14_carries 35 = .ok (.iload 4, 2) := by decide +kernel
theorem dX14_carries_37 : decode cX14_carries 37 = .ok (.iadd, 1) := by decide +kernel
theorem dX14_carries_38 : decode cX14_carries 38 = .ok (.iaload, 1) := by decide +kernel
theorem dX14_carries_39 : decode cX14_carries 39 = .ok (.goto 15, 3) := by decide +kernel
theorem dX14_carries_42 : decode cX14_carries 42 = .ok (.aload_n 0, 1) := by decide +kernel
theorem dX14_carries_43 : decode cX14_carries 43 = .ok (.getfield 94, 3) := by decide +kernel
theorem dX14_carries_46 : decode cX14_carries 46 = .ok (.iconst 3, 1) := by decide +kernel
theorem dX14_carries_47 : decode cX14_carries 47 = .ok (.iload 4, 2) := by decide +kernel
theorem dX14_carries_49 : decode cX14_carries 49 = .ok (.imul, 1) := by decide +kernel
theorem dX14_carries_50 : decode cX14_carries 50 = .ok (.iload 7, 2) := by decide +kernel
theorem dX14_carries_52 : decode cX14_carries 52 = .ok (.iadd, 1) := by decide +kernel
theorem dX14_carries_53 : decode cX14_carries 53 = .ok (.iaload, 1) := by decide +kernel
theorem dX14_carries_54 : decode cX14_carries 54 = .ok (.i2l, 1) := by decide +kernel
theorem dX14_carries_55 : decode cX14_carries 55 = .ok (.aload_n 0, 1) := by decide +kernel
theorem dX14_carries_56 : decode cX14_carries 56 = .ok (.getfield 109, 3) := by decide +kernel
theorem dX14_carries_59 : decode cX14_carries 59 = .ok (.iconst 3, 1) := by decide +kernel
theorem dX14_carries_60 : decode cX14_carries 60 = .ok (.iload_n 1, 1) := by decide +kernel
theorem dX14_carries_61 : decode cX14_carries 61 = .ok (.imul, 1) := by decide +kernel
theorem dX14_carries_62 : decode cX14_carries 62 = .ok (.iload 7, 2) := by decide +kernel
theorem dX14_carries_64 : decode cX14_carries 64 = .ok (.iadd, 1) := by decide +kernel
theorem dX14_carries_65 : decode cX14_carries 65 = .ok (.laload, 1) := by decide +kernel
theorem dX14_carries_66 : decode cX14_carries 66 = .ok (.lmul, 1) := by decide +kernel
theorem dX14_carries_67 : decode cX14_carries 67 = .ok (.ladd, 1) := by decide +kernel
theorem dX14_carries_68 : decode cX14_carries 68 = .ok (.lstore 5, 2) := by decide +kernel
theorem dX14_carries_70 : decode cX14_carries 70 = .ok (.iinc 7 1, 3) := by decide +kernel
theorem dX14_carries_73 : decode cX14_carries 73 = .ok (.goto (-58), 3) := by decide +kernel
theorem dX14_carries_76 : decode cX14_carries 76 = .ok (.aload_n 0, 1) := by decide +kernel
theorem dX14_carries_77 : decode cX14_carries 77 = .ok (.getfield 109, 3) := by decide +kernel
theorem dX14_carries_80 : decode cX14_carries 80 = .ok (.iconst 3, 1) := by decide +kernel
theorem dX14_carries_81 : decode cX14_carries 81 = .ok (.iload_n 2, 1) := by decide +kernel
theorem dX14_carries_82 : decode cX14_carries 82 = .ok (.imul, 1) := by decide +kernel
theorem dX14_carries_83 : decode cX14_carries 83 = .ok (.iload 4, 2) := by decide +kernel
theorem dX14_carries_85 : decode cX14_carries 85 = .ok (.iadd, 1) := by decide +kernel
theorem dX14_carries_86 : decode cX14_carries 86 = .ok (.lload 5, 2) := by decide +kernel
theorem dX14_carries_88 : decode cX14_carries 88 = .ok (.lastore, 1) := by decide +kernel
theorem dX14_carries_89 : decode cX14_carries 89 = .ok (.iinc 4 1, 3) := by decide +kernel
theorem dX14_carries_92 : decode cX14_carries 92 = .ok (.goto (-89), 3) := by decide +kernel
theorem dX14_carries_95 : decode cX14_carries 95 = .ok (.return_, 1) := by decide +kernel
def s_X14_carries_54 (k3 : Nat → Int32 → Int32 → Int32 → Int32 → aH → aO) (k15 : Nat → Int32 → Int32 → Int32 → Int32 → Int64 → Int32 → aH → aO) (l0 : Nat) (l1 : Int32) (l2 : Int32) (l3 : Int32) (l4 : Int32) (l7 : Int32) (s0 : Int32) (s1 : Int64) (h : aH) : aO :=
  (gO h (.ref l0) 14 51).bind fun x56 => (ldJ h (.ref x56) ((3 * l1) + l7)).bind fun x65 => k15 l0 l1 l2 l3 l4 (s1 + (s0.toInt64 * x65)) (l7 + 1) h
def s_X14_carries_15_b (k3 : Nat → Int32 → Int32 → Int32 → Int32 → aH → aO) (k15 : Nat → Int32 → Int32 → Int32 → Int32 → Int64 → Int32 → aH → aO) (l0 : Nat) (l1 : Int32) (l2 : Int32) (l3 : Int32) (l4 : Int32) (l5 : Int64) (l7 : Int32) (h : aH) : aO :=
  if 3 ≤ l7 then ((gO h (.ref l0) 14 51).bind fun x77 => (stJ h (.ref x77) ((3 * l2) + l4) l5).bind fun h88 => k3 l0 l1 l2 l3 (l4 + 1) h88) else (if l3 = 0 then ((gO h (.ref l0) 14 45).bind fun x43 => (ldI .int h (.ref x43) ((3 * l4) + l7)).bind fun x53 => s_X14_carries_54 k3 k15 l0 l1 l2 l3 l4 l7 x53 l5 h) else ((gO h (.ref l0) 14 45).bind fun x28 => (ldI .int h (.ref x28) ((3 * l7) + l4)).bind fun x38 => s_X14_carries_54 k3 k15 l0 l1 l2 l3 l4 l7 x38 l5 h))
def s_X14_carries_15 (k3 : Nat → Int32 → Int32 → Int32 → Int32 → aH → aO) (n : Nat) : Nat → Int32 → Int32 → Int32 → Int32 → Int64 → Int32 → aH → aO := lpF (fun _ _ _ _ _ _ _ _ => none) (s_X14_carries_15_b k3) n
def s_X14_carries_3_b  (k3 : Nat → Int32 → Int32 → Int32 → Int32 → aH → aO) (l0 : Nat) (l1 : Int32) (l2 : Int32) (l3 : Int32) (l4 : Int32) (h : aH) : aO :=
  if 3 ≤ l4 then (some (.inl none, h)) else (s_X14_carries_15 k3 FU l0 l1 l2 l3 l4 0 0 h)
def s_X14_carries_3  (n : Nat) : Nat → Int32 → Int32 → Int32 → Int32 → aH → aO := lpF (fun _ _ _ _ _ _ => none) (s_X14_carries_3_b ) n
def s_X14_carries (o : Nat) (a1 : Int32) (a2 : Int32) (a3 : Int32) (h : aH) : aO :=
  s_X14_carries_3 FU o a1 a2 a3 0 h
section
variable {p : Program} {l : Launch} {e : Env} {s : State} {m : MethodId} {args : Array Value} {below : List Frame} {meth : Method} {c : Code} {D : va_G} {B0 : Nat} {X : Nat → Nat} {ws0 : va_W} {r : aR} {h' : aH} {mc ms : Nat}
theorem t_X14_carries_54 (C : Cx p l s m args meth c B0 X RX14 "carries" cX14_carries 8 none []) {k3 : Nat → Int32 → Int32 → Int32 → Int32 → aH → aO} {k15 : Nat → Int32 → Int32 → Int32 → Int32 → Int64 → Int32 → aH → aO} (K3 : ∀ (l0 : Nat) (l1 : Int32) (l2 : Int32) (l3 : Int32) (l4 : Int32) (h : aH), k3 l0 l1 l2 l3 l4 h = some (r, h') → Ev p l e { frames := 0, cells := mc, slots := ms, locals := 0 } s m args below meth c D B0 X ws0 r h' mc ms 8 mc ms 3 [some (.ref l0), some (.int l1), some (.int l2), some (.int l3), some (.int l4), none, none, none] [] h) (K15 : ∀ (l0 : Nat) (l1 : Int32) (l2 : Int32) (l3 : Int32) (l4 : Int32) (l5 : Int64) (l7 : Int32) (h : aH), k15 l0 l1 l2 l3 l4 l5 l7 h = some (r, h') → Ev p l e { frames := 0, cells := mc, slots := ms, locals := 0 } s m args below meth c D B0 X ws0 r h' mc ms 8 mc ms 15 [some (.ref l0), some (.int l1), some (.int l2), some (.int l3), some (.int l4), some (.long l5), none, some (.int l7)] [] h) {l0 : Nat} {l1 : Int32} {l2 : Int32} {l3 : Int32} {l4 : Int32} {l7 : Int32} {s0 : Int32} {s1 : Int64} {h : aH} (hs : s_X14_carries_54 k3 k15 l0 l1 l2 l3 l4 l7 s0 s1 h = some (r, h')) : Ev p l e { frames := 0, cells := mc, slots := ms, locals := 0 } s m args below meth c D B0 X ws0 r h' mc ms 8 mc ms 54 [some (.ref l0), some (.int l1), some (.int l2), some (.int l3), some (.int l4), none, none, some (.int l7)] [.int s0, .long s1] h := by
  unfold s_X14_carries_54 at hs
  refine ev_i2l C dX14_carries_54 ?_
  refine ev_aload_n C (x := .ref l0) rfl trivial dX14_carries_55 ?_
  obtain ⟨x56, e56, hs⟩ := aB hs
  refine ev_get C (ci := 14) (k := 51) rfl wu_14 (by decide) wf_X14_109 (gO_F e56) dX14_carries_56 ?_
  refine ev_iconst C (v := 3) dX14_carries_59 (by decide) ?_
  refine ev_iload_n C rfl dX14_carries_60 ?_
  refine ev_imul C dX14_carries_61 ?_
  refine ev_iload C rfl dX14_carries_62 ?_
  refine ev_iadd C dX14_carries_64 ?_
  obtain ⟨x65, e65, hs⟩ := aB hs
  refine ev_lald C e65 dX14_carries_65 ?_
  refine ev_lmul C dX14_carries_66 ?_
  refine ev_ladd C dX14_carries_67 ?_
  refine ev_lstore C (by decide) dX14_carries_68 ?_
  refine ev_iinc C (i := 7) (n := 1) (x := l7) (v := l7 + 1) rfl (congrArg (fun z => l7 + z) (show Int32.ofInt 1 = 1 by decide)) (by decide) dX14_carries_70 ?_
  refine ev_goto C (tgt := 15) (by decide) dX14_carries_73 ?_
  exact (K15 _ _ _ _ _ _ _ _ hs)
theorem t_X14_carries_15_b (C : Cx p l s m args meth c B0 X RX14 "carries" cX14_carries 8 none []) {k3 : Nat → Int32 → Int32 → Int32 → Int32 → aH → aO} (K3 : ∀ (l0 : Nat) (l1 : Int32) (l2 : Int32) (l3 : Int32) (l4 : Int32) (h : aH), k3 l0 l1 l2 l3 l4 h = some (r, h') → Ev p l e { frames := 0, cells := mc, slots := ms, locals := 0 } s m args below meth c D B0 X ws0 r h' mc ms 8 mc ms 3 [some (.ref l0), some (.int l1), some (.int l2), some (.int l3), some (.int l4), none, none, none] [] h) {k15 : Nat → Int32 → Int32 → Int32 → Int32 → Int64 → Int32 → aH → aO} (K15 : ∀ (l0 : Nat) (l1 : Int32) (l2 : Int32) (l3 : Int32) (l4 : Int32) (l5 : Int64) (l7 : Int32) (h : aH), k15 l0 l1 l2 l3 l4 l5 l7 h = some (r, h') → Ev p l e { frames := 0, cells := mc, slots := ms, locals := 0 } s m args below meth c D B0 X ws0 r h' mc ms 8 mc ms 15 [some (.ref l0), some (.int l1), some (.int l2), some (.int l3), some (.int l4), some (.long l5), none, some (.int l7)] [] h) {l0 : Nat} {l1 : Int32} {l2 : Int32} {l3 : Int32} {l4 : Int32} {l5 : Int64} {l7 : Int32} {h : aH} (hs : s_X14_carries_15_b k3 k15 l0 l1 l2 l3 l4 l5 l7 h = some (r, h')) : Ev p l e { frames := 0, cells := mc, slots := ms, locals := 0 } s m args below meth c D B0 X ws0 r h' mc ms 8 mc ms 15 [some (.ref l0), some (.int l1), some (.int l2), some (.int l3), some (.int l4), some (.long l5), none, some (.int l7)] [] h := by
  unfold s_X14_carries_15_b at hs
  refine ev_iload C rfl dX14_carries_15 ?_
  refine ev_iconst C (v := 3) dX14_carries_17 (by decide) ?_
  refine ev_icmp_ge C (tgt := 76) (by decide) dX14_carries_18 (fun q18 => ?_) (fun q18 => ?_)
  · replace hs := (if_pos q18).symm.trans hs
    refine ev_aload_n C (x := .ref l0) rfl trivial dX14_carries_76 ?_
    obtain ⟨x77, e77, hs⟩ := aB hs
    refine ev_get C (ci := 14) (k := 51) rfl wu_14 (by decide) wf_X14_109 (gO_F e77) dX14_carries_77 ?_
    refine ev_iconst C (v := 3) dX14_carries_80 (by decide) ?_
    refine ev_iload_n C rfl dX14_carries_81 ?_
    refine ev_imul C dX14_carries_82 ?_
    refine ev_iload C rfl dX14_carries_83 ?_
    refine ev_iadd C dX14_carries_85 ?_
    refine ev_lload C rfl dX14_carries_86 ?_
    obtain ⟨h88, e88, hs⟩ := aB hs
    refine ev_last C e88 dX14_carries_88 ?_
    refine ev_iinc C (i := 4) (n := 1) (x := l4) (v := l4 + 1) rfl (congrArg (fun z => l4 + z) (show Int32.ofInt 1 = 1 by decide)) (by decide) dX14_carries_89 ?_
    refine ev_goto C (tgt := 3) (by decide) dX14_carries_92 ?_
    exact Ev.keep [true, true, true, true, true, false, true, false] (K3 _ _ _ _ _ _ hs)
  · replace hs := (if_neg q18).symm.trans hs
    refine ev_lload C rfl dX14_carries_21 ?_
    refine ev_iload_n C rfl dX14_carries_23 ?_
    refine ev_if_eq C (tgt := 42) (by decide) dX14_carries_24 (fun q24 => ?_) (fun q24 => ?_)
    · replace hs := (if_pos q24).symm.trans hs
      refine ev_aload_n C (x := .ref l0) rfl trivial dX14_carries_42 ?_
      obtain ⟨x43, e43, hs⟩ := aB hs
      refine ev_get C (ci := 14) (k := 45) rfl wu_14 (by decide) wf_X14_94 (gO_F e43) dX14_carries_43 ?_
      refine ev_iconst C (v := 3) dX14_carries_46 (by decide) ?_
      refine ev_iload C rfl dX14_carries_47 ?_
      refine ev_imul C dX14_carries_49 ?_
      refine ev_iload C rfl dX14_carries_50 ?_
      refine ev_iadd C dX14_carries_52 ?_
      obtain ⟨x53, e53, hs⟩ := aB hs
      refine ev_iald C e53 dX14_carries_53 ?_
      exact Ev.keep [true, true, true, true, true, false, true, true] (t_X14_carries_54 C K3 K15 hs)
    · replace hs := (if_neg q24).symm.trans hs
      refine ev_aload_n C (x := .ref l0) rfl trivial dX14_carries_27 ?_
      obtain ⟨x28, e28, hs⟩ := aB hs
      refine ev_get C (ci := 14) (k := 45) rfl wu_14 (by decide) wf_X14_94 (gO_F e28) dX14_carries_28 ?_
      refine ev_iconst C (v := 3) dX14_carries_31 (by decide) ?_
      refine ev_iload C rfl dX14_carries_32 ?_
      refine ev_imul C dX14_carries_34 ?_
      refine ev_iload C rfl dX14_carries_35 ?_
      refine ev_iadd C dX14_carries_37 ?_
      obtain ⟨x38, e38, hs⟩ := aB hs
      refine ev_iald C e38 dX14_carries_38 ?_
      refine ev_goto C (tgt := 54) (by decide) dX14_carries_39 ?_
      exact Ev.keep [true, true, true, true, true, false, true, true] (t_X14_carries_54 C K3 K15 hs)
theorem t_X14_carries_15 (C : Cx p l s m args meth c B0 X RX14 "carries" cX14_carries 8 none []) {k3 : Nat → Int32 → Int32 → Int32 → Int32 → aH → aO} (K3 : ∀ (l0 : Nat) (l1 : Int32) (l2 : Int32) (l3 : Int32) (l4 : Int32) (h : aH), k3 l0 l1 l2 l3 l4 h = some (r, h') → Ev p l e { frames := 0, cells := mc, slots := ms, locals := 0 } s m args below meth c D B0 X ws0 r h' mc ms 8 mc ms 3 [some (.ref l0), some (.int l1), some (.int l2), some (.int l3), some (.int l4), none, none, none] [] h) : ∀ (n : Nat) {l0 : Nat} {l1 : Int32} {l2 : Int32} {l3 : Int32} {l4 : Int32} {l5 : Int64} {l7 : Int32} {h : aH} (hs : s_X14_carries_15 k3 n l0 l1 l2 l3 l4 l5 l7 h = some (r, h')), Ev p l e { frames := 0, cells := mc, slots := ms, locals := 0 } s m args below meth c D B0 X ws0 r h' mc ms 8 mc ms 15 [some (.ref l0), some (.int l1), some (.int l2), some (.int l3), some (.int l4), some (.long l5), none, some (.int l7)] [] h
  | 0, _, _, _, _, _, _, _, _, hs => nomatch hs
  | n + 1, _, _, _, _, _, _, _, _, hs => t_X14_carries_15_b C K3 (k15 := s_X14_carries_15 k3 n) (fun _ _ _ _ _ _ _ _ hs => t_X14_carries_15 C K3 n hs) hs
theorem t_X14_carries_3_b (C : Cx p l s m args meth c B0 X RX14 "carries" cX14_carries 8 none [])   {k3 : Nat → Int32 → Int32 → Int32 → Int32 → aH → aO} (K3 : ∀ (l0 : Nat) (l1 : Int32) (l2 : Int32) (l3 : Int32) (l4 : Int32) (h : aH), k3 l0 l1 l2 l3 l4 h = some (r, h') → Ev p l e { frames := 0, cells := mc, slots := ms, locals := 0 } s m args below meth c D B0 X ws0 r h' mc ms 8 mc ms 3 [some (.ref l0), some (.int l1), some (.int l2), some (.int l3), some (.int l4), none, none, none] [] h) {l0 : Nat} {l1 : Int32} {l2 : Int32} {l3 : Int32} {l4 : Int32} {h : aH} (hs : s_X14_carries_3_b  k3 l0 l1 l2 l3 l4 h = some (r, h')) : Ev p l e { frames := 0, cells := mc, slots := ms, locals := 0 } s m args below meth c D B0 X ws0 r h' mc ms 8 mc ms 3 [some (.ref l0), some (.int l1), some (.int l2), some (.int l3), some (.int l4), none, none, none] [] h := by
  unfold s_X14_carries_3_b at hs
  refine ev_iload C rfl dX14_carries_3 ?_
  refine ev_iconst C (v := 3) dX14_carries_5 (by decide) ?_
  refine ev_icmp_ge C (tgt := 95) (by decide) dX14_carries_6 (fun q6 => ?_) (fun q6 => ?_)
  · replace hs := (if_pos q6).symm.trans hs
    cases hs
    exact ev_vret C rfl rfl (Nat.le_refl _) (Nat.le_refl _) rfl dX14_carries_95
  · replace hs := (if_neg q6).symm.trans hs
    refine ev_lconst C (v := 0) dX14_carries_9 (by decide) ?_
    refine ev_lstore C (by decide) dX14_carries_10 ?_
    refine ev_iconst C (v := 0) dX14_carries_12 (by decide) ?_
    refine ev_istore C (by decide) dX14_carries_13 ?_
    exact (t_X14_carries_15 C K3 FU hs)
theorem t_X14_carries_3 (C : Cx p l s m args meth c B0 X RX14 "carries" cX14_carries 8 none [])   : ∀ (n : Nat) {l0 : Nat} {l1 : Int32} {l2 : Int32} {l3 : Int32} {l4 : Int32} {h : aH} (hs : s_X14_carries_3  n l0 l1 l2 l3 l4 h = some (r, h')), Ev p l e { frames := 0, cells := mc, slots := ms, locals := 0 } s m args below meth c D B0 X ws0 r h' mc ms 8 mc ms 3 [some (.ref l0), some (.int l1), some (.int l2), some (.int l3), some (.int l4), none, none, none] [] h
  | 0, _, _, _, _, _, _, hs => nomatch hs
  | n + 1, _, _, _, _, _, _, hs => t_X14_carries_3_b C  (k3 := s_X14_carries_3  n) (fun _ _ _ _ _ _ hs => t_X14_carries_3 C  n hs) hs
theorem hy_X14_carries : yX14_carries.cls ≠ "java/lang/invoke/MethodHandle" ∧ yX14_carries.cls ≠ "java/lang/invoke/VarHandle" ∧ (parseMethodDescriptor yX14_carries.desc).map (fun d => d.parameters.length) = some 3 := by decide +kernel
theorem T_X14_carries (o : Nat) (a1 : Int32) (a2 : Int32) (a3 : Int32) (h : aH) (r : aR) (h' : aH) (hs : s_X14_carries o a1 a2 a3 h = some (r, h')) : Mt yX14_carries (Cond.code yX14_carries cX14_carries 8 none :: aTB) 0 0 0 0 [.ref o, .int a1, .int a2, .int a3] h r h' := by
  unfold s_X14_carries at hs
  refine Mt_of (k := 4) (by decide) rfl (fun p l e s m args below meth c D B0 X ws0 C => ?_)
  show Ev p l e { frames := 0, cells := 0, slots := 0, locals := 0 } s m args below meth c D B0 X ws0 r h' 0 0 8 0 0 0 [some (.ref o), some (.int a1), some (.int a2), some (.int a3), none, none, none, none] [] h
  refine ev_iconst C (v := 0) dX14_carries_0 (by decide) ?_
  refine ev_istore C (by decide) dX14_carries_1 ?_
  exact (t_X14_carries_3 C  FU hs)
end
-- X14_three
theorem dX14_three_0 : decode cX14_three 0 = .ok (.iconst 3, 1) := by decide +kernel
theorem dX14_three_1 : decode cX14_three 1 = .ok (.iload_n 1, 1) := by decide +kernel
theorem dX14_three_2 : decode cX14_three 2 = .ok (.imul, 1) := by decide +kernel
theorem dX14_three_3 : decode cX14_three 3 = .ok (.istore 4, 2) := by decide +kernel
theorem dX14_three_5 : decode cX14_three 5 = .ok (.iconst 3, 1) := by decide +kernel
theorem dX14_three_6 : decode cX14_three 6 = .ok (.iload_n 2, 1) := by decide +kernel
theorem dX14_three_7 : decode cX14_three 7 = .ok (.imul, 1) := by decide +kernel
theorem dX14_three_8 : decode cX14_three 8 = .ok (.istore 5, 2) := by decide +kernel
theorem dX14_three_10 : decode cX14_three 10 = .ok (.iconst 3, 1) := by decide +kernel
theorem dX14_three_11 : decode cX14_three 11 = .ok (.iload_n 3, 1) := by decide +kernel
theorem dX14_three_12 : decode cX14_three 12 = .ok (.imul, 1) := by decide +kernel
theorem dX14_three_13 : decode cX14_three 13 = .ok (.istore 6, 2) := by decide +kernel
theorem dX14_three_15 : decode cX14_three 15 = .ok (.aload_n 0, 1) := by decide +kernel
theorem dX14_three_16 : decode cX14_three 16 = .ok (.getfield 109, 3) := by decide +kernel
theorem dX14_three_19 : decode cX14_three 19 = .ok (.iload 4, 2) := by decide +kernel
theorem dX14_three_21 : decode cX14_three 21 = .ok (.laload, 1) := by decide +kernel
theorem dX14_three_22 : decode cX14_three 22 = .ok (.aload_n 0, 1) := by decide +kernel
theorem dX14_three_23 : decode cX14_three 23 = .ok (.getfield 109, 3) := by decide +kernel
theorem dX14_three_26 : decode cX14_three 26 = .ok (.iload 5, 2) := by decide +kernel
theorem dX14_three_28 : decode cX14_three 28 = .ok (.iconst 1, 1) := by decide +kernel
theorem dX14_three_29 : decode cX14_three 29 = .ok (.iadd, 1) := by decide +kernel
theorem dX14_three_30 : decode cX14_three 30 = .ok (.laload, 1) := by decide +kernel
theorem dX14_three_31 : decode cX14_three 31 = .ok (.aload_n 0, 1) := by decide +kernel
theorem dX14_three_32 : decode cX14_three 32 = .ok (.getfield 109, 3) := by decide +kernel
theorem dX14_three_35 : decode cX14_three 35 = .ok (.iload 6, 2) := by decide +kernel
theorem dX14_three_37 : decode cX14_three 37 = .ok (.iconst 2, 1) := by decide +kernel
theorem dX14_three_38 : decode cX14_three 38 = .ok (.iadd, 1) := by decide +kernel
theorem dX14_three_39 : decode cX14_three 39 = .ok (.laload, 1) := by decide +kernel
theorem dX14_three_40 : decode cX14_three 40 = .ok (.lmul, 1) := by decide +kernel
theorem dX14_three_41 : decode cX14_three 41 = .ok (.aload_n 0, 1) := by decide +kernel
theorem dX14_three_42 : decode cX14_three 42 = .ok (.getfield 109, 3) := by decide +kernel
theorem dX14_three_45 : decode cX14_three 45 = .ok (.iload 5, 2) := by decide +kernel
theorem dX14_three_47 : decode cX14_three 47 = .ok (.iconst 2, 1) := by decide +kernel
theorem dX14_three_48 : decode cX14_three 48 = .ok (.iadd, 1) := by decide +kernel
theorem dX14_three_49 : decode cX14_three 49 = .ok (.laload, 1) := by decide +kernel
theorem dX14_three_50 : decode cX14_three 50 = .ok (.aload_n 0, 1) := by decide +kernel
theorem dX14_three_51 : decode cX14_three 51 = .ok (.getfield 109, 3) := by decide +kernel
theorem dX14_three_54 : decode cX14_three 54 = .ok (.iload 6, 2) := by decide +kernel
theorem dX14_three_56 : decode cX14_three 56 = .ok (.iconst 1, 1) := by decide +kernel
theorem dX14_three_57 : decode cX14_three 57 = .ok (.iadd, 1) := by decide +kernel
theorem dX14_three_58 : decode cX14_three 58 = .ok (.laload, 1) := by decide +kernel
theorem dX14_three_59 : decode cX14_three 59 = .ok (.lmul, 1) := by decide +kernel
theorem dX14_three_60 : decode cX14_three 60 = .ok (.lsub, 1) := by decide +kernel
theorem dX14_three_61 : decode cX14_three 61 = .ok (.lmul, 1) := by decide +kernel
theorem dX14_three_62 : decode cX14_three 62 = .ok (.aload_n 0, 1) := by decide +kernel
theorem dX14_three_63 : decode cX14_three 63 = .ok (.getfield 109, 3) := by decide +kernel
theorem dX14_three_66 : decode cX14_three 66 = .ok (.iload 4, 2) := by decide +kernel
theorem dX14_three_68 : decode cX14_three 68 = .ok (.iconst 1, 1) := by decide +kernel
theorem dX14_three_69 : decode cX14_three 69 = .ok (.iadd, 1) := by decide +kernel
theorem dX14_three_70 : decode cX14_three 70 = .ok (.laload, 1) := by decide +kernel
theorem dX14_three_71 : decode cX14_three 71 = .ok (.aload_n 0, 1) := by decide +kernel
theorem dX14_three_72 : decode cX14_three 72 = .ok (.getfield 109, 3) := by decide +kernel
theorem dX14_three_75 : decode cX14_three 75 = .ok (.iload 5, 2) := by decide +kernel
theorem dX14_three_77 : decode cX14_three 77 = .ok (.laload, 1) := by decide +kernel
theorem dX14_three_78 : decode cX14_three 78 = .ok (.aload_n 0, 1) := by decide +kernel
theorem dX14_three_79 : decode cX14_three 79 = .ok (.getfield 109, 3) := by decide +kernel
theorem dX14_three_82 : decode cX14_three 82 = .ok (.iload 6, 2) := by decide +kernel
theorem dX14_three_84 : decode cX14_three 84 = .ok (.iconst 2, 1) := by decide +kernel
theorem dX14_three_85 : decode cX14_three 85 = .ok (.iadd, 1) := by decide +kernel
theorem dX14_three_86 : decode cX14_three 86 = .ok (.laload, 1) := by decide +kernel
theorem dX14_three_87 : decode cX14_three 87 = .ok (.lmul, 1) := by decide +kernel
theorem dX14_three_88 : decode cX14_three 88 = .ok (.aload_n 0, 1) := by decide +kernel
theorem dX14_three_89 : decode cX14_three 89 = .ok (.getfield 109, 3) := by decide +kernel
theorem dX14_three_92 : decode cX14_three 92 = .ok (.iload 5, 2) := by decide +kernel
theorem dX14_three_94 : decode cX14_three 94 = .ok (.iconst 2, 1) := by decide +kernel
theorem dX14_three_95 : decode cX14_three 95 = .ok (.iadd, 1) := by decide +kernel
theorem dX14_three_96 : decode cX14_three 96 = .ok (.laload, 1) := by decide +kernel
theorem dX14_three_97 : decode cX14_three 97 = .ok (.aload_n 0, 1) := by decide +kernel
theorem dX14_three_98 : decode cX14_three 98 = .ok (.getfield 109, 3) := by decide +kernel
theorem dX14_three_101 : decode cX14_three 101 = .ok (.iload 6, 2) := by decide +kernel
theorem dX14_three_103 : decode cX14_three 103 = .ok (.laload, 1) := by decide +kernel
theorem dX14_three_104 : decode cX14_three 104 = .ok (.lmul, 1) := by decide +kernel
theorem dX14_three_105 : decode cX14_three 105 = .ok (.lsub, 1) := by decide +kernel
theorem dX14_three_106 : decode cX14_three 106 = .ok (.lmul, 1) := by decide +kernel
theorem dX14_three_107 : decode cX14_three 107 = .ok (.lsub, 1) := by decide +kernel
theorem dX14_three_108 : decode cX14_three 108 = .ok (.aload_n 0, 1) := by decide +kernel
theorem dX14_three_109 : decode cX14_three 109 = .ok (.getfield 109, 3) := by decide +kernel
theorem dX14_three_112 : decode cX14_three 112 = .ok (.iload 4, 2) := by decide +kernel
theorem dX14_three_114 : decode cX14_three 114 = .ok (.iconst 2, 1) := by decide +kernel
theorem dX14_three_115 : decode cX14_three 115 = .ok (.iadd, 1) := by decide +kernel
theorem dX14_three_116 : decode cX14_three 116 = .ok (.laload, 1) := by decide +kernel
theorem dX14_three_117 : decode cX14_three 117 = .ok (.aload_n 0, 1) := by decide +kernel
theorem dX14_three_118 : decode cX14_three 118 = .ok (.getfield 109, 3) := by decide +kernel
theorem dX14_three_121 : decode cX14_three 121 = .ok (.iload 5, 2) := by decide +kernel
theorem dX14_three_123 : decode cX14_three 123 = .ok (.laload, 1) := by decide +kernel
theorem dX14_three_124 : decode cX14_three 124 = .ok (.aload_n 0, 1) := by decide +kernel
theorem dX14_three_125 : decode cX14_three 125 = .ok (.getfield 109, 3) := by decide +kernel
theorem dX14_three_128 : decode cX14_three 128 = .ok (.iload 6, 2) := by decide +kernel
theorem dX14_three_130 : decode cX14_three 130 = .ok (.iconst 1, 1) := by decide +kernel
theorem dX14_three_131 : decode cX14_three 131 = .ok (.iadd, 1) := by decide +kernel
theorem dX14_three_132 : decode cX14_three 132 = .ok (.laload, 1) := by decide +kernel
theorem dX14_three_133 : decode cX14_three 133 = .ok (.lmul, 1) := by decide +kernel
theorem dX14_three_134 : decode cX14_three 134 = .ok (.aload_n 0, 1) := by decide +kernel
theorem dX14_three_135 : decode cX14_three 135 = .ok (.getfield 109, 3) := by decide +kernel
theorem dX14_three_138 : decode cX14_three 138 = .ok (.iload 5, 2) := by decide +kernel
theorem dX14_three_140 : decode cX14_three 140 = .ok (.iconst 1, 1) := by decide +kernel
theorem dX14_three_141 : decode cX14_three 141 = .ok (.iadd, 1) := by decide +kernel
theorem dX14_three_142 : decode cX14_three 142 = .ok (.laload, 1) := by decide +kernel
theorem dX14_three_143 : decode cX14_three 143 = .ok (.aload_n 0, 1) := by decide +kernel
theorem dX14_three_144 : decode cX14_three 144 = .ok (.getfield 109, 3) := by decide +kernel
theorem dX14_three_147 : decode cX14_three 147 = .ok (.iload 6, 2) := by decide +kernel
theorem dX14_three_149 : decode cX14_three 149 = .ok (.laload, 1) := by decide +kernel
theorem dX14_three_150 : decode cX14_three 150 = .ok (.lmul, 1) := by decide +kernel
theorem dX14_three_151 : decode cX14_three 151 = .ok (.lsub, 1) := by decide +kernel
theorem dX14_three_152 : decode cX14_three 152 = .ok (.lmul, 1) := by decide +kernel
theorem dX14_three_153 : decode cX14_three 153 = .ok (.ladd, 1) := by decide +kernel
theorem dX14_three_154 : decode cX14_three 154 = .ok (.lreturn, 1) := by decide +kernel
def s_X14_three (o : Nat) (a1 : Int32) (a2 : Int32) (a3 : Int32) (h : aH) : aO :=
  (gO h (.ref o) 14 51).bind fun x16 => (ldJ h (.ref x16) (3 * a1)).bind fun x21 => (gO h (.ref o) 14 51).bind fun x23 => (ldJ h (.ref x23) ((3 * a2) + 1)).bind fun x30 => (gO h (.ref o) 14 51).bind fun x32 => (ldJ h (.ref x32) ((3 * a3) + 2)).bind fun x39 => (gO h (.ref o) 14 51).bind fun x42 => (ldJ h (.ref x42) ((3 * a2) + 2)).bind fun x49 => (gO h (.ref o) 14 51).bind fun x51 => (ldJ h (.ref x51) ((3 * a3) + 1)).bind fun x58 => (gO h (.ref o) 14 51).bind fun x63 => (ldJ h (.ref x63) ((3 * a1) + 1)).bind fun x70 => (gO h (.ref o) 14 51).bind fun x72 => (ldJ h (.ref x72) (3 * a2)).bind fun x77 => (gO h (.ref o) 14 51).bind fun x79 => (ldJ h (.ref x79) ((3 * a3) + 2)).bind fun x86 => (gO h (.ref o) 14 51).bind fun x89 => (ldJ h (.ref x89) ((3 * a2) + 2)).bind fun x96 => (gO h (.ref o) 14 51).bind fun x98 => (ldJ h (.ref x98) (3 * a3)).bind fun x103 => (gO h (.ref o) 14 51).bind fun x109 => (ldJ h (.ref x109) ((3 * a1) + 2)).bind fun x116 => (gO h (.ref o) 14 51).bind fun x118 => (ldJ h (.ref x118) (3 * a2)).bind fun x123 => (gO h (.ref o) 14 51).bind fun x125 => (ldJ h (.ref x125) ((3 * a3) + 1)).bind fun x132 => (gO h (.ref o) 14 51).bind fun x135 => (ldJ h (.ref x135) ((3 * a2) + 1)).bind fun x142 => (gO h (.ref o) 14 51).bind fun x144 => (ldJ h (.ref x144) (3 * a3)).bind fun x149 => some (.inl (some (.long (((x21 * ((x30 * x39) - (x49 * x58))) - (x70 * ((x77 * x86) - (x96 * x103)))) + (x116 * ((x123 * x132) - (x142 * x149)))))), h)
section
variable {p : Program} {l : Launch} {e : Env} {s : State} {m : MethodId} {args : Array Value} {below : List Frame} {meth : Method} {c : Code} {D : va_G} {B0 : Nat} {X : Nat → Nat} {ws0 : va_W} {r : aR} {h' : aH} {mc ms : Nat}
theorem hy_X14_three : yX14_three.cls ≠ "java/lang/invoke/MethodHandle" ∧ yX14_three.cls ≠ "java/lang/invoke/VarHandle" ∧ (parseMethodDescriptor yX14_three.desc).map (fun d => d.parameters.length) = some 3 := by decide +kernel
theorem T_X14_three (o : Nat) (a1 : Int32) (a2 : Int32) (a3 : Int32) (h : aH) (r : aR) (h' : aH) (hs : s_X14_three o a1 a2 a3 h = some (r, h')) : Mt yX14_three (Cond.code yX14_three cX14_three 7 (some .long) :: aTB) 0 0 0 0 [.ref o, .int a1, .int a2, .int a3] h r h' := by
  unfold s_X14_three at hs
  refine Mt_of (k := 3) (by decide) rfl (fun p l e s m args below meth c D B0 X ws0 C => ?_)
  show Ev p l e { frames := 0, cells := 0, slots := 0, locals := 0 } s m args below meth c D B0 X ws0 r h' 0 0 7 0 0 0 [some (.ref o), some (.int a1), some (.int a2), some (.int a3), none, none, none] [] h
  refine ev_iconst C (v := 3) dX14_three_0 (by decide) ?_
  refine ev_iload_n C rfl dX14_three_1 ?_
  refine ev_imul C dX14_three_2 ?_
  refine ev_istore C (by decide) dX14_three_3 ?_
  refine ev_iconst C (v := 3) dX14_three_5 (by decide) ?_
  refine ev_iload_n C rfl dX14_three_6 ?_
  refine ev_imul C dX14_three_7 ?_
  refine ev_istore C (by decide) dX14_three_8 ?_
  refine ev_iconst C (v := 3) dX14_three_10 (by decide) ?_
  refine ev_iload_n C rfl dX14_three_11 ?_
  refine ev_imul C dX14_three_12 ?_
  refine ev_istore C (by decide) dX14_three_13 ?_
  refine ev_aload_n C (x := .ref o) rfl trivial dX14_three_15 ?_
  obtain ⟨x16, e16, hs⟩ := aB hs
  refine ev_get C (ci := 14) (k := 51) rfl wu_14 (by decide) wf_X14_109 (gO_F e16) dX14_three_16 ?_
  refine ev_iload C rfl dX14_three_19 ?_
  obtain ⟨x21, e21, hs⟩ := aB hs
  refine ev_lald C e21 dX14_three_21 ?_
  refine ev_aload_n C (x := .ref o) rfl trivial dX14_three_22 ?_
  obtain ⟨x23, e23, hs⟩ := aB hs
  refine ev_get C (ci := 14) (k := 51) rfl wu_14 (by decide) wf_X14_109 (gO_F e23) dX14_three_23 ?_
  refine ev_iload C rfl dX14_three_26 ?_
  refine ev_iconst C (v := 1) dX14_three_28 (by decide) ?_
  refine ev_iadd C dX14_three_29 ?_
  obtain ⟨x30, e30, hs⟩ := aB hs
  refine ev_lald C e30 dX14_three_30 ?_
  refine ev_aload_n C (x := .ref o) rfl trivial dX14_three_31 ?_
  obtain ⟨x32, e32, hs⟩ := aB hs
  refine ev_get C (ci := 14) (k := 51) rfl wu_14 (by decide) wf_X14_109 (gO_F e32) dX14_three_32 ?_
  refine ev_iload C rfl dX14_three_35 ?_
  refine ev_iconst C (v := 2) dX14_three_37 (by decide) ?_
  refine ev_iadd C dX14_three_38 ?_
  obtain ⟨x39, e39, hs⟩ := aB hs
  refine ev_lald C e39 dX14_three_39 ?_
  refine ev_lmul C dX14_three_40 ?_
  refine ev_aload_n C (x := .ref o) rfl trivial dX14_three_41 ?_
  obtain ⟨x42, e42, hs⟩ := aB hs
  refine ev_get C (ci := 14) (k := 51) rfl wu_14 (by decide) wf_X14_109 (gO_F e42) dX14_three_42 ?_
  refine ev_iload C rfl dX14_three_45 ?_
  refine ev_iconst C (v := 2) dX14_three_47 (by decide) ?_
  refine ev_iadd C dX14_three_48 ?_
  obtain ⟨x49, e49, hs⟩ := aB hs
  refine ev_lald C e49 dX14_three_49 ?_
  refine ev_aload_n C (x := .ref o) rfl trivial dX14_three_50 ?_
  obtain ⟨x51, e51, hs⟩ := aB hs
  refine ev_get C (ci := 14) (k := 51) rfl wu_14 (by decide) wf_X14_109 (gO_F e51) dX14_three_51 ?_
  refine ev_iload C rfl dX14_three_54 ?_
  refine ev_iconst C (v := 1) dX14_three_56 (by decide) ?_
  refine ev_iadd C dX14_three_57 ?_
  obtain ⟨x58, e58, hs⟩ := aB hs
  refine ev_lald C e58 dX14_three_58 ?_
  refine ev_lmul C dX14_three_59 ?_
  refine ev_lsub C dX14_three_60 ?_
  refine ev_lmul C dX14_three_61 ?_
  refine ev_aload_n C (x := .ref o) rfl trivial dX14_three_62 ?_
  obtain ⟨x63, e63, hs⟩ := aB hs
  refine ev_get C (ci := 14) (k := 51) rfl wu_14 (by decide) wf_X14_109 (gO_F e63) dX14_three_63 ?_
  refine ev_iload C rfl dX14_three_66 ?_
  refine ev_iconst C (v := 1) dX14_three_68 (by decide) ?_
  refine ev_iadd C dX14_three_69 ?_
  obtain ⟨x70, e70, hs⟩ := aB hs
  refine ev_lald C e70 dX14_three_70 ?_
  refine ev_aload_n C (x := .ref o) rfl trivial dX14_three_71 ?_
  obtain ⟨x72, e72, hs⟩ := aB hs
  refine ev_get C (ci := 14) (k := 51) rfl wu_14 (by decide) wf_X14_109 (gO_F e72) dX14_three_72 ?_
  refine ev_iload C rfl dX14_three_75 ?_
  obtain ⟨x77, e77, hs⟩ := aB hs
  refine ev_lald C e77 dX14_three_77 ?_
  refine ev_aload_n C (x := .ref o) rfl trivial dX14_three_78 ?_
  obtain ⟨x79, e79, hs⟩ := aB hs
  refine ev_get C (ci := 14) (k := 51) rfl wu_14 (by decide) wf_X14_109 (gO_F e79) dX14_three_79 ?_
  refine ev_iload C rfl dX14_three_82 ?_
  refine ev_iconst C (v := 2) dX14_three_84 (by decide) ?_
  refine ev_iadd C dX14_three_85 ?_
  obtain ⟨x86, e86, hs⟩ := aB hs
  refine ev_lald C e86 dX14_three_86 ?_
  refine ev_lmul C dX14_three_87 ?_
  refine ev_aload_n C (x := .ref o) rfl trivial dX14_three_88 ?_
  obtain ⟨x89, e89, hs⟩ := aB hs
  refine ev_get C (ci := 14) (k := 51) rfl wu_14 (by decide) wf_X14_109 (gO_F e89) dX14_three_89 ?_
  refine ev_iload C rfl dX14_three_92 ?_
  refine ev_iconst C (v := 2) dX14_three_94 (by decide) ?_
  refine ev_iadd C dX14_three_95 ?_
  obtain ⟨x96, e96, hs⟩ := aB hs
  refine ev_lald C e96 dX14_three_96 ?_
  refine ev_aload_n C (x := .ref o) rfl trivial dX14_three_97 ?_
  obtain ⟨x98, e98, hs⟩ := aB hs
  refine ev_get C (ci := 14) (k := 51) rfl wu_14 (by decide) wf_X14_109 (gO_F e98) dX14_three_98 ?_
  refine ev_iload C rfl dX14_three_101 ?_
  obtain ⟨x103, e103, hs⟩ := aB hs
  refine ev_lald C e103 dX14_three_103 ?_
  refine ev_lmul C dX14_three_104 ?_
  refine ev_lsub C dX14_three_105 ?_
  refine ev_lmul C dX14_three_106 ?_
  refine ev_lsub C dX14_three_107 ?_
  refine ev_aload_n C (x := .ref o) rfl trivial dX14_three_108 ?_
  obtain ⟨x109, e109, hs⟩ := aB hs
  refine ev_get C (ci := 14) (k := 51) rfl wu_14 (by decide) wf_X14_109 (gO_F e109) dX14_three_109 ?_
  refine ev_iload C rfl dX14_three_112 ?_
  refine ev_iconst C (v := 2) dX14_three_114 (by decide) ?_
  refine ev_iadd C dX14_three_115 ?_
  obtain ⟨x116, e116, hs⟩ := aB hs
  refine ev_lald C e116 dX14_three_116 ?_
  refine ev_aload_n C (x := .ref o) rfl trivial dX14_three_117 ?_
  obtain ⟨x118, e118, hs⟩ := aB hs
  refine ev_get C (ci := 14) (k := 51) rfl wu_14 (by decide) wf_X14_109 (gO_F e118) dX14_three_118 ?_
  refine ev_iload C rfl dX14_three_121 ?_
  obtain ⟨x123, e123, hs⟩ := aB hs
  refine ev_lald C e123 dX14_three_123 ?_
  refine ev_aload_n C (x := .ref o) rfl trivial dX14_three_124 ?_
  obtain ⟨x125, e125, hs⟩ := aB hs
  refine ev_get C (ci := 14) (k := 51) rfl wu_14 (by decide) wf_X14_109 (gO_F e125) dX14_three_125 ?_
  refine ev_iload C rfl dX14_three_128 ?_
  refine ev_iconst C (v := 1) dX14_three_130 (by decide) ?_
  refine ev_iadd C dX14_three_131 ?_
  obtain ⟨x132, e132, hs⟩ := aB hs
  refine ev_lald C e132 dX14_three_132 ?_
  refine ev_lmul C dX14_three_133 ?_
  refine ev_aload_n C (x := .ref o) rfl trivial dX14_three_134 ?_
  obtain ⟨x135, e135, hs⟩ := aB hs
  refine ev_get C (ci := 14) (k := 51) rfl wu_14 (by decide) wf_X14_109 (gO_F e135) dX14_three_135 ?_
  refine ev_iload C rfl dX14_three_138 ?_
  refine ev_iconst C (v := 1) dX14_three_140 (by decide) ?_
  refine ev_iadd C dX14_three_141 ?_
  obtain ⟨x142, e142, hs⟩ := aB hs
  refine ev_lald C e142 dX14_three_142 ?_
  refine ev_aload_n C (x := .ref o) rfl trivial dX14_three_143 ?_
  obtain ⟨x144, e144, hs⟩ := aB hs
  refine ev_get C (ci := 14) (k := 51) rfl wu_14 (by decide) wf_X14_109 (gO_F e144) dX14_three_144 ?_
  refine ev_iload C rfl dX14_three_147 ?_
  obtain ⟨x149, e149, hs⟩ := aB hs
  refine ev_lald C e149 dX14_three_149 ?_
  refine ev_lmul C dX14_three_150 ?_
  refine ev_lsub C dX14_three_151 ?_
  refine ev_lmul C dX14_three_152 ?_
  refine ev_ladd C dX14_three_153 ?_
  cases hs
  exact ev_lret C rfl rfl (Nat.le_refl _) (Nat.le_refl _) rfl dX14_three_154
end
-- X14_areApart
theorem dX14_areApart_0 : decode cX14_areApart 0 = .ok (.iconst 3, 1) := by decide +kernel
theorem dX14_areApart_1 : decode cX14_areApart 1 = .ok (.iload_n 1, 1) := by decide +kernel
theorem dX14_areApart_2 : decode cX14_areApart 2 = .ok (.imul, 1) := by decide +kernel
theorem dX14_areApart_3 : decode cX14_areApart 3 = .ok (.istore_n 3, 1) := by decide +kernel
theorem dX14_areApart_4 : decode cX14_areApart 4 = .ok (.iconst 3, 1) := by decide +kernel
theorem dX14_areApart_5 : decode cX14_areApart 5 = .ok (.iload_n 2, 1) := by decide +kernel
theorem dX14_areApart_6 : decode cX14_areApart 6 = .ok (.imul, 1) := by decide +kernel
theorem dX14_areApart_7 : decode cX14_areApart 7 = .ok (.istore 4, 2) := by decide +kernel
theorem dX14_areApart_9 : decode cX14_areApart 9 = .ok (.aload_n 0, 1) := by decide +kernel
theorem dX14_areApart_10 : decode cX14_areApart 10 = .ok (.getfield 109, 3) := by decide +kernel
theorem dX14_areApart_13 : decode cX14_areApart 13 = .ok (.iload_n 3, 1) := by decide +kernel
theorem dX14_areApart_14 : decode cX14_areApart 14 = .ok (.laload, 1) := by decide +kernel
theorem dX14_areApart_15 : decode cX14_areApart 15 = .ok (.aload_n 0, 1) := by decide +kernel
theorem dX14_areApart_16 : decode cX14_areApart 16 = .ok (.getfield 109, 3) := by decide +kernel
theorem dX14_areApart_19 : decode cX14_areApart 19 = .ok (.iload 4, 2) := by decide +kernel
theorem dX14_areApart_21 : decode cX14_areApart 21 = .ok (.iconst 1, 1) := by decide +kernel
theorem dX14_areApart_22 : decode cX14_areApart 22 = .ok (.iadd, 1) := by decide +kernel
theorem dX14_areApart_23 : decode cX14_areApart 23 = .ok (.laload, 1) := by decide +kernel
theorem dX14_areApart_24 : decode cX14_areApart 24 = .ok (.lmul, 1) := by decide +kernel
theorem dX14_areApart_25 : decode cX14_areApart 25 = .ok (.aload_n 0, 1) := by decide +kernel
theorem dX14_areApart_26 : decode cX14_areApart 26 = .ok (.getfield 109, 3) := by decide +kernel
theorem dX14_areApart_29 : decode cX14_areApart 29 = .ok (.iload_n 3, 1) := by decide +kernel
theorem dX14_areApart_30 : decode cX14_areApart 30 = .ok (.iconst 1, 1) := by decide +kernel
theorem dX14_areApart_31 : decode cX14_areApart 31 = .ok (.iadd, 1) := by decide +kernel
theorem dX14_areApart_32 : decode cX14_areApart 32 = .ok (.laload, 1) := by decide +kernel
theorem dX14_areApart_33 : decode cX14_areApart 33 = .ok (.aload_n 0, 1) := by decide +kernel
theorem dX14_areApart_34 : decode cX14_areApart 34 = .ok (.getfield 109, 3) := by decide +kernel
theorem dX14_areApart_37 : decode cX14_areApart 37 = .ok (.iload 4, 2) := by decide +kernel
theorem dX14_areApart_39 : decode cX14_areApart 39 = .ok (.laload, 1) := by decide +kernel
theorem dX14_areApart_40 : decode cX14_areApart 40 = .ok (.lmul, 1) := by decide +kernel
theorem dX14_areApart_41 : decode cX14_areApart 41 = .ok (.lcmp, 1) := by decide +kernel
theorem dX14_areApart_42 : decode cX14_areApart 42 = .ok (.ifCond .ne 79, 3) := by decide +kernel
theorem dX14_areApart_45 : decode cX14_areApart 45 = .ok (.aload_n 0, 1) := by decide +kernel
theorem dX14_areApart_46 : decode cX14_areApart 46 = .ok (.getfield 109, 3) := by decide +kernel
theorem dX14_areApart_49 : decode cX14_areApart 49 = .ok (.iload_n 3, 1) := by decide +kernel
theorem dX14_areApart_50 : decode cX14_areApart 50 = .ok (.laload, 1) := by decide +kernel
theorem dX14_areApart_51 : decode cX14_areApart 51 = .ok (.aload_n 0, 1) := by decide +kernel
theorem dX14_areApart_52 : decode cX14_areApart 52 = .ok (.getfield 109, 3) := by decide +kernel
theorem dX14_areApart_55 : decode cX14_areApart 55 = .ok (.iload 4, 2) := by decide +kernel
theorem dX14_areApart_57 : decode cX14_areApart 57 = .ok (.iconst 2, 1) := by decide +kernel
theorem dX14_areApart_58 : decode cX14_areApart 58 = .ok (.iadd, 1) := by decide +kernel
theorem dX14_areApart_59 : decode cX14_areApart 59 = .ok (.laload, 1) := by decide +kernel
theorem dX14_areApart_60 : decode cX14_areApart 60 = .ok (.lmul, 1) := by decide +kernel
theorem dX14_areApart_61 : decode cX14_areApart 61 = .ok (.aload_n 0, 1) := by decide +kernel
theorem dX14_areApart_62 : decode cX14_areApart 62 = .ok (.getfield 109, 3) := by decide +kernel
theorem dX14_areApart_65 : decode cX14_areApart 65 = .ok (.iload_n 3, 1) := by decide +kernel
theorem dX14_areApart_66 : decode cX14_areApart 66 = .ok (.iconst 2, 1) := by decide +kernel
theorem dX14_areApart_67 : decode cX14_areApart 67 = .ok (.iadd, 1) := by decide +kernel
theorem dX14_areApart_68 : decode cX14_areApart 68 = .ok (.laload, 1) := by decide +kernel
theorem dX14_areApart_69 : decode cX14_areApart 69 = .ok (.aload_n 0, 1) := by decide +kernel
theorem dX14_areApart_70 : decode cX14_areApart 70 = .ok (.getfield 109, 3) := by decide +kernel
theorem dX14_areApart_73 : decode cX14_areApart 73 = .ok (.iload 4, 2) := by decide +kernel
theorem dX14_areApart_75 : decode cX14_areApart 75 = .ok (.laload, 1) := by decide +kernel
theorem dX14_areApart_76 : decode cX14_areApart 76 = .ok (.lmul, 1) := by decide +kernel
theorem dX14_areApart_77 : decode cX14_areApart 77 = .ok (.lcmp, 1) := by decide +kernel
theorem dX14_areApart_78 : decode cX14_areApart 78 = .ok (.ifCond .ne 43, 3) := by decide +kernel
theorem dX14_areApart_81 : decode cX14_areApart 81 = .ok (.aload_n 0, 1) := by decide +kernel
theorem dX14_areApart_82 : decode cX14_areApart 82 = .ok (.getfield 109, 3) := by decide +kernel
theorem dX14_areApart_85 : decode cX14_areApart 85 = .ok (.iload_n 3, 1) := by decide +kernel
theorem dX14_areApart_86 : decode cX14_areApart 86 = .ok (.iconst 1, 1) := by decide +kernel
theorem dX14_areApart_87 : decode cX14_areApart 87 = .ok (.iadd, 1) := by decide +kernel
theorem dX14_areApart_88 : decode cX14_areApart 88 = .ok (.laload, 1) := by decide +kernel
theorem dX14_areApart_89 : decode cX14_areApart 89 = .ok (.aload_n 0, 1) := by decide +kernel
theorem dX14_areApart_90 : decode cX14_areApart 90 = .ok (.getfield 109, 3) := by decide +kernel
theorem dX14_areApart_93 : decode cX14_areApart 93 = .ok (.iload 4, 2) := by decide +kernel
theorem dX14_areApart_95 : decode cX14_areApart 95 = .ok (.iconst 2, 1) := by decide +kernel
theorem dX14_areApart_96 : decode cX14_areApart 96 = .ok (.iadd, 1) := by decide +kernel
theorem dX14_areApart_97 : decode cX14_areApart 97 = .ok (.laload, 1) := by decide +kernel
theorem dX14_areApart_98 : decode cX14_areApart 98 = .ok (.lmul, 1) := by decide +kernel
theorem dX14_areApart_99 : decode cX14_areApart 99 = .ok (.aload_n 0, 1) := by decide +kernel
theorem dX14_areApart_100 : decode cX14_areApart 100 = .ok (.getfield 109, 3) := by decide +kernel
theorem dX14_areApart_103 : decode cX14_areApart 103 = .ok (.iload_n 3, 1) := by decide +kernel
theorem dX14_areApart_104 : decode cX14_areApart 104 = .ok (.iconst 2, 1) := by decide +kernel
theorem dX14_areApart_105 : decode cX14_areApart 105 = .ok (.iadd, 1) := by decide +kernel
theorem dX14_areApart_106 : decode cX14_areApart 106 = .ok (.laload, 1) := by decide +kernel
theorem dX14_areApart_107 : decode cX14_areApart 107 = .ok (.aload_n 0, 1) := by decide +kernel
theorem dX14_areApart_108 : decode cX14_areApart 108 = .ok (.getfield 109, 3) := by decide +kernel
theorem dX14_areApart_111 : decode cX14_areApart 111 = .ok (.iload 4, 2) := by decide +kernel
theorem dX14_areApart_113 : decode cX14_areApart 113 = .ok (.iconst 1, 1) := by decide +kernel
theorem dX14_areApart_114 : decode cX14_areApart 114 = .ok (.iadd, 1) := by decide +kernel
theorem dX14_areApart_115 : decode cX14_areApart 115 = .ok (.laload, 1) := by decide +kernel
theorem dX14_areApart_116 : decode cX14_areApart 116 = .ok (.lmul, 1) := by decide +kernel
theorem dX14_areApart_117 : decode cX14_areApart 117 = .ok (.lcmp, 1) := by decide +kernel
theorem dX14_areApart_118 : decode cX14_areApart 118 = .ok (.ifCond .eq 7, 3) := by decide +kernel
theorem dX14_areApart_121 : decode cX14_areApart 121 = .ok (.iconst 1, 1) := by decide +kernel
theorem dX14_areApart_122 : decode cX14_areApart 122 = .ok (.goto 4, 3) := by decide +kernel
theorem dX14_areApart_125 : decode cX14_areApart 125 = .ok (.iconst 0, 1) := by decide +kernel
theorem dX14_areApart_126 : decode cX14_areApart 126 = .ok (.ireturn, 1) := by decide +kernel
def s_X14_areApart (o : Nat) (a1 : Int32) (a2 : Int32) (h : aH) : aO :=
  (gO h (.ref o) 14 51).bind fun x10 => (ldJ h (.ref x10) (3 * a1)).bind fun x14 => (gO h (.ref o) 14 51).bind fun x16 => (ldJ h (.ref x16) ((3 * a2) + 1)).bind fun x23 => (gO h (.ref o) 14 51).bind fun x26 => (ldJ h (.ref x26) ((3 * a1) + 1)).bind fun x32 => (gO h (.ref o) 14 51).bind fun x34 => (ldJ h (.ref x34) (3 * a2)).bind fun x39 => if (lg_cmp (x14 * x23) (x32 * x39)) = 0 then ((gO h (.ref o) 14 51).bind fun x46 => (ldJ h (.ref x46) (3 * a1)).bind fun x50 => (gO h (.ref o) 14 51).bind fun x52 => (ldJ h (.ref x52) ((3 * a2) + 2)).bind fun x59 => (gO h (.ref o) 14 51).bind fun x62 => (ldJ h (.ref x62) ((3 * a1) + 2)).bind fun x68 => (gO h (.ref o) 14 51).bind fun x70 => (ldJ h (.ref x70) (3 * a2)).bind fun x75 => if (lg_cmp (x50 * x59) (x68 * x75)) = 0 then ((gO h (.ref o) 14 51).bind fun x82 => (ldJ h (.ref x82) ((3 * a1) + 1)).bind fun x88 => (gO h (.ref o) 14 51).bind fun x90 => (ldJ h (.ref x90) ((3 * a2) + 2)).bind fun x97 => (gO h (.ref o) 14 51).bind fun x100 => (ldJ h (.ref x100) ((3 * a1) + 2)).bind fun x106 => (gO h (.ref o) 14 51).bind fun x108 => (ldJ h (.ref x108) ((3 * a2) + 1)).bind fun x115 => if (lg_cmp (x88 * x97) (x106 * x115)) = 0 then (rtZ 0 h) else (rtZ 1 h)) else (rtZ 1 h)) else (rtZ 1 h)
section
variable {p : Program} {l : Launch} {e : Env} {s : State} {m : MethodId} {args : Array Value} {below : List Frame} {meth : Method} {c : Code} {D : va_G} {B0 : Nat} {X : Nat → Nat} {ws0 : va_W} {r : aR} {h' : aH} {mc ms : Nat}
theorem hy_X14_areApart : yX14_areApart.cls ≠ "java/lang/invoke/MethodHandle" ∧ yX14_areApart.cls ≠ "java/lang/invoke/VarHandle" ∧ (parseMethodDescriptor yX14_areApart.desc).map (fun d => d.parameters.length) = some 2 := by decide +kernel
theorem T_X14_areApart (o : Nat) (a1 : Int32) (a2 : Int32) (h : aH) (r : aR) (h' : aH) (hs : s_X14_areApart o a1 a2 h = some (r, h')) : Mt yX14_areApart (Cond.code yX14_areApart cX14_areApart 5 (some .boolean) :: aTB) 0 0 0 0 [.ref o, .int a1, .int a2] h r h' := by
  unfold s_X14_areApart at hs
  refine Mt_of (k := 2) (by decide) rfl (fun p l e s m args below meth c D B0 X ws0 C => ?_)
  show Ev p l e { frames := 0, cells := 0, slots := 0, locals := 0 } s m args below meth c D B0 X ws0 r h' 0 0 5 0 0 0 [some (.ref o), some (.int a1), some (.int a2), none, none] [] h
  refine ev_iconst C (v := 3) dX14_areApart_0 (by decide) ?_
  refine ev_iload_n C rfl dX14_areApart_1 ?_
  refine ev_imul C dX14_areApart_2 ?_
  refine ev_istore_n C (by decide) dX14_areApart_3 ?_
  refine ev_iconst C (v := 3) dX14_areApart_4 (by decide) ?_
  refine ev_iload_n C rfl dX14_areApart_5 ?_
  refine ev_imul C dX14_areApart_6 ?_
  refine ev_istore C (by decide) dX14_areApart_7 ?_
  refine ev_aload_n C (x := .ref o) rfl trivial dX14_areApart_9 ?_
  obtain ⟨x10, e10, hs⟩ := aB hs
  refine ev_get C (ci := 14) (k := 51) rfl wu_14 (by decide) wf_X14_109 (gO_F e10) dX14_areApart_10 ?_
  refine ev_iload_n C rfl dX14_areApart_13 ?_
  obtain ⟨x14, e14, hs⟩ := aB hs
  refine ev_lald C e14 dX14_areApart_14 ?_
  refine ev_aload_n C (x := .ref o) rfl trivial dX14_areApart_15 ?_
  obtain ⟨x16, e16, hs⟩ := aB hs
  refine ev_get C (ci := 14) (k := 51) rfl wu_14 (by decide) wf_X14_109 (gO_F e16) dX14_areApart_16 ?_
  refine ev_iload C rfl dX14_areApart_19 ?_
  refine ev_iconst C (v := 1) dX14_areApart_21 (by decide) ?_
  refine ev_iadd C dX14_areApart_22 ?_
  obtain ⟨x23, e23, hs⟩ := aB hs
  refine ev_lald C e23 dX14_areApart_23 ?_
  refine ev_lmul C dX14_areApart_24 ?_
  refine ev_aload_n C (x := .ref o) rfl trivial dX14_areApart_25 ?_
  obtain ⟨x26, e26, hs⟩ := aB hs
  refine ev_get C (ci := 14) (k := 51) rfl wu_14 (by decide) wf_X14_109 (gO_F e26) dX14_areApart_26 ?_
  refine ev_iload_n C rfl dX14_areApart_29 ?_
  refine ev_iconst C (v := 1) dX14_areApart_30 (by decide) ?_
  refine ev_iadd C dX14_areApart_31 ?_
  obtain ⟨x32, e32, hs⟩ := aB hs
  refine ev_lald C e32 dX14_areApart_32 ?_
  refine ev_aload_n C (x := .ref o) rfl trivial dX14_areApart_33 ?_
  obtain ⟨x34, e34, hs⟩ := aB hs
  refine ev_get C (ci := 14) (k := 51) rfl wu_14 (by decide) wf_X14_109 (gO_F e34) dX14_areApart_34 ?_
  refine ev_iload C rfl dX14_areApart_37 ?_
  obtain ⟨x39, e39, hs⟩ := aB hs
  refine ev_lald C e39 dX14_areApart_39 ?_
  refine ev_lmul C dX14_areApart_40 ?_
  refine ev_lcmp C dX14_areApart_41 ?_
  refine ev_if_ne C (tgt := 121) (by decide) dX14_areApart_42 (fun q42 => ?_) (fun q42 => ?_)
  · replace hs := (if_neg q42).symm.trans hs
    refine ev_iconst C (v := 1) dX14_areApart_121 (by decide) ?_
    refine ev_goto C (tgt := 126) (by decide) dX14_areApart_122 ?_
    obtain ⟨hz, rfl, rfl⟩ := rtZ_at hs
    exact ev_zret C rfl hz rfl (Nat.le_refl _) (Nat.le_refl _) rfl dX14_areApart_126
  · replace hs := (if_pos q42).symm.trans hs
    refine ev_aload_n C (x := .ref o) rfl trivial dX14_areApart_45 ?_
    obtain ⟨x46, e46, hs⟩ := aB hs
    refine ev_get C (ci := 14) (k := 51) rfl wu_14 (by decide) wf_X14_109 (gO_F e46) dX14_areApart_46 ?_
    refine ev_iload_n C rfl dX14_areApart_49 ?_
    obtain ⟨x50, e50, hs⟩ := aB hs
    refine ev_lald C e50 dX14_areApart_50 ?_
    refine ev_aload_n C (x := .ref o) rfl trivial dX14_areApart_51 ?_
    obtain ⟨x52, e52, hs⟩ := aB hs
    refine ev_get C (ci := 14) (k := 51) rfl wu_14 (by decide) wf_X14_109 (gO_F e52) dX14_areApart_52 ?_
    refine ev_iload C rfl dX14_areApart_55 ?_
    refine ev_iconst C (v := 2) dX14_areApart_57 (by decide) ?_
    refine ev_iadd C dX14_areApart_58 ?_
    obtain ⟨x59, e59, hs⟩ := aB hs
    refine ev_lald C e59 dX14_areApart_59 ?_
    refine ev_lmul C dX14_areApart_60 ?_
    refine ev_aload_n C (x := .ref o) rfl trivial dX14_areApart_61 ?_
    obtain ⟨x62, e62, hs⟩ := aB hs
    refine ev_get C (ci := 14) (k := 51) rfl wu_14 (by decide) wf_X14_109 (gO_F e62) dX14_areApart_62 ?_
    refine ev_iload_n C rfl dX14_areApart_65 ?_
    refine ev_iconst C (v := 2) dX14_areApart_66 (by decide) ?_
    refine ev_iadd C dX14_areApart_67 ?_
    obtain ⟨x68, e68, hs⟩ := aB hs
    refine ev_lald C e68 dX14_areApart_68 ?_
    refine ev_aload_n C (x := .ref o) rfl trivial dX14_areApart_69 ?_
    obtain ⟨x70, e70, hs⟩ := aB hs
    refine ev_get C (ci := 14) (k := 51) rfl wu_14 (by decide) wf_X14_109 (gO_F e70) dX14_areApart_70 ?_
    refine ev_iload C rfl dX14_areApart_73 ?_
    obtain ⟨x75, e75, hs⟩ := aB hs
    refine ev_lald C e75 dX14_areApart_75 ?_
    refine ev_lmul C dX14_areApart_76 ?_
    refine ev_lcmp C dX14_areApart_77 ?_
    refine ev_if_ne C (tgt := 121) (by decide) dX14_areApart_78 (fun q78 => ?_) (fun q78 => ?_)
    · replace hs := (if_neg q78).symm.trans hs
      refine ev_iconst C (v := 1) dX14_areApart_121 (by decide) ?_
      refine ev_goto C (tgt := 126) (by decide) dX14_areApart_122 ?_
      obtain ⟨hz, rfl, rfl⟩ := rtZ_at hs
      exact ev_zret C rfl hz rfl (Nat.le_refl _) (Nat.le_refl _) rfl dX14_areApart_126
    · replace hs := (if_pos q78).symm.trans hs
      refine ev_aload_n C (x := .ref o) rfl trivial dX14_areApart_81 ?_
      obtain ⟨x82, e82, hs⟩ := aB hs
      refine ev_get C (ci := 14) (k := 51) rfl wu_14 (by decide) wf_X14_109 (gO_F e82) dX14_areApart_82 ?_
      refine ev_iload_n C rfl dX14_areApart_85 ?_
      refine ev_iconst C (v := 1) dX14_areApart_86 (by decide) ?_
      refine ev_iadd C dX14_areApart_87 ?_
      obtain ⟨x88, e88, hs⟩ := aB hs
      refine ev_lald C e88 dX14_areApart_88 ?_
      refine ev_aload_n C (x := .ref o) rfl trivial dX14_areApart_89 ?_
      obtain ⟨x90, e90, hs⟩ := aB hs
      refine ev_get C (ci := 14) (k := 51) rfl wu_14 (by decide) wf_X14_109 (gO_F e90) dX14_areApart_90 ?_
      refine ev_iload C rfl dX14_areApart_93 ?_
      refine ev_iconst C (v := 2) dX14_areApart_95 (by decide) ?_
      refine ev_iadd C dX14_areApart_96 ?_
      obtain ⟨x97, e97, hs⟩ := aB hs
      refine ev_lald C e97 dX14_areApart_97 ?_
      refine ev_lmul C dX14_areApart_98 ?_
      refine ev_aload_n C (x := .ref o) rfl trivial dX14_areApart_99 ?_
      obtain ⟨x100, e100, hs⟩ := aB hs
      refine ev_get C (ci := 14) (k := 51) rfl wu_14 (by decide) wf_X14_109 (gO_F e100) dX14_areApart_100 ?_
      refine ev_iload_n C rfl dX14_areApart_103 ?_
      refine ev_iconst C (v := 2) dX14_areApart_104 (by decide) ?_
      refine ev_iadd C dX14_areApart_105 ?_
      obtain ⟨x106, e106, hs⟩ := aB hs
      refine ev_lald C e106 dX14_areApart_106 ?_
      refine ev_aload_n C (x := .ref o) rfl trivial dX14_areApart_107 ?_
      obtain ⟨x108, e108, hs⟩ := aB hs
      refine ev_get C (ci := 14) (k := 51) rfl wu_14 (by decide) wf_X14_109 (gO_F e108) dX14_areApart_108 ?_
      refine ev_iload C rfl dX14_areApart_111 ?_
      refine ev_iconst C (v := 1) dX14_areApart_113 (by decide) ?_
      refine ev_iadd C dX14_areApart_114 ?_
      obtain ⟨x115, e115, hs⟩ := aB hs
      refine ev_lald C e115 dX14_areApart_115 ?_
      refine ev_lmul C dX14_areApart_116 ?_
      refine ev_lcmp C dX14_areApart_117 ?_
      refine ev_if_eq C (tgt := 125) (by decide) dX14_areApart_118 (fun q118 => ?_) (fun q118 => ?_)
      · replace hs := (if_pos q118).symm.trans hs
        refine ev_iconst C (v := 0) dX14_areApart_125 (by decide) ?_
        obtain ⟨hz, rfl, rfl⟩ := rtZ_at hs
        exact ev_zret C rfl hz rfl (Nat.le_refl _) (Nat.le_refl _) rfl dX14_areApart_126
      · replace hs := (if_neg q118).symm.trans hs
        refine ev_iconst C (v := 1) dX14_areApart_121 (by decide) ?_
        refine ev_goto C (tgt := 126) (by decide) dX14_areApart_122 ?_
        obtain ⟨hz, rfl, rfl⟩ := rtZ_at hs
        exact ev_zret C rfl hz rfl (Nat.le_refl _) (Nat.le_refl _) rfl dX14_areApart_126
end
-- X14_rankOf
theorem dX14_rankOf_0 : decode cX14_rankOf 0 = .ok (.iconst 0, 1) := by decide +kernel
theorem dX14_rankOf_1 : decode cX14_rankOf 1 = .ok (.istore_n 2, 1) := by decide +kernel
theorem dX14_rankOf_2 : decode cX14_rankOf 2 = .ok (.iconst 0, 1) := by decide +kernel
theorem dX14_rankOf_3 : decode cX14_rankOf 3 = .ok (.istore_n 3, 1) := by decide +kernel
theorem dX14_rankOf_4 : decode cX14_rankOf 4 = .ok (.iload_n 3, 1) := by decide +kernel
theorem dX14_rankOf_5 : decode cX14_rankOf 5 = .ok (.iload_n 1, 1) := by decide +kernel
theorem dX14_rankOf_6 : decode cX14_rankOf 6 = .ok (.if_icmp .ge 113, 3) := by decide +kernel
theorem dX14_rankOf_9 : decode cX14_rankOf 9 = .ok (.iconst 0, 1) := by decide +kernel
theorem dX14_rankOf_10 : decode cX14_rankOf 10 = .ok (.istore 4, 2) := by decide +kernel
theorem dX14_rankOf_12 : decode cX14_rankOf 12 = .ok (.iload 4, 2) := by decide +kernel
theorem dX14_rankOf_14 : decode cX14_rankOf 14 = .ok (.iconst 3, 1) := by decide +kernel
theorem dX14_rankOf_15 : decode cX14_rankOf 15 = .ok (.if_icmp .ge 35, 3) := by decide +kernel
theorem dX14_rankOf_18 : decode cX14_rankOf 18 = .ok (.aload_n 0, 1) := by decide +kernel
theorem dX14_rankOf_19 : decode cX14_rankOf 19 = .ok (.getfield 109, 3) := by decide +kernel
theorem dX14_rankOf_22 : decode cX14_rankOf 22 = .ok (.iconst 3, 1) := by decide +kernel
theorem dX14_rankOf_23 : decode cX14_rankOf 23 = .ok (.iload_n 3, 1) := by decide +kernel
theorem dX14_rankOf_24 : decode cX14_rankOf 24 = .ok (.imul, 1) := by decide +kernel
theorem dX14_rankOf_25 : decode cX14_rankOf 25 = .ok (.iload 4, 2) := by decide +kernel
theorem dX14_rankOf_27 : decode cX14_rankOf 27 = .ok (.iadd, 1) := by decide +kernel
theorem dX14_rankOf_28 : decode cX14_rankOf 28 = .ok (.laload, 1) := by decide +kernel
theorem dX14_rankOf_29 : decode cX14_rankOf 29 = .ok (.lconst 0, 1) := by decide +kernel
theorem dX14_rankOf_30 : decode cX14_rankOf 30 = .ok (.lcmp, 1) := by decide +kernel
theorem dX14_rankOf_31 : decode cX14_rankOf 31 = .ok (.ifCond .eq 11, 3) := by decide +kernel
theorem dX14_rankOf_34 : decode cX14_rankOf 34 = .ok (.iload_n 2, 1) := by decide +kernel
theorem dX14_rankOf_35 : decode cX14_rankOf 35 = .ok (.iconst 1, 1) := by decide +kernel
theorem dX14_rankOf_36 : decode cX14_rankOf 36 = .ok (.invokestatic 513, 3) := by decide +kernel
theorem dX14_rankOf_39 : decode cX14_rankOf 39 = .ok (.goto 4, 3) := by decide +kernel
theorem dX14_rankOf_42 : decode cX14_rankOf 42 = .ok (.iload_n 2, 1) := by decide +kernel
theorem dX14_rankOf_43 : decode cX14_rankOf 43 = .ok (.istore_n 2, 1) := by decide +kernel
theorem dX14_rankOf_44 : decode cX14_rankOf 44 = .ok (.iinc 4 1, 3) := by decide +kernel
theorem dX14_rankOf_47 : decode cX14_rankOf 47 = .ok (.goto (-35), 3) := by decide +kernel
theorem dX14_rankOf_50 : decode cX14_rankOf 50 = .ok (.iconst 0, 1) := by decide +kernel
theorem dX14_rankOf_51 : decode cX14_rankOf 51 = .ok (.istore 4, 2) := by decide +kernel
theorem dX14_rankOf_53 : decode cX14_rankOf 53 = .ok (.iload 4, 2) := by decide +kernel
theorem dX14_rankOf_55 : decode cX14_rankOf 55 = .ok (.iload_n 3, 1) := by decide +kernel
theorem dX14_rankOf_56 : decode cX14_rankOf 56 = .ok (.if_icmp .ge 57, 3) := by decide +kernel
theorem dX14_rankOf_59 : decode cX14_rankOf 59 = .ok (.aload_n 0, 1) := by decide +kernel
theorem dX14_rankOf_60 : decode cX14_rankOf 60 = .ok (.iload_n 3, 1) := by decide +kernel
theorem dX14_rankOf_61 : decode cX14_rankOf 61 = .ok (.iload 4, 2) := by decide +kernel
theorem dX14_rankOf_63 : decode cX14_rankOf 63 = .ok (.invokevirtual 558, 3) := by decide +kernel
theorem dX14_rankOf_66 : decode cX14_rankOf 66 = .ok (.ifCond .eq 9, 3) := by decide +kernel
theorem dX14_rankOf_69 : decode cX14_rankOf 69 = .ok (.iload_n 2, 1) := by decide +kernel
theorem dX14_rankOf_70 : decode cX14_rankOf 70 = .ok (.iconst 2, 1) := by decide +kernel
theorem dX14_rankOf_71 : decode cX14_rankOf 71 = .ok (.invokestatic 513, 3) := by decide +kernel
theorem dX14_rankOf_74 : decode cX14_rankOf 74 = .ok (.istore_n 2, 1) := by decide +kernel
theorem dX14_rankOf_75 : decode cX14_rankOf 75 = .ok (.iconst 0, 1) := by decide +kernel
theorem dX14_rankOf_76 : decode cX14_rankOf 76 = .ok (.istore 5, 2) := by decide +kernel
theorem dX14_rankOf_78 : decode cX14_rankOf 78 = .ok (.iload 5, 2) := by decide +kernel
theorem dX14_rankOf_80 : decode cX14_rankOf 80 = .ok (.iload 4, 2) := by decide +kernel
theorem dX14_rankOf_82 : decode cX14_rankOf 82 = .ok (.if_icmp .ge 25, 3) := by decide +kernel
theorem dX14_rankOf_85 : decode cX14_rankOf 85 = .ok (.aload_n 0, 1) := by decide +kernel
theorem dX14_rankOf_86 : decode cX14_rankOf 86 = .ok (.iload_n 3, 1) := by decide +kernel
theorem dX14_rankOf_87 : decode cX14_rankOf 87 = .ok (.iload 4, 2) := by decide +kernel
theorem dX14_rankOf_89 : decode cX14_rankOf 89 = .ok (.iload 5, 2) := by decide +kernel
theorem dX14_rankOf_91 : decode cX14_rankOf 91 = .ok (.invokevirtual 562, 3) := by decide +kernel
theorem dX14_rankOf_94 : decode cX14_rankOf 94 = .ok (.lconst 0, 1) := by decide +kernel
theorem dX14_rankOf_95 : decode cX14_rankOf 95 = .ok (.lcmp, 1) := by decide +kernel
theorem dX14_rankOf_96 : decode cX14_rankOf 96 = .ok (.ifCond .eq 5, 3) := by decide +kernel
theorem dX14_rankOf_99 : decode cX14_rankOf 99 = .ok (.iconst 3, 1) := by decide +kernel
theorem dX14_rankOf_100 : decode cX14_rankOf 100 = .ok (.istore_n 2, 1) := by decide +kernel
theorem dX14_rankOf_101 : decode cX14_rankOf 101 = .ok (.iinc 5 1, 3) := by decide +kernel
theorem dX14_rankOf_104 : decode cX14_rankOf 104 = .ok (.goto (-26), 3) := by decide +kernel
theorem dX14_rankOf_107 : decode cX14_rankOf 107 = .ok (.iinc 4 1, 3) := by decide +kernel
theorem dX14_rankOf_110 : decode cX14_rankOf 110 = .ok (.goto (-57), 3) := by decide +kernel
theorem dX14_rankOf_113 : decode cX14_rankOf 113 = .ok (.iinc 3 1, 3) := by decide +kernel
theorem dX14_rankOf_116 : decode cX14_rankOf 116 = .ok (.goto (-112), 3) := by decide +kernel
theorem dX14_rankOf_119 : decode cX14_rankOf 119 = .ok (.iload_n 2, 1) := by decide +kernel
theorem dX14_rankOf_120 : decode cX14_rankOf 120 = .ok (.ireturn, 1) := by decide +kernel
def s_X14_rankOf_78_b (k4 : Nat → Int32 → Int32 → Int32 → aH → aO) (k53 : Nat → Int32 → Int32 → Int32 → Int32 → aH → aO) (k78 : Nat → Int32 → Int32 → Int32 → Int32 → Int32 → aH → aO) (l0 : Nat) (l1 : Int32) (l2 : Int32) (l3 : Int32) (l4 : Int32) (l5 : Int32) (h : aH) : aO :=
  if l4 ≤ l5 then (k53 l0 l1 l2 l3 (l4 + 1) h) else (kO h l0 14 (cJ (s_X14_three l0 l3 l4 l5 h) fun x91 h91 => if (lg_cmp x91 0) = 0 then (k78 l0 l1 l2 l3 l4 (l5 + 1) h91) else (k78 l0 l1 3 l3 l4 (l5 + 1) h91)))
def s_X14_rankOf_78 (k4 : Nat → Int32 → Int32 → Int32 → aH → aO) (k53 : Nat → Int32 → Int32 → Int32 → Int32 → aH → aO) (n : Nat) : Nat → Int32 → Int32 → Int32 → Int32 → Int32 → aH → aO := lpF (fun _ _ _ _ _ _ _ => none) (s_X14_rankOf_78_b k4 k53) n
def s_X14_rankOf_75 (k4 : Nat → Int32 → Int32 → Int32 → aH → aO) (k53 : Nat → Int32 → Int32 → Int32 → Int32 → aH → aO) (l0 : Nat) (l1 : Int32) (l2 : Int32) (l3 : Int32) (l4 : Int32) (h : aH) : aO :=
  s_X14_rankOf_78 k4 k53 FU l0 l1 l2 l3 l4 0 h
def s_X14_rankOf_53_b (k4 : Nat → Int32 → Int32 → Int32 → aH → aO) (k53 : Nat → Int32 → Int32 → Int32 → Int32 → aH → aO) (l0 : Nat) (l1 : Int32) (l2 : Int32) (l3 : Int32) (l4 : Int32) (h : aH) : aO :=
  if l3 ≤ l4 then (k4 l0 l1 l2 (l3 + 1) h) else (kO h l0 14 (cI (s_X14_areApart l0 l3 l4 h) fun x63 h63 => if x63 = 0 then (s_X14_rankOf_75 k4 k53 l0 l1 l2 l3 l4 h63) else (s_X14_rankOf_75 k4 k53 l0 l1 (jmax l2 2) l3 l4 h63)))
def s_X14_rankOf_53 (k4 : Nat → Int32 → Int32 → Int32 → aH → aO) (n : Nat) : Nat → Int32 → Int32 → Int32 → Int32 → aH → aO := lpF (fun _ _ _ _ _ _ => none) (s_X14_rankOf_53_b k4) n
def s_X14_rankOf_43 (k4 : Nat → Int32 → Int32 → Int32 → aH → aO) (k12 : Nat → Int32 → Int32 → Int32 → Int32 → aH → aO) (l0 : Nat) (l1 : Int32) (l3 : Int32) (l4 : Int32) (s0 : Int32) (h : aH) : aO :=
  k12 l0 l1 s0 l3 (l4 + 1) h
def s_X14_rankOf_12_b (k4 : Nat → Int32 → Int32 → Int32 → aH → aO) (k12 : Nat → Int32 → Int32 → Int32 → Int32 → aH → aO) (l0 : Nat) (l1 : Int32) (l2 : Int32) (l3 : Int32) (l4 : Int32) (h : aH) : aO :=
  if 3 ≤ l4 then (s_X14_rankOf_53 k4 FU l0 l1 l2 l3 0 h) else ((gO h (.ref l0) 14 51).bind fun x19 => (ldJ h (.ref x19) ((3 * l3) + l4)).bind fun x28 => if (lg_cmp x28 0) = 0 then (s_X14_rankOf_43 k4 k12 l0 l1 l3 l4 l2 h) else (s_X14_rankOf_43 k4 k12 l0 l1 l3 l4 (jmax l2 1) h))
def s_X14_rankOf_12 (k4 : Nat → Int32 → Int32 → Int32 → aH → aO) (n : Nat) : Nat → Int32 → Int32 → Int32 → Int32 → aH → aO := lpF (fun _ _ _ _ _ _ => none) (s_X14_rankOf_12_b k4) n
def s_X14_rankOf_4_b  (k4 : Nat → Int32 → Int32 → Int32 → aH → aO) (l0 : Nat) (l1 : Int32) (l2 : Int32) (l3 : Int32) (h : aH) : aO :=
  if l1 ≤ l3 then (some (.inl (some (.int l2)), h)) else (s_X14_rankOf_12 k4 FU l0 l1 l2 l3 0 h)
def s_X14_rankOf_4  (n : Nat) : Nat → Int32 → Int32 → Int32 → aH → aO := lpF (fun _ _ _ _ _ => none) (s_X14_rankOf_4_b ) n
def s_X14_rankOf (o : Nat) (a1 : Int32) (h : aH) : aO :=
  s_X14_rankOf_4 FU o a1 0 0 h
section
variable {p : Program} {l : Launch} {e : Env} {s : State} {m : MethodId} {args : Array Value} {below : List Frame} {meth : Method} {c : Code} {D : va_G} {B0 : Nat} {X : Nat → Nat} {ws0 : va_W} {r : aR} {h' : aH} {mc ms : Nat}
theorem t_X14_rankOf_78_b (C : Cx p l s m args meth c B0 X RX14 "rankOf" cX14_rankOf 6 (some .int) []) {k4 : Nat → Int32 → Int32 → Int32 → aH → aO} {k53 : Nat → Int32 → Int32 → Int32 → Int32 → aH → aO} (K4 : ∀ (l0 : Nat) (l1 : Int32) (l2 : Int32) (l3 : Int32) (h : aH), k4 l0 l1 l2 l3 h = some (r, h') → Ev p l e { frames := 1, cells := mc, slots := ms, locals := 26 } s m args below meth c D B0 X ws0 r h' mc ms 6 mc ms 4 [some (.ref l0), some (.int l1), some (.int l2), some (.int l3), none, none] [] h) (K53 : ∀ (l0 : Nat) (l1 : Int32) (l2 : Int32) (l3 : Int32) (l4 : Int32) (h : aH), k53 l0 l1 l2 l3 l4 h = some (r, h') → Ev p l e { frames := 1, cells := mc, slots := ms, locals := 26 } s m args below meth c D B0 X ws0 r h' mc ms 6 mc ms 53 [some (.ref l0), some (.int l1), some (.int l2), some (.int l3), some (.int l4), none] [] h) {k78 : Nat → Int32 → Int32 → Int32 → Int32 → Int32 → aH → aO} (K78 : ∀ (l0 : Nat) (l1 : Int32) (l2 : Int32) (l3 : Int32) (l4 : Int32) (l5 : Int32) (h : aH), k78 l0 l1 l2 l3 l4 l5 h = some (r, h') → Ev p l e { frames := 1, cells := mc, slots := ms, locals := 26 } s m args below meth c D B0 X ws0 r h' mc ms 6 mc ms 78 [some (.ref l0), some (.int l1), some (.int l2), some (.int l3), some (.int l4), some (.int l5)] [] h) {l0 : Nat} {l1 : Int32} {l2 : Int32} {l3 : Int32} {l4 : Int32} {l5 : Int32} {h : aH} (hs : s_X14_rankOf_78_b k4 k53 k78 l0 l1 l2 l3 l4 l5 h = some (r, h')) : Ev p l e { frames := 1, cells := mc, slots := ms, locals := 26 } s m args below meth c D B0 X ws0 r h' mc ms 6 mc ms 78 [some (.ref l0), some (.int l1), some (.int l2), some (.int l3), some (.int l4), some (.int l5)] [] h := by
  unfold s_X14_rankOf_78_b at hs
  refine ev_iload C rfl dX14_rankOf_78 ?_
  refine ev_iload C rfl dX14_rankOf_80 ?_
  refine ev_icmp_ge C (tgt := 107) (by decide) dX14_rankOf_82 (fun q82 => ?_) (fun q82 => ?_)
  · replace hs := (if_pos q82).symm.trans hs
    refine ev_iinc C (i := 4) (n := 1) (x := l4) (v := l4 + 1) rfl (congrArg (fun z => l4 + z) (show Int32.ofInt 1 = 1 by decide)) (by decide) dX14_rankOf_107 ?_
    refine ev_goto C (tgt := 53) (by decide) dX14_rankOf_110 ?_
    exact Ev.keep [true, true, true, true, true, false] (K53 _ _ _ _ _ _ hs)
  · replace hs := (if_neg q82).symm.trans hs
    refine ev_aload_n C (x := .ref l0) rfl trivial dX14_rankOf_85 ?_
    refine ev_iload_n C rfl dX14_rankOf_86 ?_
    refine ev_iload C rfl dX14_rankOf_87 ?_
    refine ev_iload C rfl dX14_rankOf_89 ?_
    obtain ⟨eo91, hs⟩ := kO_at hs
    obtain ⟨x91, h91, e91, hs⟩ := cJ_at hs
    refine ev_callV C (T_X14_three _ _ _ _ _ _ _ e91) (ci := 14) rfl eo91 wc_X14_three wm_X14_562 wi_X14_three ws_X14_three wz_X14 hy_X14_three ⟨(Nat.le_of_ble_eq_true rfl), (Nat.le_of_ble_eq_true rfl)⟩ ⟨(Nat.le_refl _), (Nat.le_refl _)⟩ (Nat.le_of_ble_eq_true rfl) rfl dX14_rankOf_91 ?_
    refine ev_lconst C (v := 0) dX14_rankOf_94 (by decide) ?_
    refine ev_lcmp C dX14_rankOf_95 ?_
    refine ev_if_eq C (tgt := 101) (by decide) dX14_rankOf_96 (fun q96 => ?_) (fun q96 => ?_)
    · replace hs := (if_pos q96).symm.trans hs
      refine ev_iinc C (i := 5) (n := 1) (x := l5) (v := l5 + 1) rfl (congrArg (fun z => l5 + z) (show Int32.ofInt 1 = 1 by decide)) (by decide) dX14_rankOf_101 ?_
      refine ev_goto C (tgt := 78) (by decide) dX14_rankOf_104 ?_
      exact (K78 _ _ _ _ _ _ _ hs)
    · replace hs := (if_neg q96).symm.trans hs
      refine ev_iconst C (v := 3) dX14_rankOf_99 (by decide) ?_
      refine ev_istore_n C (by decide) dX14_rankOf_100 ?_
      refine ev_iinc C (i := 5) (n := 1) (x := l5) (v := l5 + 1) rfl (congrArg (fun z => l5 + z) (show Int32.ofInt 1 = 1 by decide)) (by decide) dX14_rankOf_101 ?_
      refine ev_goto C (tgt := 78) (by decide) dX14_rankOf_104 ?_
      exact (K78 _ _ _ _ _ _ _ hs)
theorem t_X14_rankOf_78 (C : Cx p l s m args meth c B0 X RX14 "rankOf" cX14_rankOf 6 (some .int) []) {k4 : Nat → Int32 → Int32 → Int32 → aH → aO} {k53 : Nat → Int32 → Int32 → Int32 → Int32 → aH → aO} (K4 : ∀ (l0 : Nat) (l1 : Int32) (l2 : Int32) (l3 : Int32) (h : aH), k4 l0 l1 l2 l3 h = some (r, h') → Ev p l e { frames := 1, cells := mc, slots := ms, locals := 26 } s m args below meth c D B0 X ws0 r h' mc ms 6 mc ms 4 [some (.ref l0), some (.int l1), some (.int l2), some (.int l3), none, none] [] h) (K53 : ∀ (l0 : Nat) (l1 : Int32) (l2 : Int32) (l3 : Int32) (l4 : Int32) (h : aH), k53 l0 l1 l2 l3 l4 h = some (r, h') → Ev p l e { frames := 1, cells := mc, slots := ms, locals := 26 } s m args below meth c D B0 X ws0 r h' mc ms 6 mc ms 53 [some (.ref l0), some (.int l1), some (.int l2), some (.int l3), some (.int l4), none] [] h) : ∀ (n : Nat) {l0 : Nat} {l1 : Int32} {l2 : Int32} {l3 : Int32} {l4 : Int32} {l5 : Int32} {h : aH} (hs : s_X14_rankOf_78 k4 k53 n l0 l1 l2 l3 l4 l5 h = some (r, h')), Ev p l e { frames := 1, cells := mc, slots := ms, locals := 26 } s m args below meth c D B0 X ws0 r h' mc ms 6 mc ms 78 [some (.ref l0), some (.int l1), some (.int l2), some (.int l3), some (.int l4), some (.int l5)] [] h
  | 0, _, _, _, _, _, _, _, hs => nomatch hs
  | n + 1, _, _, _, _, _, _, _, hs => t_X14_rankOf_78_b C K4 K53 (k78 := s_X14_rankOf_78 k4 k53 n) (fun _ _ _ _ _ _ _ hs => t_X14_rankOf_78 C K4 K53 n hs) hs
theorem t_X14_rankOf_75 (C : Cx p l s m args meth c B0 X RX14 "rankOf" cX14_rankOf 6 (some .int) []) {k4 : Nat → Int32 → Int32 → Int32 → aH → aO} {k53 : Nat → Int32 → Int32 → Int32 → Int32 → aH → aO} (K4 : ∀ (l0 : Nat) (l1 : Int32) (l2 : Int32) (l3 : Int32) (h : aH), k4 l0 l1 l2 l3 h = some (r, h') → Ev p l e { frames := 1, cells := mc, slots := ms, locals := 26 } s m args below meth c D B0 X ws0 r h' mc ms 6 mc ms 4 [some (.ref l0), some (.int l1), some (.int l2), some (.int l3), none, none] [] h) (K53 : ∀ (l0 : Nat) (l1 : Int32) (l2 : Int32) (l3 : Int32) (l4 : Int32) (h : aH), k53 l0 l1 l2 l3 l4 h = some (r, h') → Ev p l e { frames := 1, cells := mc, slots := ms, locals := 26 } s m args below meth c D B0 X ws0 r h' mc ms 6 mc ms 53 [some (.ref l0), some (.int l1), some (.int l2), some (.int l3), some (.int l4), none] [] h) {l0 : Nat} {l1 : Int32} {l2 : Int32} {l3 : Int32} {l4 : Int32} {h : aH} (hs : s_X14_rankOf_75 k4 k53 l0 l1 l2 l3 l4 h = some (r, h')) : Ev p l e { frames := 1, cells := mc, slots := ms, locals := 26 } s m args below meth c D B0 X ws0 r h' mc ms 6 mc ms 75 [some (.ref l0), some (.int l1), some (.int l2), some (.int l3), some (.int l4), none] [] h := by
  unfold s_X14_rankOf_75 at hs
  refine ev_iconst C (v := 0) dX14_rankOf_75 (by decide) ?_
  refine ev_istore C (by decide) dX14_rankOf_76 ?_
  exact (t_X14_rankOf_78 C K4 K53 FU hs)
theorem t_X14_rankOf_53_b (C : Cx p l s m args meth c B0 X RX14 "rankOf" cX14_rankOf 6 (some .int) []) {k4 : Nat → Int32 → Int32 → Int32 → aH → aO} (K4 : ∀ (l0 : Nat) (l1 : Int32) (l2 : Int32) (l3 : Int32) (h : aH), k4 l0 l1 l2 l3 h = some (r, h') → Ev p l e { frames := 1, cells := mc, slots := ms, locals := 26 } s m args below meth c D B0 X ws0 r h' mc ms 6 mc ms 4 [some (.ref l0), some (.int l1), some (.int l2), some (.int l3), none, none] [] h) {k53 : Nat → Int32 → Int32 → Int32 → Int32 → aH → aO} (K53 : ∀ (l0 : Nat) (l1 : Int32) (l2 : Int32) (l3 : Int32) (l4 : Int32) (h : aH), k53 l0 l1 l2 l3 l4 h = some (r, h') → Ev p l e { frames := 1, cells := mc, slots := ms, locals := 26 } s m args below meth c D B0 X ws0 r h' mc ms 6 mc ms 53 [some (.ref l0), some (.int l1), some (.int l2), some (.int l3), some (.int l4), none] [] h) {l0 : Nat} {l1 : Int32} {l2 : Int32} {l3 : Int32} {l4 : Int32} {h : aH} (hs : s_X14_rankOf_53_b k4 k53 l0 l1 l2 l3 l4 h = some (r, h')) : Ev p l e { frames := 1, cells := mc, slots := ms, locals := 26 } s m args below meth c D B0 X ws0 r h' mc ms 6 mc ms 53 [some (.ref l0), some (.int l1), some (.int l2), some (.int l3), some (.int l4), none] [] h := by
  unfold s_X14_rankOf_53_b at hs
  refine ev_iload C rfl dX14_rankOf_53 ?_
  refine ev_iload_n C rfl dX14_rankOf_55 ?_
  refine ev_icmp_ge C (tgt := 113) (by decide) dX14_rankOf_56 (fun q56 => ?_) (fun q56 => ?_)
  · replace hs := (if_pos q56).symm.trans hs
    refine ev_iinc C (i := 3) (n := 1) (x := l3) (v := l3 + 1) rfl (congrArg (fun z => l3 + z) (show Int32.ofInt 1 = 1 by decide)) (by decide) dX14_rankOf_113 ?_
    refine ev_goto C (tgt := 4) (by decide) dX14_rankOf_116 ?_
    exact Ev.keep [true, true, true, true, false, true] (K4 _ _ _ _ _ hs)
  · replace hs := (if_neg q56).symm.trans hs
    refine ev_aload_n C (x := .ref l0) rfl trivial dX14_rankOf_59 ?_
    refine ev_iload_n C rfl dX14_rankOf_60 ?_
    refine ev_iload C rfl dX14_rankOf_61 ?_
    obtain ⟨eo63, hs⟩ := kO_at hs
    obtain ⟨x63, h63, e63, hs⟩ := cI_at hs
    refine ev_callV C (T_X14_areApart _ _ _ _ _ _ e63) (ci := 14) rfl eo63 wc_X14_areApart wm_X14_558 wi_X14_areApart ws_X14_areApart wz_X14 hy_X14_areApart ⟨(Nat.le_of_ble_eq_true rfl), (Nat.le_of_ble_eq_true rfl)⟩ ⟨(Nat.le_refl _), (Nat.le_refl _)⟩ (Nat.le_of_ble_eq_true rfl) rfl dX14_rankOf_63 ?_
    refine ev_if_eq C (tgt := 75) (by decide) dX14_rankOf_66 (fun q66 => ?_) (fun q66 => ?_)
    · replace hs := (if_pos q66).symm.trans hs
      exact (t_X14_rankOf_75 C K4 K53 hs)
    · replace hs := (if_neg q66).symm.trans hs
      refine ev_iload_n C rfl dX14_rankOf_69 ?_
      refine ev_iconst C (v := 2) dX14_rankOf_70 (by decide) ?_
      refine ev_mmax C wm_X14_513 wt_mmax wz_J9 wc_mmax (Nat.le_of_ble_eq_true rfl) (Nat.le_of_ble_eq_true rfl) (Nat.le_refl _) (Nat.le_refl _) dX14_rankOf_71 ?_
      refine ev_istore_n C (by decide) dX14_rankOf_74 ?_
      exact (t_X14_rankOf_75 C K4 K53 hs)
theorem t_X14_rankOf_53 (C : Cx p l s m args meth c B0 X RX14 "rankOf" cX14_rankOf 6 (some .int) []) {k4 : Nat → Int32 → Int32 → Int32 → aH → aO} (K4 : ∀ (l0 : Nat) (l1 : Int32) (l2 : Int32) (l3 : Int32) (h : aH), k4 l0 l1 l2 l3 h = some (r, h') → Ev p l e { frames := 1, cells := mc, slots := ms, locals := 26 } s m args below meth c D B0 X ws0 r h' mc ms 6 mc ms 4 [some (.ref l0), some (.int l1), some (.int l2), some (.int l3), none, none] [] h) : ∀ (n : Nat) {l0 : Nat} {l1 : Int32} {l2 : Int32} {l3 : Int32} {l4 : Int32} {h : aH} (hs : s_X14_rankOf_53 k4 n l0 l1 l2 l3 l4 h = some (r, h')), Ev p l e { frames := 1, cells := mc, slots := ms, locals := 26 } s m args below meth c D B0 X ws0 r h' mc ms 6 mc ms 53 [some (.ref l0), some (.int l1), some (.int l2), some (.int l3), some (.int l4), none] [] h
  | 0, _, _, _, _, _, _, hs => nomatch hs
  | n + 1, _, _, _, _, _, _, hs => t_X14_rankOf_53_b C K4 (k53 := s_X14_rankOf_53 k4 n) (fun _ _ _ _ _ _ hs => t_X14_rankOf_53 C K4 n hs) hs
theorem t_X14_rankOf_43 (C : Cx p l s m args meth c B0 X RX14 "rankOf" cX14_rankOf 6 (some .int) []) {k4 : Nat → Int32 → Int32 → Int32 → aH → aO} {k12 : Nat → Int32 → Int32 → Int32 → Int32 → aH → aO} (K4 : ∀ (l0 : Nat) (l1 : Int32) (l2 : Int32) (l3 : Int32) (h : aH), k4 l0 l1 l2 l3 h = some (r, h') → Ev p l e { frames := 1, cells := mc, slots := ms, locals := 26 } s m args below meth c D B0 X ws0 r h' mc ms 6 mc ms 4 [some (.ref l0), some (.int l1), some (.int l2), some (.int l3), none, none] [] h) (K12 : ∀ (l0 : Nat) (l1 : Int32) (l2 : Int32) (l3 : Int32) (l4 : Int32) (h : aH), k12 l0 l1 l2 l3 l4 h = some (r, h') → Ev p l e { frames := 1, cells := mc, slots := ms, locals := 26 } s m args below meth c D B0 X ws0 r h' mc ms 6 mc ms 12 [some (.ref l0), some (.int l1), some (.int l2), some (.int l3), some (.int l4), none] [] h) {l0 : Nat} {l1 : Int32} {l3 : Int32} {l4 : Int32} {s0 : Int32} {h : aH} (hs : s_X14_rankOf_43 k4 k12 l0 l1 l3 l4 s0 h = some (r, h')) : Ev p l e { frames := 1, cells := mc, slots := ms, locals := 26 } s m args below meth c D B0 X ws0 r h' mc ms 6 mc ms 43 [some (.ref l0), some (.int l1), none, some (.int l3), some (.int l4), none] [.int s0] h := by
  unfold s_X14_rankOf_43 at hs
  refine ev_istore_n C (by decide) dX14_rankOf_43 ?_
  refine ev_iinc C (i := 4) (n := 1) (x := l4) (v := l4 + 1) rfl (congrArg (fun z => l4 + z) (show Int32.ofInt 1 = 1 by decide)) (by decide) dX14_rankOf_44 ?_
  refine ev_goto C (tgt := 12) (by decide) dX14_rankOf_47 ?_
  exact (K12 _ _ _ _ _ _ hs)
theorem t_X14_rankOf_12_b (C : Cx p l s m args meth c B0 X RX14 "rankOf" cX14_rankOf 6 (some .int) []) {k4 : Nat → Int32 → Int32 → Int32 → aH → aO} (K4 : ∀ (l0 : Nat) (l1 : Int32) (l2 : Int32) (l3 : Int32) (h : aH), k4 l0 l1 l2 l3 h = some (r, h') → Ev p l e { frames := 1, cells := mc, slots := ms, locals := 26 } s m args below meth c D B0 X ws0 r h' mc ms 6 mc ms 4 [some (.ref l0), some (.int l1), some (.int l2), some (.int l3), none, none] [] h) {k12 : Nat → Int32 → Int32 → Int32 → Int32 → aH → aO} (K12 : ∀ (l0 : Nat) (l1 : Int32) (l2 : Int32) (l3 : Int32) (l4 : Int32) (h : aH), k12 l0 l1 l2 l3 l4 h = some (r, h') → Ev p l e { frames := 1, cells := mc, slots := ms, locals := 26 } s m args below meth c D B0 X ws0 r h' mc ms 6 mc ms 12 [some (.ref l0), some (.int l1), some (.int l2), some (.int l3), some (.int l4), none] [] h) {l0 : Nat} {l1 : Int32} {l2 : Int32} {l3 : Int32} {l4 : Int32} {h : aH} (hs : s_X14_rankOf_12_b k4 k12 l0 l1 l2 l3 l4 h = some (r, h')) : Ev p l e { frames := 1, cells := mc, slots := ms, locals := 26 } s m args below meth c D B0 X ws0 r h' mc ms 6 mc ms 12 [some (.ref l0), some (.int l1), some (.int l2), some (.int l3), some (.int l4), none] [] h := by
  unfold s_X14_rankOf_12_b at hs
  refine ev_iload C rfl dX14_rankOf_12 ?_
  refine ev_iconst C (v := 3) dX14_rankOf_14 (by decide) ?_
  refine ev_icmp_ge C (tgt := 50) (by decide) dX14_rankOf_15 (fun q15 => ?_) (fun q15 => ?_)
  · replace hs := (if_pos q15).symm.trans hs
    refine ev_iconst C (v := 0) dX14_rankOf_50 (by decide) ?_
    refine ev_istore C (by decide) dX14_rankOf_51 ?_
    exact (t_X14_rankOf_53 C K4 FU hs)
  · replace hs := (if_neg q15).symm.trans hs
    refine ev_aload_n C (x := .ref l0) rfl trivial dX14_rankOf_18 ?_
    obtain ⟨x19, e19, hs⟩ := aB hs
    refine ev_get C (ci := 14) (k := 51) rfl wu_14 (by decide) wf_X14_109 (gO_F e19) dX14_rankOf_19 ?_
    refine ev_iconst C (v := 3) dX14_rankOf_22 (by decide) ?_
    refine ev_iload_n C rfl dX14_rankOf_23 ?_
    refine ev_imul C dX14_rankOf_24 ?_
    refine ev_iload C rfl dX14_rankOf_25 ?_
    refine ev_iadd C dX14_rankOf_27 ?_
    obtain ⟨x28, e28, hs⟩ := aB hs
    refine ev_lald C e28 dX14_rankOf_28 ?_
    refine ev_lconst C (v := 0) dX14_rankOf_29 (by decide) ?_
    refine ev_lcmp C dX14_rankOf_30 ?_
    refine ev_if_eq C (tgt := 42) (by decide) dX14_rankOf_31 (fun q31 => ?_) (fun q31 => ?_)
    · replace hs := (if_pos q31).symm.trans hs
      refine ev_iload_n C rfl dX14_rankOf_42 ?_
      exact Ev.keep [true, true, false, true, true, true] (t_X14_rankOf_43 C K4 K12 hs)
    · replace hs := (if_neg q31).symm.trans hs
      refine ev_iload_n C rfl dX14_rankOf_34 ?_
      refine ev_iconst C (v := 1) dX14_rankOf_35 (by decide) ?_
      refine ev_mmax C wm_X14_513 wt_mmax wz_J9 wc_mmax (Nat.le_of_ble_eq_true rfl) (Nat.le_of_ble_eq_true rfl) (Nat.le_refl _) (Nat.le_refl _) dX14_rankOf_36 ?_
      refine ev_goto C (tgt := 43) (by decide) dX14_rankOf_39 ?_
      exact Ev.keep [true, true, false, true, true, true] (t_X14_rankOf_43 C K4 K12 hs)
theorem t_X14_rankOf_12 (C : Cx p l s m args meth c B0 X RX14 "rankOf" cX14_rankOf 6 (some .int) []) {k4 : Nat → Int32 → Int32 → Int32 → aH → aO} (K4 : ∀ (l0 : Nat) (l1 : Int32) (l2 : Int32) (l3 : Int32) (h : aH), k4 l0 l1 l2 l3 h = some (r, h') → Ev p l e { frames := 1, cells := mc, slots := ms, locals := 26 } s m args below meth c D B0 X ws0 r h' mc ms 6 mc ms 4 [some (.ref l0), some (.int l1), some (.int l2), some (.int l3), none, none] [] h) : ∀ (n : Nat) {l0 : Nat} {l1 : Int32} {l2 : Int32} {l3 : Int32} {l4 : Int32} {h : aH} (hs : s_X14_rankOf_12 k4 n l0 l1 l2 l3 l4 h = some (r, h')), Ev p l e { frames := 1, cells := mc, slots := ms, locals := 26 } s m args below meth c D B0 X ws0 r h' mc ms 6 mc ms 12 [some (.ref l0), some (.int l1), some (.int l2), some (.int l3), some (.int l4), none] [] h
  | 0, _, _, _, _, _, _, hs => nomatch hs
  | n + 1, _, _, _, _, _, _, hs => t_X14_rankOf_12_b C K4 (k12 := s_X14_rankOf_12 k4 n) (fun _ _ _ _ _ _ hs => t_X14_rankOf_12 C K4 n hs) hs
theorem t_X14_rankOf_4_b (C : Cx p l s m args meth c B0 X RX14 "rankOf" cX14_rankOf 6 (some .int) [])   {k4 : Nat → Int32 → Int32 → Int32 → aH → aO} (K4 : ∀ (l0 : Nat) (l1 : Int32) (l2 : Int32) (l3 : Int32) (h : aH), k4 l0 l1 l2 l3 h = some (r, h') → Ev p l e { frames := 1, cells := mc, slots := ms, locals := 26 } s m args below meth c D B0 X ws0 r h' mc ms 6 mc ms 4 [some (.ref l0), some (.int l1), some (.int l2), some (.int l3), none, none] [] h) {l0 : Nat} {l1 : Int32} {l2 : Int32} {l3 : Int32} {h : aH} (hs : s_X14_rankOf_4_b  k4 l0 l1 l2 l3 h = some (r, h')) : Ev p l e { frames := 1, cells := mc, slots := ms, locals := 26 } s m args below meth c D B0 X ws0 r h' mc ms 6 mc ms 4 [some (.ref l0), some (.int l1), some (.int l2), some (.int l3), none, none] [] h := by
  unfold s_X14_rankOf_4_b at hs
  refine ev_iload_n C rfl dX14_rankOf_4 ?_
  refine ev_iload_n C rfl dX14_rankOf_5 ?_
  refine ev_icmp_ge C (tgt := 119) (by decide) dX14_rankOf_6 (fun q6 => ?_) (fun q6 => ?_)
  · replace hs := (if_pos q6).symm.trans hs
    refine ev_iload_n C rfl dX14_rankOf_119 ?_
    cases hs
    exact ev_iret C rfl rfl (Nat.le_refl _) (Nat.le_refl _) rfl dX14_rankOf_120
  · replace hs := (if_neg q6).symm.trans hs
    refine ev_iconst C (v := 0) dX14_rankOf_9 (by decide) ?_
    refine ev_istore C (by decide) dX14_rankOf_10 ?_
    exact (t_X14_rankOf_12 C K4 FU hs)
theorem t_X14_rankOf_4 (C : Cx p l s m args meth c B0 X RX14 "rankOf" cX14_rankOf 6 (some .int) [])   : ∀ (n : Nat) {l0 : Nat} {l1 : Int32} {l2 : Int32} {l3 : Int32} {h : aH} (hs : s_X14_rankOf_4  n l0 l1 l2 l3 h = some (r, h')), Ev p l e { frames := 1, cells := mc, slots := ms, locals := 26 } s m args below meth c D B0 X ws0 r h' mc ms 6 mc ms 4 [some (.ref l0), some (.int l1), some (.int l2), some (.int l3), none, none] [] h
  | 0, _, _, _, _, _, hs => nomatch hs
  | n + 1, _, _, _, _, _, hs => t_X14_rankOf_4_b C  (k4 := s_X14_rankOf_4  n) (fun _ _ _ _ _ hs => t_X14_rankOf_4 C  n hs) hs
theorem hy_X14_rankOf : yX14_rankOf.cls ≠ "java/lang/invoke/MethodHandle" ∧ yX14_rankOf.cls ≠ "java/lang/invoke/VarHandle" ∧ (parseMethodDescriptor yX14_rankOf.desc).map (fun d => d.parameters.length) = some 1 := by decide +kernel
theorem T_X14_rankOf (o : Nat) (a1 : Int32) (h : aH) (r : aR) (h' : aH) (hs : s_X14_rankOf o a1 h = some (r, h')) : Mt yX14_rankOf (Cond.code yX14_rankOf cX14_rankOf 6 (some .int) :: aTB) 1 26 0 0 [.ref o, .int a1] h r h' := by
  unfold s_X14_rankOf at hs
  refine Mt_of (k := 4) (by decide) rfl (fun p l e s m args below meth c D B0 X ws0 C => ?_)
  show Ev p l e { frames := 1, cells := 0, slots := 0, locals := 26 } s m args below meth c D B0 X ws0 r h' 0 0 6 0 0 0 [some (.ref o), some (.int a1), none, none, none, none] [] h
  refine ev_iconst C (v := 0) dX14_rankOf_0 (by decide) ?_
  refine ev_istore_n C (by decide) dX14_rankOf_1 ?_
  refine ev_iconst C (v := 0) dX14_rankOf_2 (by decide) ?_
  refine ev_istore_n C (by decide) dX14_rankOf_3 ?_
  exact (t_X14_rankOf_4 C  FU hs)
end
-- X14_columns
theorem dX14_columns_0 : decode cX14_columns 0 = .ok (.aload_n 0, 1) := by decide +kernel
theorem dX14_columns_1 : decode cX14_columns 1 = .ok (.getfield 376, 3) := by decide +kernel
theorem dX14_columns_4 : decode cX14_columns 4 = .ok (.getfield 252, 3) := by decide +kernel
theorem dX14_columns_7 : decode cX14_columns 7 = .ok (.iconst 0, 1) := by decide +kernel
theorem dX14_columns_8 : decode cX14_columns 8 = .ok (.iaload, 1) := by decide +kernel
theorem dX14_columns_9 : decode cX14_columns 9 = .ok (.istore_n 2, 1) := by decide +kernel
theorem dX14_columns_10 : decode cX14_columns 10 = .ok (.aload_n 0, 1) := by decide +kernel
theorem dX14_columns_11 : decode cX14_columns 11 = .ok (.getfield 376, 3) := by decide +kernel
theorem dX14_columns_14 : decode cX14_columns 14 = .ok (.getfield 252, 3) := by decide +kernel
theorem dX14_columns_17 : decode cX14_columns 17 = .ok (.iload_n 1, 1) := by decide +kernel
theorem dX14_columns_18 : decode cX14_columns 18 = .ok (.ifCond .eq 7, 3) := by decide +kernel
theorem dX14_columns_21 : decode cX14_columns 21 = .ok (.iconst 4, 1) := by decide +kernel
theorem dX14_columns_22 : decode cX14_columns 22 = .ok (.goto 4, 3) := by decide +kernel
theorem dX14_columns_25 : decode cX14_columns 25 = .ok (.iconst 1, 1) := by decide +kernel
theorem dX14_columns_26 : decode cX14_columns 26 = .ok (.iaload, 1) := by decide +kernel
theorem dX14_columns_27 : decode cX14_columns 27 = .ok (.istore_n 3, 1) := by decide +kernel
theorem dX14_columns_28 : decode cX14_columns 28 = .ok (.iconst 0, 1) := by decide +kernel
theorem dX14_columns_29 : decode cX14_columns 29 = .ok (.istore 4, 2) := by decide +kernel
theorem dX14_columns_31 : decode cX14_columns 31 = .ok (.iload 4, 2) := by decide +kernel
theorem dX14_columns_33 : decode cX14_columns 33 = .ok (.iload_n 3, 1) := by decide +kernel
theorem dX14_columns_34 : decode cX14_columns 34 = .ok (.if_icmp .ge 69, 3) := by decide +kernel
theorem dX14_columns_37 : decode cX14_columns 37 = .ok (.iconst 0, 1) := by decide +kernel
theorem dX14_columns_38 : decode cX14_columns 38 = .ok (.istore 5, 2) := by decide +kernel
theorem dX14_columns_40 : decode cX14_columns 40 = .ok (.iload 5, 2) := by decide +kernel
theorem dX14_columns_42 : decode cX14_columns 42 = .ok (.iconst 3, 1) := by decide +kernel
theorem dX14_columns_43 : decode cX14_columns 43 = .ok (.if_icmp .ge 54, 3) := by decide +kernel
theorem dX14_columns_46 : decode cX14_columns 46 = .ok (.aload_n 0, 1) := by decide +kernel
theorem dX14_columns_47 : decode cX14_columns 47 = .ok (.getfield 109, 3) := by decide +kernel
theorem dX14_columns_50 : decode cX14_columns 50 = .ok (.iconst 3, 1) := by decide +kernel
theorem dX14_columns_51 : decode cX14_columns 51 = .ok (.iload 4, 2) := by decide +kernel
theorem dX14_columns_53 : decode cX14_columns 53 = .ok (.imul, 1) := by decide +kernel
theorem dX14_columns_54 : decode cX14_columns 54 = .ok (.iload 5, 2) := by decide +kernel
theorem dX14_columns_56 : decode cX14_columns 56 = .ok (.iadd, 1) := by decide +kernel
theorem dX14_columns_57 : decode cX14_columns 57 = .ok (.iload_n 1, 1) := by decide +kernel
theorem dX14_columns_58 : decode cX14_columns 58 = .ok (.ifCond .eq 19, 3) := by decide +kernel
theorem dX14_columns_61 : decode cX14_columns 61 = .ok (.aload_n 0, 1) := by decide +kernel
theorem dX14_columns_62 : decode cX14_columns 62 = .ok (.getfield 100, 3) := by decide +kernel
theorem dX14_columns_65 : decode cX14_columns 65 = .ok (.iconst 3, 1) := by decide +kernel
theorem dX14_columns_66 : decode cX14_columns 66 = .ok (.iload 4, 2) := by decide +kernel
theorem dX14_columns_68 : decode cX14_columns 68 = .ok (.imul, 1) := by decide +kernel
theorem dX14_columns_69 : decode cX14_columns 69 = .ok (.iload 5, 2) := by decide +kernel
theorem dX14_columns_71 : decode cX14_columns 71 = .ok (.iadd, 1) := by decide +kernel
theorem dX14_columns_72 : decode cX14_columns 72 = .ok (.iaload, 1) := by decide +kernel
theorem dX14_columns_73 : decode cX14_columns 73 = .ok (.i2l, 1) := by decide +kernel
theorem dX14_columns_74 : decode cX14_columns 74 = .ok (.goto 16, 3) := by decide +kernel
theorem dX14_columns_77 : decode cX14_columns 77 = .ok (.aload_n 0, 1) := by decide +kernel
theorem dX14_columns_78 : decode cX14_columns 78 = .ok (.getfield 97, 3) := by decide +kernel
theorem dX14_columns_81 : decode cX14_columns 81 = .ok (.iconst 2, 1) := by decide +kernel
theorem dX14_columns_82 : decode cX14_columns 82 = .ok (.iload 5, 2) := by decide +kernel
theorem dX14_columns_84 : decode cX14_columns 84 = .ok (.imul, 1) := by decide +kernel
theorem dX14_columns_85 : decode cX14_columns 85 = .ok (.iload 4, 2) := by decide +kernel
theorem dX14_columns_87 : decode cX14_columns 87 = .ok (.iadd, 1) := by decide +kernel
theorem dX14_columns_88 : decode cX14_columns 88 = .ok (.iaload, 1) := by decide +kernel
theorem dX14_columns_89 : decode cX14_columns 89 = .ok (.i2l, 1) := by decide +kernel
theorem dX14_columns_90 : decode cX14_columns 90 = .ok (.lastore, 1) := by decide +kernel
theorem dX14_columns_91 : decode cX14_columns 91 = .ok (.iinc 5 1, 3) := by decide +kernel
theorem dX14_columns_94 : decode cX14_columns 94 = .ok (.goto (-54), 3) := by decide +kernel
theorem dX14_columns_97 : decode cX14_columns 97 = .ok (.iinc 4 1, 3) := by decide +kernel
theorem dX14_columns_100 : decode cX14_columns 100 = .ok (.goto (-69), 3) := by decide +kernel
theorem dX14_columns_103 : decode cX14_columns 103 = .ok (.iload_n 3, 1) := by decide +kernel
theorem dX14_columns_104 : decode cX14_columns 104 = .ok (.istore 4, 2) := by decide +kernel
theorem dX14_columns_106 : decode cX14_columns 106 = .ok (.iload 4, 2) := by decide +kernel
theorem dX14_columns_108 : decode cX14_columns 108 = .ok (.iload_n 3, 1) := by decide +kernel
theorem dX14_columns_109 : decode cX14_columns 109 = .ok (.iload_n 2, 1) := by decide +kernel
theorem dX14_columns_110 : decode cX14_columns 110 = .ok (.imul, 1) := by decide +kernel
theorem dX14_columns_111 : decode cX14_columns 111 = .ok (.if_icmp .ge 20, 3) := by decide +kernel
theorem dX14_columns_114 : decode cX14_columns 114 = .ok (.aload_n 0, 1) := by decide +kernel
theorem dX14_columns_115 : decode cX14_columns 115 = .ok (.iload 4, 2) := by decide +kernel
theorem dX14_columns_117 : decode cX14_columns 117 = .ok (.iload_n 3, 1) := by decide +kernel
theorem dX14_columns_118 : decode cX14_columns 118 = .ok (.isub, 1) := by decide +kernel
theorem dX14_columns_119 : decode cX14_columns 119 = .ok (.iload 4, 2) := by decide +kernel
theorem dX14_columns_121 : decode cX14_columns 121 = .ok (.iload_n 1, 1) := by decide +kernel
theorem dX14_columns_122 : decode cX14_columns 122 = .ok (.invokevirtual 566, 3) := by decide +kernel
theorem dX14_columns_125 : decode cX14_columns 125 = .ok (.iinc 4 1, 3) := by decide +kernel
theorem dX14_columns_128 : decode cX14_columns 128 = .ok (.goto (-22), 3) := by decide +kernel
theorem dX14_columns_131 : decode cX14_columns 131 = .ok (.iload_n 3, 1) := by decide +kernel
theorem dX14_columns_132 : decode cX14_columns 132 = .ok (.iload_n 2, 1) := by decide +kernel
theorem dX14_columns_133 : decode cX14_columns 133 = .ok (.imul, 1) := by decide +kernel
theorem dX14_columns_134 : decode cX14_columns 134 = .ok (.ireturn, 1) := by decide +kernel
def s_X14_columns_106_b  (k106 : Nat → Int32 → Int32 → Int32 → Int32 → aH → aO) (l0 : Nat) (l1 : Int32) (l2 : Int32) (l3 : Int32) (l4 : Int32) (h : aH) : aO :=
  if (l3 * l2) ≤ l4 then (some (.inl (some (.int (l3 * l2))), h)) else (kO h l0 14 (cN (s_X14_carries l0 (l4 - l3) l4 l1 h) fun h122 => k106 l0 l1 l2 l3 (l4 + 1) h122))
def s_X14_columns_106  (n : Nat) : Nat → Int32 → Int32 → Int32 → Int32 → aH → aO := lpF (fun _ _ _ _ _ _ => none) (s_X14_columns_106_b ) n
def s_X14_columns_90 (k31 : Nat → Int32 → Int32 → Int32 → Int32 → aH → aO) (k40 : Nat → Int32 → Int32 → Int32 → Int32 → Int32 → aH → aO) (l0 : Nat) (l1 : Int32) (l2 : Int32) (l3 : Int32) (l4 : Int32) (l5 : Int32) (s0 : Int64) (s1 : Int32) (s2 : Nat) (h : aH) : aO :=
  (stJ h (.ref s2) s1 s0).bind fun h90 => k40 l0 l1 l2 l3 l4 (l5 + 1) h90
def s_X14_columns_40_b (k31 : Nat → Int32 → Int32 → Int32 → Int32 → aH → aO) (k40 : Nat → Int32 → Int32 → Int32 → Int32 → Int32 → aH → aO) (l0 : Nat) (l1 : Int32) (l2 : Int32) (l3 : Int32) (l4 : Int32) (l5 : Int32) (h : aH) : aO :=
  if 3 ≤ l5 then (k31 l0 l1 l2 l3 (l4 + 1) h) else ((gO h (.ref l0) 14 51).bind fun x47 => if l1 = 0 then ((gO h (.ref l0) 14 46).bind fun x78 => (ldI .int h (.ref x78) ((2 * l5) + l4)).bind fun x88 => s_X14_columns_90 k31 k40 l0 l1 l2 l3 l4 l5 x88.toInt64 ((3 * l4) + l5) x47 h) else ((gO h (.ref l0) 14 47).bind fun x62 => (ldI .int h (.ref x62) ((3 * l4) + l5)).bind fun x72 => s_X14_columns_90 k31 k40 l0 l1 l2 l3 l4 l5 x72.toInt64 ((3 * l4) + l5) x47 h))
def s_X14_columns_40 (k31 : Nat → Int32 → Int32 → Int32 → Int32 → aH → aO) (n : Nat) : Nat → Int32 → Int32 → Int32 → Int32 → Int32 → aH → aO := lpF (fun _ _ _ _ _ _ _ => none) (s_X14_columns_40_b k31) n
def s_X14_columns_31_b  (k31 : Nat → Int32 → Int32 → Int32 → Int32 → aH → aO) (l0 : Nat) (l1 : Int32) (l2 : Int32) (l3 : Int32) (l4 : Int32) (h : aH) : aO :=
  if l3 ≤ l4 then (s_X14_columns_106 FU l0 l1 l2 l3 l3 h) else (s_X14_columns_40 k31 FU l0 l1 l2 l3 l4 0 h)
def s_X14_columns_31  (n : Nat) : Nat → Int32 → Int32 → Int32 → Int32 → aH → aO := lpF (fun _ _ _ _ _ _ => none) (s_X14_columns_31_b ) n
def s_X14_columns_26  (l0 : Nat) (l1 : Int32) (l2 : Int32) (s0 : Int32) (s1 : Nat) (h : aH) : aO :=
  (ldI .int h (.ref s1) s0).bind fun x26 => s_X14_columns_31 FU l0 l1 l2 x26 0 h
def s_X14_columns (o : Nat) (a1 : Int32) (h : aH) : aO :=
  (gO h (.ref o) 14 4).bind fun x1 => (gO h (.ref x1) 13 0).bind fun x4 => (ldI .int h (.ref x4) 0).bind fun x8 => (gO h (.ref o) 14 4).bind fun x11 => (gO h (.ref x11) 13 0).bind fun x14 => if a1 = 0 then (s_X14_columns_26 o a1 x8 1 x14 h) else (s_X14_columns_26 o a1 x8 4 x14 h)
section
variable {p : Program} {l : Launch} {e : Env} {s : State} {m : MethodId} {args : Array Value} {below : List Frame} {meth : Method} {c : Code} {D : va_G} {B0 : Nat} {X : Nat → Nat} {ws0 : va_W} {r : aR} {h' : aH} {mc ms : Nat}
theorem t_X14_columns_106_b (C : Cx p l s m args meth c B0 X RX14 "columns" cX14_columns 6 (some .int) [])   {k106 : Nat → Int32 → Int32 → Int32 → Int32 → aH → aO} (K106 : ∀ (l0 : Nat) (l1 : Int32) (l2 : Int32) (l3 : Int32) (l4 : Int32) (h : aH), k106 l0 l1 l2 l3 l4 h = some (r, h') → Ev p l e { frames := 1, cells := mc, slots := ms, locals := 27 } s m args below meth c D B0 X ws0 r h' mc ms 6 mc ms 106 [some (.ref l0), some (.int l1), some (.int l2), some (.int l3), some (.int l4), none] [] h) {l0 : Nat} {l1 : Int32} {l2 : Int32} {l3 : Int32} {l4 : Int32} {h : aH} (hs : s_X14_columns_106_b  k106 l0 l1 l2 l3 l4 h = some (r, h')) : Ev p l e { frames := 1, cells := mc, slots := ms, locals := 27 } s m args below meth c D B0 X ws0 r h' mc ms 6 mc ms 106 [some (.ref l0), some (.int l1), some (.int l2), some (.int l3), some (.int l4), none] [] h := by
  unfold s_X14_columns_106_b at hs
  refine ev_iload C rfl dX14_columns_106 ?_
  refine ev_iload_n C rfl dX14_columns_108 ?_
  refine ev_iload_n C rfl dX14_columns_109 ?_
  refine ev_imul C dX14_columns_110 ?_
  refine ev_icmp_ge C (tgt := 131) (by decide) dX14_columns_111 (fun q111 => ?_) (fun q111 => ?_)
  · replace hs := (if_pos q111).symm.trans hs
    refine ev_iload_n C rfl dX14_columns_131 ?_
    refine ev_iload_n C rfl dX14_columns_132 ?_
    refine ev_imul C dX14_columns_133 ?_
    cases hs
    exact ev_iret C rfl rfl (Nat.le_refl _) (Nat.le_refl _) rfl dX14_columns_134
  · replace hs := (if_neg q111).symm.trans hs
    refine ev_aload_n C (x := .ref l0) rfl trivial dX14_columns_114 ?_
    refine ev_iload C rfl dX14_columns_115 ?_
    refine ev_iload_n C rfl dX14_columns_117 ?_
    refine ev_isub C dX14_columns_118 ?_
    refine ev_iload C rfl dX14_columns_119 ?_
    refine ev_iload_n C rfl dX14_columns_121 ?_
    obtain ⟨eo122, hs⟩ := kO_at hs
    obtain ⟨h122, e122, hs⟩ := cN_at hs
    refine ev_callV C (T_X14_carries _ _ _ _ _ _ _ e122) (ci := 14) rfl eo122 wc_X14_carries wm_X14_566 wi_X14_carries ws_X14_carries wz_X14 hy_X14_carries ⟨(Nat.le_of_ble_eq_true rfl), (Nat.le_of_ble_eq_true rfl)⟩ ⟨(Nat.le_refl _), (Nat.le_refl _)⟩ (Nat.le_of_ble_eq_true rfl) rfl dX14_columns_122 ?_
    refine ev_iinc C (i := 4) (n := 1) (x := l4) (v := l4 + 1) rfl (congrArg (fun z => l4 + z) (show Int32.ofInt 1 = 1 by decide)) (by decide) dX14_columns_125 ?_
    refine ev_goto C (tgt := 106) (by decide) dX14_columns_128 ?_
    exact (K106 _ _ _ _ _ _ hs)
theorem t_X14_columns_106 (C : Cx p l s m args meth c B0 X RX14 "columns" cX14_columns 6 (some .int) [])   : ∀ (n : Nat) {l0 : Nat} {l1 : Int32} {l2 : Int32} {l3 : Int32} {l4 : Int32} {h : aH} (hs : s_X14_columns_106  n l0 l1 l2 l3 l4 h = some (r, h')), Ev p l e { frames := 1, cells := mc, slots := ms, locals := 27 } s m args below meth c D B0 X ws0 r h' mc ms 6 mc ms 106 [some (.ref l0), some (.int l1), some (.int l2), some (.int l3), some (.int l4), none] [] h
  | 0, _, _, _, _, _, _, hs => nomatch hs
  | n + 1, _, _, _, _, _, _, hs => t_X14_columns_106_b C  (k106 := s_X14_columns_106  n) (fun _ _ _ _ _ _ hs => t_X14_columns_106 C  n hs) hs
theorem t_X14_columns_90 (C : Cx p l s m args meth c B0 X RX14 "columns" cX14_columns 6 (some .int) []) {k31 : Nat → Int32 → Int32 → Int32 → Int32 → aH → aO} {k40 : Nat → Int32 → Int32 → Int32 → Int32 → Int32 → aH → aO} (K31 : ∀ (l0 : Nat) (l1 : Int32) (l2 : Int32) (l3 : Int32) (l4 : Int32) (h : aH), k31 l0 l1 l2 l3 l4 h = some (r, h') → Ev p l e { frames := 1, cells := mc, slots := ms, locals := 27 } s m args below meth c D B0 X ws0 r h' mc ms 6 mc ms 31 [some (.ref l0), some (.int l1), some (.int l2), some (.int l3), some (.int l4), none] [] h) (K40 : ∀ (l0 : Nat) (l1 : Int32) (l2 : Int32) (l3 : Int32) (l4 : Int32) (l5 : Int32) (h : aH), k40 l0 l1 l2 l3 l4 l5 h = some (r, h') → Ev p l e { frames := 1, cells := mc, slots := ms, locals := 27 } s m args below meth c D B0 X ws0 r h' mc ms 6 mc ms 40 [some (.ref l0), some (.int l1), some (.int l2), some (.int l3), some (.int l4), some (.int l5)] [] h) {l0 : Nat} {l1 : Int32} {l2 : Int32} {l3 : Int32} {l4 : Int32} {l5 : Int32} {s0 : Int64} {s1 : Int32} {s2 : Nat} {h : aH} (hs : s_X14_columns_90 k31 k40 l0 l1 l2 l3 l4 l5 s0 s1 s2 h = some (r, h')) : Ev p l e { frames := 1, cells := mc, slots := ms, locals := 27 } s m args below meth c D B0 X ws0 r h' mc ms 6 mc ms 90 [some (.ref l0), some (.int l1), some (.int l2), some (.int l3), some (.int l4), some (.int l5)] [.long s0, .int s1, .ref s2] h := by
  unfold s_X14_columns_90 at hs
  obtain ⟨h90, e90, hs⟩ := aB hs
  refine ev_last C e90 dX14_columns_90 ?_
  refine ev_iinc C (i := 5) (n := 1) (x := l5) (v := l5 + 1) rfl (congrArg (fun z => l5 + z) (show Int32.ofInt 1 = 1 by decide)) (by decide) dX14_columns_91 ?_
  refine ev_goto C (tgt := 40) (by decide) dX14_columns_94 ?_
  exact (K40 _ _ _ _ _ _ _ hs)
theorem t_X14_columns_40_b (C : Cx p l s m args meth c B0 X RX14 "columns" cX14_columns 6 (some .int) []) {k31 : Nat → Int32 → Int32 → Int32 → Int32 → aH → aO} (K31 : ∀ (l0 : Nat) (l1 : Int32) (l2 : Int32) (l3 : Int32) (l4 : Int32) (h : aH), k31 l0 l1 l2 l3 l4 h = some (r, h') → Ev p l e { frames := 1, cells := mc, slots := ms, locals := 27 } s m args below meth c D B0 X ws0 r h' mc ms 6 mc ms 31 [some (.ref l0), some (.int l1), some (.int l2), some (.int l3), some (.int l4), none] [] h) {k40 : Nat → Int32 → Int32 → Int32 → Int32 → Int32 → aH → aO} (K40 : ∀ (l0 : Nat) (l1 : Int32) (l2 : Int32) (l3 : Int32) (l4 : Int32) (l5 : Int32) (h : aH), k40 l0 l1 l2 l3 l4 l5 h = some (r, h') → Ev p l e { frames := 1, cells := mc, slots := ms, locals := 27 } s m args below meth c D B0 X ws0 r h' mc ms 6 mc ms 40 [some (.ref l0), some (.int l1), some (.int l2), some (.int l3), some (.int l4), some (.int l5)] [] h) {l0 : Nat} {l1 : Int32} {l2 : Int32} {l3 : Int32} {l4 : Int32} {l5 : Int32} {h : aH} (hs : s_X14_columns_40_b k31 k40 l0 l1 l2 l3 l4 l5 h = some (r, h')) : Ev p l e { frames := 1, cells := mc, slots := ms, locals := 27 } s m args below meth c D B0 X ws0 r h' mc ms 6 mc ms 40 [some (.ref l0), some (.int l1), some (.int l2), some (.int l3), some (.int l4), some (.int l5)] [] h := by
  unfold s_X14_columns_40_b at hs
  refine ev_iload C rfl dX14_columns_40 ?_
  refine ev_iconst C (v := 3) dX14_columns_42 (by decide) ?_
  refine ev_icmp_ge C (tgt := 97) (by decide) dX14_columns_43 (fun q43 => ?_) (fun q43 => ?_)
  · replace hs := (if_pos q43).symm.trans hs
    refine ev_iinc C (i := 4) (n := 1) (x := l4) (v := l4 + 1) rfl (congrArg (fun z => l4 + z) (show Int32.ofInt 1 = 1 by decide)) (by decide) dX14_columns_97 ?_
    refine ev_goto C (tgt := 31) (by decide) dX14_columns_100 ?_
    exact Ev.keep [true, true, true, true, true, false] (K31 _ _ _ _ _ _ hs)
  · replace hs := (if_neg q43).symm.trans hs
    refine ev_aload_n C (x := .ref l0) rfl trivial dX14_columns_46 ?_
    obtain ⟨x47, e47, hs⟩ := aB hs
    refine ev_get C (ci := 14) (k := 51) rfl wu_14 (by decide) wf_X14_109 (gO_F e47) dX14_columns_47 ?_
    refine ev_iconst C (v := 3) dX14_columns_50 (by decide) ?_
    refine ev_iload C rfl dX14_columns_51 ?_
    refine ev_imul C dX14_columns_53 ?_
    refine ev_iload C rfl dX14_columns_54 ?_
    refine ev_iadd C dX14_columns_56 ?_
    refine ev_iload_n C rfl dX14_columns_57 ?_
    refine ev_if_eq C (tgt := 77) (by decide) dX14_columns_58 (fun q58 => ?_) (fun q58 => ?_)
    · replace hs := (if_pos q58).symm.trans hs
      refine ev_aload_n C (x := .ref l0) rfl trivial dX14_columns_77 ?_
      obtain ⟨x78, e78, hs⟩ := aB hs
      refine ev_get C (ci := 14) (k := 46) rfl wu_14 (by decide) wf_X14_97 (gO_F e78) dX14_columns_78 ?_
      refine ev_iconst C (v := 2) dX14_columns_81 (by decide) ?_
      refine ev_iload C rfl dX14_columns_82 ?_
      refine ev_imul C dX14_columns_84 ?_
      refine ev_iload C rfl dX14_columns_85 ?_
      refine ev_iadd C dX14_columns_87 ?_
      obtain ⟨x88, e88, hs⟩ := aB hs
      refine ev_iald C e88 dX14_columns_88 ?_
      refine ev_i2l C dX14_columns_89 ?_
      exact (t_X14_columns_90 C K31 K40 hs)
    · replace hs := (if_neg q58).symm.trans hs
      refine ev_aload_n C (x := .ref l0) rfl trivial dX14_columns_61 ?_
      obtain ⟨x62, e62, hs⟩ := aB hs
      refine ev_get C (ci := 14) (k := 47) rfl wu_14 (by decide) wf_X14_100 (gO_F e62) dX14_columns_62 ?_
      refine ev_iconst C (v := 3) dX14_columns_65 (by decide) ?_
      refine ev_iload C rfl dX14_columns_66 ?_
      refine ev_imul C dX14_columns_68 ?_
      refine ev_iload C rfl dX14_columns_69 ?_
      refine ev_iadd C dX14_columns_71 ?_
      obtain ⟨x72, e72, hs⟩ := aB hs
      refine ev_iald C e72 dX14_columns_72 ?_
      refine ev_i2l C dX14_columns_73 ?_
      refine ev_goto C (tgt := 90) (by decide) dX14_columns_74 ?_
      exact (t_X14_columns_90 C K31 K40 hs)
theorem t_X14_columns_40 (C : Cx p l s m args meth c B0 X RX14 "columns" cX14_columns 6 (some .int) []) {k31 : Nat → Int32 → Int32 → Int32 → Int32 → aH → aO} (K31 : ∀ (l0 : Nat) (l1 : Int32) (l2 : Int32) (l3 : Int32) (l4 : Int32) (h : aH), k31 l0 l1 l2 l3 l4 h = some (r, h') → Ev p l e { frames := 1, cells := mc, slots := ms, locals := 27 } s m args below meth c D B0 X ws0 r h' mc ms 6 mc ms 31 [some (.ref l0), some (.int l1), some (.int l2), some (.int l3), some (.int l4), none] [] h) : ∀ (n : Nat) {l0 : Nat} {l1 : Int32} {l2 : Int32} {l3 : Int32} {l4 : Int32} {l5 : Int32} {h : aH} (hs : s_X14_columns_40 k31 n l0 l1 l2 l3 l4 l5 h = some (r, h')), Ev p l e { frames := 1, cells := mc, slots := ms, locals := 27 } s m args below meth c D B0 X ws0 r h' mc ms 6 mc ms 40 [some (.ref l0), some (.int l1), some (.int l2), some (.int l3), some (.int l4), some (.int l5)] [] h
  | 0, _, _, _, _, _, _, _, hs => nomatch hs
  | n + 1, _, _, _, _, _, _, _, hs => t_X14_columns_40_b C K31 (k40 := s_X14_columns_40 k31 n) (fun _ _ _ _ _ _ _ hs => t_X14_columns_40 C K31 n hs) hs
theorem t_X14_columns_31_b (C : Cx p l s m args meth c B0 X RX14 "columns" cX14_columns 6 (some .int) [])   {k31 : Nat → Int32 → Int32 → Int32 → Int32 → aH → aO} (K31 : ∀ (l0 : Nat) (l1 : Int32) (l2 : Int32) (l3 : Int32) (l4 : Int32) (h : aH), k31 l0 l1 l2 l3 l4 h = some (r, h') → Ev p l e { frames := 1, cells := mc, slots := ms, locals := 27 } s m args below meth c D B0 X ws0 r h' mc ms 6 mc ms 31 [some (.ref l0), some (.int l1), some (.int l2), some (.int l3), some (.int l4), none] [] h) {l0 : Nat} {l1 : Int32} {l2 : Int32} {l3 : Int32} {l4 : Int32} {h : aH} (hs : s_X14_columns_31_b  k31 l0 l1 l2 l3 l4 h = some (r, h')) : Ev p l e { frames := 1, cells := mc, slots := ms, locals := 27 } s m args below meth c D B0 X ws0 r h' mc ms 6 mc ms 31 [some (.ref l0), some (.int l1), some (.int l2), some (.int l3), some (.int l4), none] [] h := by
  unfold s_X14_columns_31_b at hs
  refine ev_iload C rfl dX14_columns_31 ?_
  refine ev_iload_n C rfl dX14_columns_33 ?_
  refine ev_icmp_ge C (tgt := 103) (by decide) dX14_columns_34 (fun q34 => ?_) (fun q34 => ?_)
  · replace hs := (if_pos q34).symm.trans hs
    refine ev_iload_n C rfl dX14_columns_103 ?_
    refine ev_istore C (by decide) dX14_columns_104 ?_
    exact (t_X14_columns_106 C  FU hs)
  · replace hs := (if_neg q34).symm.trans hs
    refine ev_iconst C (v := 0) dX14_columns_37 (by decide) ?_
    refine ev_istore C (by decide) dX14_columns_38 ?_
    exact (t_X14_columns_40 C K31 FU hs)
theorem t_X14_columns_31 (C : Cx p l s m args meth c B0 X RX14 "columns" cX14_columns 6 (some .int) [])   : ∀ (n : Nat) {l0 : Nat} {l1 : Int32} {l2 : Int32} {l3 : Int32} {l4 : Int32} {h : aH} (hs : s_X14_columns_31  n l0 l1 l2 l3 l4 h = some (r, h')), Ev p l e { frames := 1, cells := mc, slots := ms, locals := 27 } s m args below meth c D B0 X ws0 r h' mc ms 6 mc ms 31 [some (.ref l0), some (.int l1), some (.int l2), some (.int l3), some (.int l4), none] [] h
  | 0, _, _, _, _, _, _, hs => nomatch hs
  | n + 1, _, _, _, _, _, _, hs => t_X14_columns_31_b C  (k31 := s_X14_columns_31  n) (fun _ _ _ _ _ _ hs => t_X14_columns_31 C  n hs) hs
theorem t_X14_columns_26 (C : Cx p l s m args meth c B0 X RX14 "columns" cX14_columns 6 (some .int) [])   {l0 : Nat} {l1 : Int32} {l2 : Int32} {s0 : Int32} {s1 : Nat} {h : aH} (hs : s_X14_columns_26  l0 l1 l2 s0 s1 h = some (r, h')) : Ev p l e { frames := 1, cells := mc, slots := ms, locals := 27 } s m args below meth c D B0 X ws0 r h' mc ms 6 mc ms 26 [some (.ref l0), some (.int l1), some (.int l2), none, none, none] [.int s0, .ref s1] h := by
  unfold s_X14_columns_26 at hs
  obtain ⟨x26, e26, hs⟩ := aB hs
  refine ev_iald C e26 dX14_columns_26 ?_
  refine ev_istore_n C (by decide) dX14_columns_27 ?_
  refine ev_iconst C (v := 0) dX14_columns_28 (by decide) ?_
  refine ev_istore C (by decide) dX14_columns_29 ?_
  exact (t_X14_columns_31 C  FU hs)
theorem hy_X14_columns : yX14_columns.cls ≠ "java/lang/invoke/MethodHandle" ∧ yX14_columns.cls ≠ "java/lang/invoke/VarHandle" ∧ (parseMethodDescriptor yX14_columns.desc).map (fun d => d.parameters.length) = some 1 := by decide +kernel
theorem T_X14_columns (o : Nat) (a1 : Int32) (h : aH) (r : aR) (h' : aH) (hs : s_X14_columns o a1 h = some (r, h')) : Mt yX14_columns (Cond.code yX14_columns cX14_columns 6 (some .int) :: aTB) 1 27 0 0 [.ref o, .int a1] h r h' := by
  unfold s_X14_columns at hs
  refine Mt_of (k := 4) (by decide) rfl (fun p l e s m args below meth c D B0 X ws0 C => ?_)
  show Ev p l e { frames := 1, cells := 0, slots := 0, locals := 27 } s m args below meth c D B0 X ws0 r h' 0 0 6 0 0 0 [some (.ref o), some (.int a1), none, none, none, none] [] h
  refine ev_aload_n C (x := .ref o) rfl trivial dX14_columns_0 ?_
  obtain ⟨x1, e1, hs⟩ := aB hs
  refine ev_get C (ci := 14) (k := 4) rfl wu_14 (by decide) wf_X14_376 (gO_F e1) dX14_columns_1 ?_
  obtain ⟨x4, e4, hs⟩ := aB hs
  refine ev_getN C (ci := 13) (k := 0) rfl wu_13 (by decide) wg_X14_252 (gO_F e4) dX14_columns_4 ?_
  refine ev_iconst C (v := 0) dX14_columns_7 (by decide) ?_
  obtain ⟨x8, e8, hs⟩ := aB hs
  refine ev_iald C e8 dX14_columns_8 ?_
  refine ev_istore_n C (by decide) dX14_columns_9 ?_
  refine ev_aload_n C (x := .ref o) rfl trivial dX14_columns_10 ?_
  obtain ⟨x11, e11, hs⟩ := aB hs
  refine ev_get C (ci := 14) (k := 4) rfl wu_14 (by decide) wf_X14_376 (gO_F e11) dX14_columns_11 ?_
  obtain ⟨x14, e14, hs⟩ := aB hs
  refine ev_getN C (ci := 13) (k := 0) rfl wu_13 (by decide) wg_X14_252 (gO_F e14) dX14_columns_14 ?_
  refine ev_iload_n C rfl dX14_columns_17 ?_
  refine ev_if_eq C (tgt := 25) (by decide) dX14_columns_18 (fun q18 => ?_) (fun q18 => ?_)
  · replace hs := (if_pos q18).symm.trans hs
    refine ev_iconst C (v := 1) dX14_columns_25 (by decide) ?_
    exact (t_X14_columns_26 C  hs)
  · replace hs := (if_neg q18).symm.trans hs
    refine ev_iconst C (v := 4) dX14_columns_21 (by decide) ?_
    refine ev_goto C (tgt := 26) (by decide) dX14_columns_22 ?_
    exact (t_X14_columns_26 C  hs)
end
-- X14_rank
theorem dX14_rank_0 : decode cX14_rank 0 = .ok (.aload_n 0, 1) := by decide +kernel
theorem dX14_rank_1 : decode cX14_rank 1 = .ok (.iconst 0, 1) := by decide +kernel
theorem dX14_rank_2 : decode cX14_rank 2 = .ok (.putfield 154, 3) := by decide +kernel
theorem dX14_rank_5 : decode cX14_rank 5 = .ok (.aload_n 0, 1) := by decide +kernel
theorem dX14_rank_6 : decode cX14_rank 6 = .ok (.getfield 376, 3) := by decide +kernel
theorem dX14_rank_9 : decode cX14_rank 9 = .ok (.ifnonnull 9, 3) := by decide +kernel
theorem dX14_rank_12 : decode cX14_rank 12 = .ok (.aload_n 0, 1) := by decide +kernel
theorem dX14_rank_13 : decode cX14_rank 13 = .ok (.iconst 1, 1) := by decide +kernel
theorem dX14_rank_14 : decode cX14_rank 14 = .ok (.invokevirtual 360, 3) := by decide +kernel
theorem dX14_rank_17 : decode cX14_rank 17 = .ok (.ireturn, 1) := by decide +kernel
theorem dX14_rank_18 : decode cX14_rank 18 = .ok (.aload_n 0, 1) := by decide +kernel
theorem dX14_rank_19 : decode cX14_rank 19 = .ok (.invokevirtual 468, 3) := by decide +kernel
theorem dX14_rank_22 : decode cX14_rank 22 = .ok (.ifCond .ne 9, 3) := by decide +kernel
theorem dX14_rank_25 : decode cX14_rank 25 = .ok (.aload_n 0, 1) := by decide +kernel
theorem dX14_rank_26 : decode cX14_rank 26 = .ok (.iconst 5, 1) := by decide +kernel
theorem dX14_rank_27 : decode cX14_rank 27 = .ok (.invokevirtual 360, 3) := by decide +kernel
theorem dX14_rank_30 : decode cX14_rank 30 = .ok (.ireturn, 1) := by decide +kernel
theorem dX14_rank_31 : decode cX14_rank 31 = .ok (.aload_n 0, 1) := by decide +kernel
theorem dX14_rank_32 : decode cX14_rank 32 = .ok (.aload_n 0, 1) := by decide +kernel
theorem dX14_rank_33 : decode cX14_rank 33 = .ok (.aload_n 0, 1) := by decide +kernel
theorem dX14_rank_34 : decode cX14_rank 34 = .ok (.iload_n 1, 1) := by decide +kernel
theorem dX14_rank_35 : decode cX14_rank 35 = .ok (.invokevirtual 570, 3) := by decide +kernel
theorem dX14_rank_38 : decode cX14_rank 38 = .ok (.invokevirtual 574, 3) := by decide +kernel
theorem dX14_rank_41 : decode cX14_rank 41 = .ok (.invokevirtual 413, 3) := by decide +kernel
theorem dX14_rank_44 : decode cX14_rank 44 = .ok (.ireturn, 1) := by decide +kernel
def s_X14_rank (o : Nat) (a1 : Int32) (h : aH) : aO :=
  (pF h (.ref o) 14 0 (.int 0)).bind fun h2 => (gW h2 (.ref o) 14 4).bind fun x6 => match x6 with | .null => (kO h2 o 14 (cI (s_X14_refused o 1 h2) fun x14 h14 => some (.inl (some (.int x14)), h14))) | .ref n9 => (kO h2 o 14 (cI (s_X14_isLinear o h2) fun x19 h19 => if x19 = 0 then (kO h19 o 14 (cI (s_X14_refused o 5 h19) fun x27 h27 => some (.inl (some (.int x27)), h27))) else (kO h19 o 14 (cI (s_X14_columns o a1 h19) fun x35 h35 => kO h35 o 14 (cI (s_X14_rankOf o x35 h35) fun x38 h38 => kO h38 o 14 (cI (s_X14_done o x38 h38) fun x41 h41 => some (.inl (some (.int x41)), h41))))))) | _ => none
section
variable {p : Program} {l : Launch} {e : Env} {s : State} {m : MethodId} {args : Array Value} {below : List Frame} {meth : Method} {c : Code} {D : va_G} {B0 : Nat} {X : Nat → Nat} {ws0 : va_W} {r : aR} {h' : aH} {mc ms : Nat}
theorem hy_X14_rank : yX14_rank.cls ≠ "java/lang/invoke/MethodHandle" ∧ yX14_rank.cls ≠ "java/lang/invoke/VarHandle" ∧ (parseMethodDescriptor yX14_rank.desc).map (fun d => d.parameters.length) = some 1 := by decide +kernel
theorem T_X14_rank (o : Nat) (a1 : Int32) (h : aH) (r : aR) (h' : aH) (hs : s_X14_rank o a1 h = some (r, h')) : Mt yX14_rank (Cond.code yX14_rank cX14_rank 2 (some .int) :: aTB) 3 78 0 0 [.ref o, .int a1] h r h' := by
  unfold s_X14_rank at hs
  refine Mt_of (k := 0) (by decide) rfl (fun p l e s m args below meth c D B0 X ws0 C => ?_)
  show Ev p l e { frames := 3, cells := 0, slots := 0, locals := 78 } s m args below meth c D B0 X ws0 r h' 0 0 2 0 0 0 [some (.ref o), some (.int a1)] [] h
  refine ev_aload_n C (x := .ref o) rfl trivial dX14_rank_0 ?_
  refine ev_iconst C (v := 0) dX14_rank_1 (by decide) ?_
  obtain ⟨h2, e2, hs⟩ := aB hs
  refine ev_put C (ci := 14) (k := 0) rfl wu_14 (by decide) tyX14 tyX14_ok nmX14 wf_X14_154 rfl trivial e2 dX14_rank_2 ?_
  refine ev_aload_n C (x := .ref o) rfl trivial dX14_rank_5 ?_
  obtain ⟨x6, e6, hs⟩ := aB hs
  refine ev_get C (ci := 14) (k := 4) rfl wu_14 (by decide) wf_X14_376 (gW_F e6).1 dX14_rank_6 ?_
  cases x6 with
  | null =>
    refine ev_ifnonnull_n C dX14_rank_9 ?_
    refine ev_aload_n C (x := .ref o) rfl trivial dX14_rank_12 ?_
    refine ev_iconst C (v := 1) dX14_rank_13 (by decide) ?_
    obtain ⟨eo14, hs⟩ := kO_at hs
    obtain ⟨x14, h14, e14, hs⟩ := cI_at hs
    refine ev_callV C (T_X14_refused _ _ _ _ _ e14) (ci := 14) rfl eo14 wc_X14_refused wm_X14_360 wi_X14_refused ws_X14_refused wz_X14 hy_X14_refused ⟨(Nat.le_of_ble_eq_true rfl), (Nat.le_of_ble_eq_true rfl)⟩ ⟨(Nat.le_refl _), (Nat.le_refl _)⟩ (Nat.le_of_ble_eq_true rfl) rfl dX14_rank_14 ?_
    cases hs
    exact ev_iret C rfl rfl (Nat.le_refl _) (Nat.le_refl _) rfl dX14_rank_17
  | ref n9 =>
    refine ev_ifnonnull_r C (tgt := 18) (by decide) dX14_rank_9 ?_
    refine ev_aload_n C (x := .ref o) rfl trivial dX14_rank_18 ?_
    obtain ⟨eo19, hs⟩ := kO_at hs
    obtain ⟨x19, h19, e19, hs⟩ := cI_at hs
    refine ev_callV C (T_X14_isLinear _ _ _ _ e19) (ci := 14) rfl eo19 wc_X14_isLinear wm_X14_468 wi_X14_isLinear ws_X14_isLinear wz_X14 hy_X14_isLinear ⟨(Nat.le_of_ble_eq_true rfl), (Nat.le_of_ble_eq_true rfl)⟩ ⟨(Nat.le_refl _), (Nat.le_refl _)⟩ (Nat.le_of_ble_eq_true rfl) rfl dX14_rank_19 ?_
    refine ev_if_ne C (tgt := 31) (by decide) dX14_rank_22 (fun q22 => ?_) (fun q22 => ?_)
    · replace hs := (if_neg q22).symm.trans hs
      refine ev_aload_n C (x := .ref o) rfl trivial dX14_rank_31 ?_
      refine ev_aload_n C (x := .ref o) rfl trivial dX14_rank_32 ?_
      refine ev_aload_n C (x := .ref o) rfl trivial dX14_rank_33 ?_
      refine ev_iload_n C rfl dX14_rank_34 ?_
      obtain ⟨eo35, hs⟩ := kO_at hs
      obtain ⟨x35, h35, e35, hs⟩ := cI_at hs
      refine ev_callV C (T_X14_columns _ _ _ _ _ e35) (ci := 14) rfl eo35 wc_X14_columns wm_X14_570 wi_X14_columns ws_X14_columns wz_X14 hy_X14_columns ⟨(Nat.le_of_ble_eq_true rfl), (Nat.le_of_ble_eq_true rfl)⟩ ⟨(Nat.le_refl _), (Nat.le_refl _)⟩ (Nat.le_of_ble_eq_true rfl) rfl dX14_rank_35 ?_
      obtain ⟨eo38, hs⟩ := kO_at hs
      obtain ⟨x38, h38, e38, hs⟩ := cI_at hs
      refine ev_callV C (T_X14_rankOf _ _ _ _ _ e38) (ci := 14) rfl eo38 wc_X14_rankOf wm_X14_574 wi_X14_rankOf ws_X14_rankOf wz_X14 hy_X14_rankOf ⟨(Nat.le_of_ble_eq_true rfl), (Nat.le_of_ble_eq_true rfl)⟩ ⟨(Nat.le_refl _), (Nat.le_refl _)⟩ (Nat.le_of_ble_eq_true rfl) rfl dX14_rank_38 ?_
      obtain ⟨eo41, hs⟩ := kO_at hs
      obtain ⟨x41, h41, e41, hs⟩ := cI_at hs
      refine ev_callV C (T_X14_done _ _ _ _ _ e41) (ci := 14) rfl eo41 wc_X14_done wm_X14_413 wi_X14_done ws_X14_done wz_X14 hy_X14_done ⟨(Nat.le_of_ble_eq_true rfl), (Nat.le_of_ble_eq_true rfl)⟩ ⟨(Nat.le_refl _), (Nat.le_refl _)⟩ (Nat.le_of_ble_eq_true rfl) rfl dX14_rank_41 ?_
      cases hs
      exact ev_iret C rfl rfl (Nat.le_refl _) (Nat.le_refl _) rfl dX14_rank_44
    · replace hs := (if_pos q22).symm.trans hs
      refine ev_aload_n C (x := .ref o) rfl trivial dX14_rank_25 ?_
      refine ev_iconst C (v := 5) dX14_rank_26 (by decide) ?_
      obtain ⟨eo27, hs⟩ := kO_at hs
      obtain ⟨x27, h27, e27, hs⟩ := cI_at hs
      refine ev_callV C (T_X14_refused _ _ _ _ _ e27) (ci := 14) rfl eo27 wc_X14_refused wm_X14_360 wi_X14_refused ws_X14_refused wz_X14 hy_X14_refused ⟨(Nat.le_of_ble_eq_true rfl), (Nat.le_of_ble_eq_true rfl)⟩ ⟨(Nat.le_refl _), (Nat.le_refl _)⟩ (Nat.le_of_ble_eq_true rfl) rfl dX14_rank_27 ?_
      cases hs
      exact ev_iret C rfl rfl (Nat.le_refl _) (Nat.le_refl _) rfl dX14_rank_30
  | _ => cases hs
end
-- X14_formOf
theorem dX14_formOf_0 : decode cX14_formOf 0 = .ok (.aload_n 0, 1) := by decide +kernel
theorem dX14_formOf_1 : decode cX14_formOf 1 = .ok (.getfield 376, 3) := by decide +kernel
theorem dX14_formOf_4 : decode cX14_formOf 4 = .ok (.getfield 252, 3) := by decide +kernel
theorem dX14_formOf_7 : decode cX14_formOf 7 = .ok (.iconst 0, 1) := by decide +kernel
theorem dX14_formOf_8 : decode cX14_formOf 8 = .ok (.iaload, 1) := by decide +kernel
theorem dX14_formOf_9 : decode cX14_formOf 9 = .ok (.istore_n 2, 1) := by decide +kernel
theorem dX14_formOf_10 : decode cX14_formOf 10 = .ok (.iconst 0, 1) := by decide +kernel
theorem dX14_formOf_11 : decode cX14_formOf 11 = .ok (.istore_n 3, 1) := by decide +kernel
theorem dX14_formOf_12 : decode cX14_formOf 12 = .ok (.iconst 0, 1) := by decide +kernel
theorem dX14_formOf_13 : decode cX14_formOf 13 = .ok (.istore 4, 2) := by decide +kernel
theorem dX14_formOf_15 : decode cX14_formOf 15 = .ok (.iload 4, 2) := by decide +kernel
theorem dX14_formOf_17 : decode cX14_formOf 17 = .ok (.iload_n 2, 1) := by decide +kernel
theorem dX14_formOf_18 : decode cX14_formOf 18 = .ok (.if_icmp .ge 21, 3) := by decide +kernel
theorem dX14_formOf_21 : decode cX14_formOf 21 = .ok (.iload_n 3, 1) := by decide +kernel
theorem dX14_formOf_22 : decode cX14_formOf 22 = .ok (.aload_n 0, 1) := by decide +kernel
theorem dX14_formOf_23 : decode cX14_formOf 23 = .ok (.getfield 94, 3) := by decide +kernel
theorem dX14_formOf_26 : decode cX14_formOf 26 = .ok (.iconst 4, 1) := by decide +kernel
theorem dX14_formOf_27 : decode cX14_formOf 27 = .ok (.iload 4, 2) := by decide +kernel
theorem dX14_formOf_29 : decode cX14_formOf 29 = .ok (.imul, 1) := by decide +kernel
theorem dX14_formOf_30 : decode cX14_formOf 30 = .ok (.iaload, 1) := by decide +kernel
theorem dX14_formOf_31 : decode cX14_formOf 31 = .ok (.iadd, 1) := by decide +kernel
theorem dX14_formOf_32 : decode cX14_formOf 32 = .ok (.istore_n 3, 1) := by decide +kernel
theorem dX14_formOf_33 : decode cX14_formOf 33 = .ok (.iinc 4 1, 3) := by decide +kernel
theorem dX14_formOf_36 : decode cX14_formOf 36 = .ok (.goto (-21), 3) := by decide +kernel
theorem dX14_formOf_39 : decode cX14_formOf 39 = .ok (.aload_n 0, 1) := by decide +kernel
theorem dX14_formOf_40 : decode cX14_formOf 40 = .ok (.getfield 94, 3) := by decide +kernel
theorem dX14_formOf_43 : decode cX14_formOf 43 = .ok (.iconst 0, 1) := by decide +kernel
theorem dX14_formOf_44 : decode cX14_formOf 44 = .ok (.iaload, 1) := by decide +kernel
theorem dX14_formOf_45 : decode cX14_formOf 45 = .ok (.aload_n 0, 1) := by decide +kernel
theorem dX14_formOf_46 : decode cX14_formOf 46 = .ok (.getfield 94, 3) := by decide +kernel
theorem dX14_formOf_49 : decode cX14_formOf 49 = .ok (.iconst 4, 1) := by decide +kernel
theorem dX14_formOf_50 : decode cX14_formOf 50 = .ok (.iaload, 1) := by decide +kernel
theorem dX14_formOf_51 : decode cX14_formOf 51 = .ok (.imul, 1) := by decide +kernel
theorem dX14_formOf_52 : decode cX14_formOf 52 = .ok (.aload_n 0, 1) := by decide +kernel
theorem dX14_formOf_53 : decode cX14_formOf 53 = .ok (.getfield 94, 3) := by decide +kernel
theorem dX14_formOf_56 : decode cX14_formOf 56 = .ok (.iconst 1, 1) := by decide +kernel
theorem dX14_formOf_57 : decode cX14_formOf 57 = .ok (.iaload, 1) := by decide +kernel
theorem dX14_formOf_58 : decode cX14_formOf 58 = .ok (.aload_n 0, 1) := by decide +kernel
theorem dX14_formOf_59 : decode cX14_formOf 59 = .ok (.getfield 94, 3) := by decide +kernel
theorem dX14_formOf_62 : decode cX14_formOf 62 = .ok (.iconst 3, 1) := by decide +kernel
theorem dX14_formOf_63 : decode cX14_formOf 63 = .ok (.iaload, 1) := by decide +kernel
theorem dX14_formOf_64 : decode cX14_formOf 64 = .ok (.imul, 1) := by decide +kernel
theorem dX14_formOf_65 : decode cX14_formOf 65 = .ok (.isub, 1) := by decide +kernel
theorem dX14_formOf_66 : decode cX14_formOf 66 = .ok (.istore 4, 2) := by decide +kernel
theorem dX14_formOf_68 : decode cX14_formOf 68 = .ok (.iload_n 2, 1) := by decide +kernel
theorem dX14_formOf_69 : decode cX14_formOf 69 = .ok (.iconst 2, 1) := by decide +kernel
theorem dX14_formOf_70 : decode cX14_formOf 70 = .ok (.if_icmp .le 67, 3) := by decide +kernel
theorem dX14_formOf_73 : decode cX14_formOf 73 = .ok (.iload 4, 2) := by decide +kernel
theorem dX14_formOf_75 : decode cX14_formOf 75 = .ok (.aload_n 0, 1) := by decide +kernel
theorem dX14_formOf_76 : decode cX14_formOf 76 = .ok (.getfield 94, 3) := by decide +kernel
theorem dX14_formOf_79 : decode cX14_formOf 79 = .ok (.iconst 0, 1) := by decide +kernel
theorem dX14_formOf_80 : decode cX14_formOf 80 = .ok (.iaload, 1) := by decide +kernel
theorem dX14_formOf_81 : decode cX14_formOf 81 = .ok (.aload_n 0, 1) := by decide +kernel
theorem dX14_formOf_82 : decode cX14_formOf 82 = .ok (.getfield 94, 3) := by decide +kernel
theorem dX14_formOf_85 : decode cX14_formOf 85 = .ok (.bipush 8, 2) := by decide +kernel
theorem dX14_formOf_87 : decode cX14_formOf 87 = .ok (.iaload, 1) := by decide +kernel
theorem dX14_formOf_88 : decode cX14_formOf 88 = .ok (.imul, 1) := by decide +kernel
theorem dX14_formOf_89 : decode cX14_formOf 89 = .ok (.aload_n 0, 1) := by decide +kernel
theorem dX14_formOf_90 : decode cX14_formOf 90 = .ok (.getfield 94, 3) := by decide +kernel
theorem dX14_formOf_93 : decode cX14_formOf 93 = .ok (.iconst 2, 1) := by decide +kernel
theorem dX14_formOf_94 : decode cX14_formOf 94 = .ok (.iaload, 1) := by decide +kernel
theorem dX14_formOf_95 : decode cX14_formOf 95 = .ok (.aload_n 0, 1) := by decide +kernel
theorem dX14_formOf_96 : decode cX14_formOf 96 = .ok (.getfield 94, 3) := by decide +kernel
theorem dX14_formOf_99 : decode cX14_formOf 99 = .ok (.bipush 6, 2) := by decide +kernel
theorem dX14_formOf_101 : decode cX14_formOf 101 = .ok (.iaload, 1) := by decide +kernel
theorem dX14_formOf_102 : decode cX14_formOf 102 = .ok (.imul, 1) := by decide +kernel
theorem dX14_formOf_103 : decode cX14_formOf 103 = .ok (.isub, 1) := by decide +kernel
theorem dX14_formOf_104 : decode cX14_formOf 104 = .ok (.aload_n 0, 1) := by decide +kernel
theorem dX14_formOf_105 : decode cX14_formOf 105 = .ok (.getfield 94, 3) := by decide +kernel
theorem dX14_formOf_108 : decode cX14_formOf 108 = .ok (.iconst 4, 1) := by decide +kernel
theorem dX14_formOf_109 : decode cX14_formOf 109 = .ok (.iaload, 1) := by decide +kernel
theorem dX14_formOf_110 : decode cX14_formOf 110 = .ok (.aload_n 0, 1) := by decide +kernel
theorem dX14_formOf_111 : decode cX14_formOf 111 = .ok (.getfield 94, 3) := by decide +kernel
theorem dX14_formOf_114 : decode cX14_formOf 114 = .ok (.bipush 8, 2) := by decide +kernel
theorem dX14_formOf_116 : decode cX14_formOf 116 = .ok (.iaload, 1) := by decide +kernel
theorem dX14_formOf_117 : decode cX14_formOf 117 = .ok (.imul, 1) := by decide +kernel
theorem dX14_formOf_118 : decode cX14_formOf 118 = .ok (.iadd, 1) := by decide +kernel
theorem dX14_formOf_119 : decode cX14_formOf 119 = .ok (.aload_n 0, 1) := by decide +kernel
theorem dX14_formOf_120 : decode cX14_formOf 120 = .ok (.getfield 94, 3) := by decide +kernel
theorem dX14_formOf_123 : decode cX14_formOf 123 = .ok (.iconst 5, 1) := by decide +kernel
theorem dX14_formOf_124 : decode cX14_formOf 124 = .ok (.iaload, 1) := by decide +kernel
theorem dX14_formOf_125 : decode cX14_formOf 125 = .ok (.aload_n 0, 1) := by decide +kernel
theorem dX14_formOf_126 : decode cX14_formOf 126 = .ok (.getfield 94, 3) := by decide +kernel
theorem dX14_formOf_129 : decode cX14_formOf 129 = .ok (.bipush 7, 2) := by decide +kernel
theorem dX14_formOf_131 : decode cX14_formOf 131 = .ok (.iaload, 1) := by decide +kernel
theorem dX14_formOf_132 : decode cX14_formOf 132 = .ok (.imul, 1) := by decide +kernel
theorem dX14_formOf_133 : decode cX14_formOf 133 = .ok (.isub, 1) := by decide +kernel
theorem dX14_formOf_134 : decode cX14_formOf 134 = .ok (.iadd, 1) := by decide +kernel
theorem dX14_formOf_135 : decode cX14_formOf 135 = .ok (.istore 4, 2) := by decide +kernel
theorem dX14_formOf_137 : decode cX14_formOf 137 = .ok (.aload_n 0, 1) := by decide +kernel
theorem dX14_formOf_138 : decode cX14_formOf 138 = .ok (.getfield 94, 3) := by decide +kernel
theorem dX14_formOf_141 : decode cX14_formOf 141 = .ok (.iconst 0, 1) := by decide +kernel
theorem dX14_formOf_142 : decode cX14_formOf 142 = .ok (.iaload, 1) := by decide +kernel
theorem dX14_formOf_143 : decode cX14_formOf 143 = .ok (.aload_n 0, 1) := by decide +kernel
theorem dX14_formOf_144 : decode cX14_formOf 144 = .ok (.getfield 94, 3) := by decide +kernel
theorem dX14_formOf_147 : decode cX14_formOf 147 = .ok (.iconst 4, 1) := by decide +kernel
theorem dX14_formOf_148 : decode cX14_formOf 148 = .ok (.iaload, 1) := by decide +kernel
theorem dX14_formOf_149 : decode cX14_formOf 149 = .ok (.aload_n 0, 1) := by decide +kernel
theorem dX14_formOf_150 : decode cX14_formOf 150 = .ok (.getfield 94, 3) := by decide +kernel
theorem dX14_formOf_153 : decode cX14_formOf 153 = .ok (.bipush 8, 2) := by decide +kernel
theorem dX14_formOf_155 : decode cX14_formOf 155 = .ok (.iaload, 1) := by decide +kernel
theorem dX14_formOf_156 : decode cX14_formOf 156 = .ok (.imul, 1) := by decide +kernel
theorem dX14_formOf_157 : decode cX14_formOf 157 = .ok (.aload_n 0, 1) := by decide +kernel
theorem dX14_formOf_158 : decode cX14_formOf 158 = .ok (.getfield 94, 3) := by decide +kernel
theorem dX14_formOf_161 : decode cX14_formOf 161 = .ok (.iconst 5, 1) := by decide +kernel
theorem dX14_formOf_162 : decode cX14_formOf 162 = .ok (.iaload, 1) := by decide +kernel
theorem dX14_formOf_163 : decode cX14_formOf 163 = .ok (.aload_n 0, 1) := by decide +kernel
theorem dX14_formOf_164 : decode cX14_formOf 164 = .ok (.getfield 94, 3) := by decide +kernel
theorem dX14_formOf_167 : decode cX14_formOf 167 = .ok (.bipush 7, 2) := by decide +kernel
theorem dX14_formOf_169 : decode cX14_formOf 169 = .ok (.iaload, 1) := by decide +kernel
theorem dX14_formOf_170 : decode cX14_formOf 170 = .ok (.imul, 1) := by decide +kernel
theorem dX14_formOf_171 : decode cX14_formOf 171 = .ok (.isub, 1) := by decide +kernel
theorem dX14_formOf_172 : decode cX14_formOf 172 = .ok (.imul, 1) := by decide +kernel
theorem dX14_formOf_173 : decode cX14_formOf 173 = .ok (.aload_n 0, 1) := by decide +kernel
theorem dX14_formOf_174 : decode cX14_formOf 174 = .ok (.getfield 94, 3) := by decide +kernel
theorem dX14_formOf_177 : decode cX14_formOf 177 = .ok (.iconst 1, 1) := by decide +kernel
theorem dX14_formOf_178 : decode cX14_formOf 178 = .ok (.iaload, 1) := by decide +kernel
theorem dX14_formOf_179 : decode cX14_formOf 179 = .ok (.aload_n 0, 1) := by decide +kernel
theorem dX14_formOf_180 : decode cX14_formOf 180 = .ok (.getfield 94, 3) := by decide +kernel
theorem dX14_formOf_183 : decode cX14_formOf 183 = .ok (.iconst 3, 1) := by decide +kernel
theorem dX14_formOf_184 : decode cX14_formOf 184 = .ok (.iaload, 1) := by decide +kernel
theorem dX14_formOf_185 : decode cX14_formOf 185 = .ok (.aload_n 0, 1) := by decide +kernel
theorem dX14_formOf_186 : decode cX14_formOf 186 = .ok (.getfield 94, 3) := by decide +kernel
theorem dX14_formOf_189 : decode cX14_formOf 189 = .ok (.bipush 8, 2) := by decide +kernel
theorem dX14_formOf_191 : decode cX14_formOf 191 = .ok (.iaload, 1) := by decide +kernel
theorem dX14_formOf_192 : decode cX14_formOf 192 = .ok (.imul, 1) := by decide +kernel
theorem dX14_formOf_193 : decode cX14_formOf 193 = .ok (.aload_n 0, 1) := by decide +kernel
theorem dX14_formOf_194 : decode cX14_formOf 194 = .ok (.getfield 94, 3) := by decide +kernel
theorem dX14_formOf_197 : decode cX14_formOf 197 = .ok (.iconst 5, 1) := by decide +kernel
theorem dX14_formOf_198 : decode cX14_formOf 198 = .ok (.iaload, 1) := by decide +kernel
theorem dX14_formOf_199 : decode cX14_formOf 199 = .ok (.aload_n 0, 1) := by decide +kernel
theorem dX14_formOf_200 : decode cX14_formOf 200 = .ok (.getfield 94, 3) := by decide +kernel
theorem dX14_formOf_203 : decode cX14_formOf 203 = .ok (.bipush 6, 2) := by decide +kernel
theorem dX14_formOf_205 : decode cX14_formOf 205 = .ok (.iaload, 1) := by decide +kernel
theorem dX14_formOf_206 : decode cX14_formOf 206 = .ok (.imul, 1) := by decide +kernel
theorem dX14_formOf_207 : decode cX14_formOf 207 = .ok (.isub, 1) := by decide +kernel
theorem dX14_formOf_208 : decode cX14_formOf 208 = .ok (.imul, 1) := by decide +kernel
theorem dX14_formOf_209 : decode cX14_formOf 209 = .ok (.isub, 1) := by decide +kernel
theorem dX14_formOf_210 : decode cX14_formOf 210 = .ok (.aload_n 0, 1) := by decide +kernel
theorem dX14_formOf_211 : decode cX14_formOf 211 = .ok (.getfield 94, 3) := by decide +kernel
theorem dX14_formOf_214 : decode cX14_formOf 214 = .ok (.iconst 2, 1) := by decide +kernel
theorem dX14_formOf_215 : decode cX14_formOf 215 = .ok (.iaload, 1) := by decide +kernel
theorem dX14_formOf_216 : decode cX14_formOf 216 = .ok (.aload_n 0, 1) := by decide +kernel
theorem dX14_formOf_217 : decode cX14_formOf 217 = .ok (.getfield 94, 3) := by decide +kernel
theorem dX14_formOf_220 : decode cX14_formOf 220 = .ok (.iconst 3, 1) := by decide +kernel
theorem dX14_formOf_221 : decode cX14_formOf 221 = .ok (.iaload, 1) := by decide +kernel
theorem dX14_formOf_222 : decode cX14_formOf 222 = .ok (.aload_n 0, 1) := by decide +kernel
theorem dX14_formOf_223 : decode cX14_formOf 223 = .ok (.getfield 94, 3) := by decide +kernel
theorem dX14_formOf_226 : decode cX14_formOf 226 = .ok (.bipush 7, 2) := by decide +kernel
theorem dX14_formOf_228 : decode cX14_formOf 228 = .ok (.iaload, 1) := by decide +kernel
theorem dX14_formOf_229 : decode cX14_formOf 229 = .ok (.imul, 1) := by decide +kernel
theorem dX14_formOf_230 : decode cX14_formOf 230 = .ok (.aload_n 0, 1) := by decide +kernel
theorem dX14_formOf_231 : decode cX14_formOf 231 = .ok (.getfield 94, 3) := by decide +kernel
theorem dX14_formOf_234 : decode cX14_formOf 234 = .ok (.iconst 4, 1) := by decide +kernel
theorem dX14_formOf_235 : decode cX14_formOf 235 = .ok (.iaload, 1) := by decide +kernel
theorem dX14_formOf_236 : decode cX14_formOf 236 = .ok (.aload_n 0, 1) := by decide +kernel
theorem dX14_formOf_237 : decode cX14_formOf 237 = .ok (.getfield 94, 3) := by decide +kernel
theorem dX14_formOf_240 : decode cX14_formOf 240 = .ok (.bipush 6, 2) := by decide +kernel
theorem dX14_formOf_242 : decode cX14_formOf 242 = .ok (.iaload, 1) := by decide +kernel
theorem dX14_formOf_243 : decode cX14_formOf 243 = .ok (.imul, 1) := by decide +kernel
theorem dX14_formOf_244 : decode cX14_formOf 244 = .ok (.isub, 1) := by decide +kernel
theorem dX14_formOf_245 : decode cX14_formOf 245 = .ok (.imul, 1) := by decide +kernel
theorem dX14_formOf_246 : decode cX14_formOf 246 = .ok (.iadd, 1) := by decide +kernel
theorem dX14_formOf_247 : decode cX14_formOf 247 = .ok (.istore 5, 2) := by decide +kernel
theorem dX14_formOf_249 : decode cX14_formOf 249 = .ok (.iload_n 2, 1) := by decide +kernel
theorem dX14_formOf_250 : decode cX14_formOf 250 = .ok (.iload_n 1, 1) := by decide +kernel
theorem dX14_formOf_251 : decode cX14_formOf 251 = .ok (.isub, 1) := by decide +kernel
theorem dX14_formOf_252 : decode cX14_formOf 252 = .ok (.istore 6, 2) := by decide +kernel
theorem dX14_formOf_254 : decode cX14_formOf 254 = .ok (.iload 6, 2) := by decide +kernel
theorem dX14_formOf_256 : decode cX14_formOf 256 = .ok (.ifCond .ne 7, 3) := by decide +kernel
theorem dX14_formOf_259 : decode cX14_formOf 259 = .ok (.iconst 1, 1) := by decide +kernel
theorem dX14_formOf_260 : decode cX14_formOf 260 = .ok (.goto 28, 3) := by decide +kernel
theorem dX14_formOf_263 : decode cX14_formOf 263 = .ok (.iload 6, 2) := by decide +kernel
theorem dX14_formOf_265 : decode cX14_formOf 265 = .ok (.iconst 1, 1) := by decide +kernel
theorem dX14_formOf_266 : decode cX14_formOf 266 = .ok (.if_icmp .ne 8, 3) := by decide +kernel
theorem dX14_formOf_269 : decode cX14_formOf 269 = .ok (.iload_n 3, 1) := by decide +kernel
theorem dX14_formOf_270 : decode cX14_formOf 270 = .ok (.ineg, 1) := by decide +kernel
theorem dX14_formOf_271 : decode cX14_formOf 271 = .ok (.goto 17, 3) := by decide +kernel
theorem dX14_formOf_274 : decode cX14_formOf 274 = .ok (.iload 6, 2) := by decide +kernel
theorem dX14_formOf_276 : decode cX14_formOf 276 = .ok (.iconst 2, 1) := by decide +kernel
theorem dX14_formOf_277 : decode cX14_formOf 277 = .ok (.if_icmp .ne 8, 3) := by decide +kernel
theorem dX14_formOf_280 : decode cX14_formOf 280 = .ok (.iload 4, 2) := by decide +kernel
theorem dX14_formOf_282 : decode cX14_formOf 282 = .ok (.goto 6, 3) := by decide +kernel
theorem dX14_formOf_285 : decode cX14_formOf 285 = .ok (.iload 5, 2) := by decide +kernel
theorem dX14_formOf_287 : decode cX14_formOf 287 = .ok (.ineg, 1) := by decide +kernel
theorem dX14_formOf_288 : decode cX14_formOf 288 = .ok (.ireturn, 1) := by decide +kernel
def s_X14_formOf_137  (l0 : Nat) (l1 : Int32) (l2 : Int32) (l3 : Int32) (l4 : Int32) (h : aH) : aO :=
  (gO h (.ref l0) 14 45).bind fun x138 => (ldI .int h (.ref x138) 0).bind fun x142 => (gO h (.ref l0) 14 45).bind fun x144 => (ldI .int h (.ref x144) 4).bind fun x148 => (gO h (.ref l0) 14 45).bind fun x150 => (ldI .int h (.ref x150) 8).bind fun x155 => (gO h (.ref l0) 14 45).bind fun x158 => (ldI .int h (.ref x158) 5).bind fun x162 => (gO h (.ref l0) 14 45).bind fun x164 => (ldI .int h (.ref x164) 7).bind fun x169 => (gO h (.ref l0) 14 45).bind fun x174 => (ldI .int h (.ref x174) 1).bind fun x178 => (gO h (.ref l0) 14 45).bind fun x180 => (ldI .int h (.ref x180) 3).bind fun x184 => (gO h (.ref l0) 14 45).bind fun x186 => (ldI .int h (.ref x186) 8).bind fun x191 => (gO h (.ref l0) 14 45).bind fun x194 => (ldI .int h (.ref x194) 5).bind fun x198 => (gO h (.ref l0) 14 45).bind fun x200 => (ldI .int h (.ref x200) 6).bind fun x205 => (gO h (.ref l0) 14 45).bind fun x211 => (ldI .int h (.ref x211) 2).bind fun x215 => (gO h (.ref l0) 14 45).bind fun x217 => (ldI .int h (.ref x217) 3).bind fun x221 => (gO h (.ref l0) 14 45).bind fun x223 => (ldI .int h (.ref x223) 7).bind fun x228 => (gO h (.ref l0) 14 45).bind fun x231 => (ldI .int h (.ref x231) 4).bind fun x235 => (gO h (.ref l0) 14 45).bind fun x237 => (ldI .int h (.ref x237) 6).bind fun x242 => if (l2 - l1) = 0 then (some (.inl (some (.int 1)), h)) else (if (l2 - l1) = 1 then (some (.inl (some (.int (-l3))), h)) else (if (l2 - l1) = 2 then (some (.inl (some (.int l4)), h)) else (some (.inl (some (.int (-(((x142 * ((x148 * x155) - (x162 * x169))) - (x178 * ((x184 * x191) - (x198 * x205)))) + (x215 * ((x221 * x228) - (x235 * x242))))))), h))))
def s_X14_formOf_15_b  (k15 : Nat → Int32 → Int32 → Int32 → Int32 → aH → aO) (l0 : Nat) (l1 : Int32) (l2 : Int32) (l3 : Int32) (l4 : Int32) (h : aH) : aO :=
  if l2 ≤ l4 then ((gO h (.ref l0) 14 45).bind fun x40 => (ldI .int h (.ref x40) 0).bind fun x44 => (gO h (.ref l0) 14 45).bind fun x46 => (ldI .int h (.ref x46) 4).bind fun x50 => (gO h (.ref l0) 14 45).bind fun x53 => (ldI .int h (.ref x53) 1).bind fun x57 => (gO h (.ref l0) 14 45).bind fun x59 => (ldI .int h (.ref x59) 3).bind fun x63 => if l2 ≤ 2 then (s_X14_formOf_137 l0 l1 l2 l3 ((x44 * x50) - (x57 * x63)) h) else ((gO h (.ref l0) 14 45).bind fun x76 => (ldI .int h (.ref x76) 0).bind fun x80 => (gO h (.ref l0) 14 45).bind fun x82 => (ldI .int h (.ref x82) 8).bind fun x87 => (gO h (.ref l0) 14 45).bind fun x90 => (ldI .int h (.ref x90) 2).bind fun x94 => (gO h (.ref l0) 14 45).bind fun x96 => (ldI .int h (.ref x96) 6).bind fun x101 => (gO h (.ref l0) 14 45).bind fun x105 => (ldI .int h (.ref x105) 4).bind fun x109 => (gO h (.ref l0) 14 45).bind fun x111 => (ldI .int h (.ref x111) 8).bind fun x116 => (gO h (.ref l0) 14 45).bind fun x120 => (ldI .int h (.ref x120) 5).bind fun x124 => (gO h (.ref l0) 14 45).bind fun x126 => (ldI .int h (.ref x126) 7).bind fun x131 => s_X14_formOf_137 l0 l1 l2 l3 (((x44 * x50) - (x57 * x63)) + ((((x80 * x87) - (x94 * x101)) + (x109 * x116)) - (x124 * x131))) h)) else ((gO h (.ref l0) 14 45).bind fun x23 => (ldI .int h (.ref x23) (4 * l4)).bind fun x30 => k15 l0 l1 l2 (l3 + x30) (l4 + 1) h)
def s_X14_formOf_15  (n : Nat) : Nat → Int32 → Int32 → Int32 → Int32 → aH → aO := lpF (fun _ _ _ _ _ _ => none) (s_X14_formOf_15_b ) n
def s_X14_formOf (o : Nat) (a1 : Int32) (h : aH) : aO :=
  (gO h (.ref o) 14 4).bind fun x1 => (gO h (.ref x1) 13 0).bind fun x4 => (ldI .int h (.ref x4) 0).bind fun x8 => s_X14_formOf_15 FU o a1 x8 0 0 h
section
variable {p : Program} {l : Launch} {e : Env} {s : State} {m : MethodId} {args : Array Value} {below : List Frame} {meth : Method} {c : Code} {D : va_G} {B0 : Nat} {X : Nat → Nat} {ws0 : va_W} {r : aR} {h' : aH} {mc ms : Nat}
theorem t_X14_formOf_137 (C : Cx p l s m args meth c B0 X RX14 "formOf" cX14_formOf 7 (some .int) [])   {l0 : Nat} {l1 : Int32} {l2 : Int32} {l3 : Int32} {l4 : Int32} {h : aH} (hs : s_X14_formOf_137  l0 l1 l2 l3 l4 h = some (r, h')) : Ev p l e { frames := 0, cells := mc, slots := ms, locals := 0 } s m args below meth c D B0 X ws0 r h' mc ms 7 mc ms 137 [some (.ref l0), some (.int l1), some (.int l2), some (.int l3), some (.int l4), none, none] [] h := by
  unfold s_X14_formOf_137 at hs
  refine ev_aload_n C (x := .ref l0) rfl trivial dX14_formOf_137 ?_
  obtain ⟨x138, e138, hs⟩ := aB hs
  refine ev_get C (ci := 14) (k := 45) rfl wu_14 (by decide) wf_X14_94 (gO_F e138) dX14_formOf_138 ?_
  refine ev_iconst C (v := 0) dX14_formOf_141 (by decide) ?_
  obtain ⟨x142, e142, hs⟩ := aB hs
  refine ev_iald C e142 dX14_formOf_142 ?_
  refine ev_aload_n C (x := .ref l0) rfl trivial dX14_formOf_143 ?_
  obtain ⟨x144, e144, hs⟩ := aB hs
  refine ev_get C (ci := 14) (k := 45) rfl wu_14 (by decide) wf_X14_94 (gO_F e144) dX14_formOf_144 ?_
  refine ev_iconst C (v := 4) dX14_formOf_147 (by decide) ?_
  obtain ⟨x148, e148, hs⟩ := aB hs
  refine ev_iald C e148 dX14_formOf_148 ?_
  refine ev_aload_n C (x := .ref l0) rfl trivial dX14_formOf_149 ?_
  obtain ⟨x150, e150, hs⟩ := aB hs
  refine ev_get C (ci := 14) (k := 45) rfl wu_14 (by decide) wf_X14_94 (gO_F e150) dX14_formOf_150 ?_
  refine ev_bipush C (v := 8) dX14_formOf_153 (by decide) ?_
  obtain ⟨x155, e155, hs⟩ := aB hs
  refine ev_iald C e155 dX14_formOf_155 ?_
  refine ev_imul C dX14_formOf_156 ?_
  refine ev_aload_n C (x := .ref l0) rfl trivial dX14_formOf_157 ?_
  obtain ⟨x158, e158, hs⟩ := aB hs
  refine ev_get C (ci := 14) (k := 45) rfl wu_14 (by decide) wf_X14_94 (gO_F e158) dX14_formOf_158 ?_
  refine ev_iconst C (v := 5) dX14_formOf_161 (by decide) ?_
  obtain ⟨x162, e162, hs⟩ := aB hs
  refine ev_iald C e162 dX14_formOf_162 ?_
  refine ev_aload_n C (x := .ref l0) rfl trivial dX14_formOf_163 ?_
  obtain ⟨x164, e164, hs⟩ := aB hs
  refine ev_get C (ci := 14) (k := 45) rfl wu_14 (by decide) wf_X14_94 (gO_F e164) dX14_formOf_164 ?_
  refine ev_bipush C (v := 7) dX14_formOf_167 (by decide) ?_
  obtain ⟨x169, e169, hs⟩ := aB hs
  refine ev_iald C e169 dX14_formOf_169 ?_
  refine ev_imul C dX14_formOf_170 ?_
  refine ev_isub C dX14_formOf_171 ?_
  refine ev_imul C dX14_formOf_172 ?_
  refine ev_aload_n C (x := .ref l0) rfl trivial dX14_formOf_173 ?_
  obtain ⟨x174, e174, hs⟩ := aB hs
  refine ev_get C (ci := 14) (k := 45) rfl wu_14 (by decide) wf_X14_94 (gO_F e174) dX14_formOf_174 ?_
  refine ev_iconst C (v := 1) dX14_formOf_177 (by decide) ?_
  obtain ⟨x178, e178, hs⟩ := aB hs
  refine ev_iald C e178 dX14_formOf_178 ?_
  refine ev_aload_n C (x := .ref l0) rfl trivial dX14_formOf_179 ?_
  obtain ⟨x180, e180, hs⟩ := aB hs
  refine ev_get C (ci := 14) (k := 45) rfl wu_14 (by decide) wf_X14_94 (gO_F e180) dX14_formOf_180 ?_
  refine ev_iconst C (v := 3) dX14_formOf_183 (by decide) ?_
  obtain ⟨x184, e184, hs⟩ := aB hs
  refine ev_iald C e184 dX14_formOf_184 ?_
  refine ev_aload_n C (x := .ref l0) rfl trivial dX14_formOf_185 ?_
  obtain ⟨x186, e186, hs⟩ := aB hs
  refine ev_get C (ci := 14) (k := 45) rfl wu_14 (by decide) wf_X14_94 (gO_F e186) dX14_formOf_186 ?_
  refine ev_bipush C (v := 8) dX14_formOf_189 (by decide) ?_
  obtain ⟨x191, e191, hs⟩ := aB hs
  refine ev_iald C e191 dX14_formOf_191 ?_
  refine ev_imul C dX14_formOf_192 ?_
  refine ev_aload_n C (x := .ref l0) rfl trivial dX14_formOf_193 ?_
  obtain ⟨x194, e194, hs⟩ := aB hs
  refine ev_get C (ci := 14) (k := 45) rfl wu_14 (by decide) wf_X14_94 (gO_F e194) dX14_formOf_194 ?_
  refine ev_iconst C (v := 5) dX14_formOf_197 (by decide) ?_
  obtain ⟨x198, e198, hs⟩ := aB hs
  refine ev_iald C e198 dX14_formOf_198 ?_
  refine ev_aload_n C (x := .ref l0) rfl trivial dX14_formOf_199 ?_
  obtain ⟨x200, e200, hs⟩ := aB hs
  refine ev_get C (ci := 14) (k := 45) rfl wu_14 (by decide) wf_X14_94 (gO_F e200) dX14_formOf_200 ?_
  refine ev_bipush C (v := 6) dX14_formOf_203 (by decide) ?_
  obtain ⟨x205, e205, hs⟩ := aB hs
  refine ev_iald C e205 dX14_formOf_205 ?_
  refine ev_imul C dX14_formOf_206 ?_
  refine ev_isub C dX14_formOf_207 ?_
  refine ev_imul C dX14_formOf_208 ?_
  refine ev_isub C dX14_formOf_209 ?_
  refine ev_aload_n C (x := .ref l0) rfl trivial dX14_formOf_210 ?_
  obtain ⟨x211, e211, hs⟩ := aB hs
  refine ev_get C (ci := 14) (k := 45) rfl wu_14 (by decide) wf_X14_94 (gO_F e211) dX14_formOf_211 ?_
  refine ev_iconst C (v := 2) dX14_formOf_214 (by decide) ?_
  obtain ⟨x215, e215, hs⟩ := aB hs
  refine ev_iald C e215 dX14_formOf_215 ?_
  refine ev_aload_n C (x := .ref l0) rfl trivial dX14_formOf_216 ?_
  obtain ⟨x217, e217, hs⟩ := aB hs
  refine ev_get C (ci := 14) (k := 45) rfl wu_14 (by decide) wf_X14_94 (gO_F e217) dX14_formOf_217 ?_
  refine ev_iconst C (v := 3) dX14_formOf_220 (by decide) ?_
  obtain ⟨x221, e221, hs⟩ := aB hs
  refine ev_iald C e221 dX14_formOf_221 ?_
  refine ev_aload_n C (x := .ref l0) rfl trivial dX14_formOf_222 ?_
  obtain ⟨x223, e223, hs⟩ := aB hs
  refine ev_get C (ci := 14) (k := 45) rfl wu_14 (by decide) wf_X14_94 (gO_F e223) dX14_formOf_223 ?_
  refine ev_bipush C (v := 7) dX14_formOf_226 (by decide) ?_
  obtain ⟨x228, e228, hs⟩ := aB hs
  refine ev_iald C e228 dX14_formOf_228 ?_
  refine ev_imul C dX14_formOf_229 ?_
  refine ev_aload_n C (x := .ref l0) rfl trivial dX14_formOf_230 ?_
  obtain ⟨x231, e231, hs⟩ := aB hs
  refine ev_get C (ci := 14) (k := 45) rfl wu_14 (by decide) wf_X14_94 (gO_F e231) dX14_formOf_231 ?_
  refine ev_iconst C (v := 4) dX14_formOf_234 (by decide) ?_
  obtain ⟨x235, e235, hs⟩ := aB hs
  refine ev_iald C e235 dX14_formOf_235 ?_
  refine ev_aload_n C (x := .ref l0) rfl trivial dX14_formOf_236 ?_
  obtain ⟨x237, e237, hs⟩ := aB hs
  refine ev_get C (ci := 14) (k := 45) rfl wu_14 (by decide) wf_X14_94 (gO_F e237) dX14_formOf_237 ?_
  refine ev_bipush C (v := 6) dX14_formOf_240 (by decide) ?_
  obtain ⟨x242, e242, hs⟩ := aB hs
  refine ev_iald C e242 dX14_formOf_242 ?_
  refine ev_imul C dX14_formOf_243 ?_
  refine ev_isub C dX14_formOf_244 ?_
  refine ev_imul C dX14_formOf_245 ?_
  refine ev_iadd C dX14_formOf_246 ?_
  refine ev_istore C (by decide) dX14_formOf_247 ?_
  refine ev_iload_n C rfl dX14_formOf_249 ?_
  refine ev_iload_n C rfl dX14_formOf_250 ?_
  refine ev_isub C dX14_formOf_251 ?_
  refine ev_istore C (by decide) dX14_formOf_252 ?_
  refine ev_iload C rfl dX14_formOf_254 ?_
  refine ev_if_ne C (tgt := 263) (by decide) dX14_formOf_256 (fun q256 => ?_) (fun q256 => ?_)
  · replace hs := (if_neg q256).symm.trans hs
    refine ev_iload C rfl dX14_formOf_263 ?_
    refine ev_iconst C (v := 1) dX14_formOf_265 (by decide) ?_
    refine ev_icmp_ne C (tgt := 274) (by decide) dX14_formOf_266 (fun q266 => ?_) (fun q266 => ?_)
    · replace hs := (if_neg q266).symm.trans hs
      refine ev_iload C rfl dX14_formOf_274 ?_
      refine ev_iconst C (v := 2) dX14_formOf_276 (by decide) ?_
      refine ev_icmp_ne C (tgt := 285) (by decide) dX14_formOf_277 (fun q277 => ?_) (fun q277 => ?_)
      · replace hs := (if_neg q277).symm.trans hs
        refine ev_iload C rfl dX14_formOf_285 ?_
        refine ev_ineg C dX14_formOf_287 ?_
        cases hs
        exact ev_iret C rfl rfl (Nat.le_refl _) (Nat.le_refl _) rfl dX14_formOf_288
      · replace hs := (if_pos q277).symm.trans hs
        refine ev_iload C rfl dX14_formOf_280 ?_
        refine ev_goto C (tgt := 288) (by decide) dX14_formOf_282 ?_
        cases hs
        exact ev_iret C rfl rfl (Nat.le_refl _) (Nat.le_refl _) rfl dX14_formOf_288
    · replace hs := (if_pos q266).symm.trans hs
      refine ev_iload_n C rfl dX14_formOf_269 ?_
      refine ev_ineg C dX14_formOf_270 ?_
      refine ev_goto C (tgt := 288) (by decide) dX14_formOf_271 ?_
      cases hs
      exact ev_iret C rfl rfl (Nat.le_refl _) (Nat.le_refl _) rfl dX14_formOf_288
  · replace hs := (if_pos q256).symm.trans hs
    refine ev_iconst C (v := 1) dX14_formOf_259 (by decide) ?_
    refine ev_goto C (tgt := 288) (by decide) dX14_formOf_260 ?_
    cases hs
    exact ev_iret C rfl rfl (Nat.le_refl _) (Nat.le_refl _) rfl dX14_formOf_288
theorem t_X14_formOf_15_b (C : Cx p l s m args meth c B0 X RX14 "formOf" cX14_formOf 7 (some .int) [])   {k15 : Nat → Int32 → Int32 → Int32 → Int32 → aH → aO} (K15 : ∀ (l0 : Nat) (l1 : Int32) (l2 : Int32) (l3 : Int32) (l4 : Int32) (h : aH), k15 l0 l1 l2 l3 l4 h = some (r, h') → Ev p l e { frames := 0, cells := mc, slots := ms, locals := 0 } s m args below meth c D B0 X ws0 r h' mc ms 7 mc ms 15 [some (.ref l0), some (.int l1), some (.int l2), some (.int l3), some (.int l4), none, none] [] h) {l0 : Nat} {l1 : Int32} {l2 : Int32} {l3 : Int32} {l4 : Int32} {h : aH} (hs : s_X14_formOf_15_b  k15 l0 l1 l2 l3 l4 h = some (r, h')) : Ev p l e { frames := 0, cells := mc, slots := ms, locals := 0 } s m args below meth c D B0 X ws0 r h' mc ms 7 mc ms 15 [some (.ref l0), some (.int l1), some (.int l2), some (.int l3), some (.int l4), none, none] [] h := by
  unfold s_X14_formOf_15_b at hs
  refine ev_iload C rfl dX14_formOf_15 ?_
  refine ev_iload_n C rfl dX14_formOf_17 ?_
  refine ev_icmp_ge C (tgt := 39) (by decide) dX14_formOf_18 (fun q18 => ?_) (fun q18 => ?_)
  · replace hs := (if_pos q18).symm.trans hs
    refine ev_aload_n C (x := .ref l0) rfl trivial dX14_formOf_39 ?_
    obtain ⟨x40, e40, hs⟩ := aB hs
    refine ev_get C (ci := 14) (k := 45) rfl wu_14 (by decide) wf_X14_94 (gO_F e40) dX14_formOf_40 ?_
    refine ev_iconst C (v := 0) dX14_formOf_43 (by decide) ?_
    obtain ⟨x44, e44, hs⟩ := aB hs
    refine ev_iald C e44 dX14_formOf_44 ?_
    refine ev_aload_n C (x := .ref l0) rfl trivial dX14_formOf_45 ?_
    obtain ⟨x46, e46, hs⟩ := aB hs
    refine ev_get C (ci := 14) (k := 45) rfl wu_14 (by decide) wf_X14_94 (gO_F e46) dX14_formOf_46 ?_
    refine ev_iconst C (v := 4) dX14_formOf_49 (by decide) ?_
    obtain ⟨x50, e50, hs⟩ := aB hs
    refine ev_iald C e50 dX14_formOf_50 ?_
    refine ev_imul C dX14_formOf_51 ?_
    refine ev_aload_n C (x := .ref l0) rfl trivial dX14_formOf_52 ?_
    obtain ⟨x53, e53, hs⟩ := aB hs
    refine ev_get C (ci := 14) (k := 45) rfl wu_14 (by decide) wf_X14_94 (gO_F e53) dX14_formOf_53 ?_
    refine ev_iconst C (v := 1) dX14_formOf_56 (by decide) ?_
    obtain ⟨x57, e57, hs⟩ := aB hs
    refine ev_iald C e57 dX14_formOf_57 ?_
    refine ev_aload_n C (x := .ref l0) rfl trivial dX14_formOf_58 ?_
    obtain ⟨x59, e59, hs⟩ := aB hs
    refine ev_get C (ci := 14) (k := 45) rfl wu_14 (by decide) wf_X14_94 (gO_F e59) dX14_formOf_59 ?_
    refine ev_iconst C (v := 3) dX14_formOf_62 (by decide) ?_
    obtain ⟨x63, e63, hs⟩ := aB hs
    refine ev_iald C e63 dX14_formOf_63 ?_
    refine ev_imul C dX14_formOf_64 ?_
    refine ev_isub C dX14_formOf_65 ?_
    refine ev_istore C (by decide) dX14_formOf_66 ?_
    refine ev_iload_n C rfl dX14_formOf_68 ?_
    refine ev_iconst C (v := 2) dX14_formOf_69 (by decide) ?_
    refine ev_icmp_le C (tgt := 137) (by decide) dX14_formOf_70 (fun q70 => ?_) (fun q70 => ?_)
    · replace hs := (if_pos q70).symm.trans hs
      exact (t_X14_formOf_137 C  hs)
    · replace hs := (if_neg q70).symm.trans hs
      refine ev_iload C rfl dX14_formOf_73 ?_
      refine ev_aload_n C (x := .ref l0) rfl trivial dX14_formOf_75 ?_
      obtain ⟨x76, e76, hs⟩ := aB hs
      refine ev_get C (ci := 14) (k := 45) rfl wu_14 (by decide) wf_X14_94 (gO_F e76) dX14_formOf_76 ?_
      refine ev_iconst C (v := 0) dX14_formOf_79 (by decide) ?_
      obtain ⟨x80, e80, hs⟩ := aB hs
      refine ev_iald C e80 dX14_formOf_80 ?_
      refine ev_aload_n C (x := .ref l0) rfl trivial dX14_formOf_81 ?_
      obtain ⟨x82, e82, hs⟩ := aB hs
      refine ev_get C (ci := 14) (k := 45) rfl wu_14 (by decide) wf_X14_94 (gO_F e82) dX14_formOf_82 ?_
      refine ev_bipush C (v := 8) dX14_formOf_85 (by decide) ?_
      obtain ⟨x87, e87, hs⟩ := aB hs
      refine ev_iald C e87 dX14_formOf_87 ?_
      refine ev_imul C dX14_formOf_88 ?_
      refine ev_aload_n C (x := .ref l0) rfl trivial dX14_formOf_89 ?_
      obtain ⟨x90, e90, hs⟩ := aB hs
      refine ev_get C (ci := 14) (k := 45) rfl wu_14 (by decide) wf_X14_94 (gO_F e90) dX14_formOf_90 ?_
      refine ev_iconst C (v := 2) dX14_formOf_93 (by decide) ?_
      obtain ⟨x94, e94, hs⟩ := aB hs
      refine ev_iald C e94 dX14_formOf_94 ?_
      refine ev_aload_n C (x := .ref l0) rfl trivial dX14_formOf_95 ?_
      obtain ⟨x96, e96, hs⟩ := aB hs
      refine ev_get C (ci := 14) (k := 45) rfl wu_14 (by decide) wf_X14_94 (gO_F e96) dX14_formOf_96 ?_
      refine ev_bipush C (v := 6) dX14_formOf_99 (by decide) ?_
      obtain ⟨x101, e101, hs⟩ := aB hs
      refine ev_iald C e101 dX14_formOf_101 ?_
      refine ev_imul C dX14_formOf_102 ?_
      refine ev_isub C dX14_formOf_103 ?_
      refine ev_aload_n C (x := .ref l0) rfl trivial dX14_formOf_104 ?_
      obtain ⟨x105, e105, hs⟩ := aB hs
      refine ev_get C (ci := 14) (k := 45) rfl wu_14 (by decide) wf_X14_94 (gO_F e105) dX14_formOf_105 ?_
      refine ev_iconst C (v := 4) dX14_formOf_108 (by decide) ?_
      obtain ⟨x109, e109, hs⟩ := aB hs
      refine ev_iald C e109 dX14_formOf_109 ?_
      refine ev_aload_n C (x := .ref l0) rfl trivial dX14_formOf_110 ?_
      obtain ⟨x111, e111, hs⟩ := aB hs
      refine ev_get C (ci := 14) (k := 45) rfl wu_14 (by decide) wf_X14_94 (gO_F e111) dX14_formOf_111 ?_
      refine ev_bipush C (v := 8) dX14_formOf_114 (by decide) ?_
      obtain ⟨x116, e116, hs⟩ := aB hs
      refine ev_iald C e116 dX14_formOf_116 ?_
      refine ev_imul C dX14_formOf_117 ?_
      refine ev_iadd C dX14_formOf_118 ?_
      refine ev_aload_n C (x := .ref l0) rfl trivial dX14_formOf_119 ?_
      obtain ⟨x120, e120, hs⟩ := aB hs
      refine ev_get C (ci := 14) (k := 45) rfl wu_14 (by decide) wf_X14_94 (gO_F e120) dX14_formOf_120 ?_
      refine ev_iconst C (v := 5) dX14_formOf_123 (by decide) ?_
      obtain ⟨x124, e124, hs⟩ := aB hs
      refine ev_iald C e124 dX14_formOf_124 ?_
      refine ev_aload_n C (x := .ref l0) rfl trivial dX14_formOf_125 ?_
      obtain ⟨x126, e126, hs⟩ := aB hs
      refine ev_get C (ci := 14) (k := 45) rfl wu_14 (by decide) wf_X14_94 (gO_F e126) dX14_formOf_126 ?_
      refine ev_bipush C (v := 7) dX14_formOf_129 (by decide) ?_
      obtain ⟨x131, e131, hs⟩ := aB hs
      refine ev_iald C e131 dX14_formOf_131 ?_
      refine ev_imul C dX14_formOf_132 ?_
      refine ev_isub C dX14_formOf_133 ?_
      refine ev_iadd C dX14_formOf_134 ?_
      refine ev_istore C (by decide) dX14_formOf_135 ?_
      exact (t_X14_formOf_137 C  hs)
  · replace hs := (if_neg q18).symm.trans hs
    refine ev_iload_n C rfl dX14_formOf_21 ?_
    refine ev_aload_n C (x := .ref l0) rfl trivial dX14_formOf_22 ?_
    obtain ⟨x23, e23, hs⟩ := aB hs
    refine ev_get C (ci := 14) (k := 45) rfl wu_14 (by decide) wf_X14_94 (gO_F e23) dX14_formOf_23 ?_
    refine ev_iconst C (v := 4) dX14_formOf_26 (by decide) ?_
    refine ev_iload C rfl dX14_formOf_27 ?_
    refine ev_imul C dX14_formOf_29 ?_
    obtain ⟨x30, e30, hs⟩ := aB hs
    refine ev_iald C e30 dX14_formOf_30 ?_
    refine ev_iadd C dX14_formOf_31 ?_
    refine ev_istore_n C (by decide) dX14_formOf_32 ?_
    refine ev_iinc C (i := 4) (n := 1) (x := l4) (v := l4 + 1) rfl (congrArg (fun z => l4 + z) (show Int32.ofInt 1 = 1 by decide)) (by decide) dX14_formOf_33 ?_
    refine ev_goto C (tgt := 15) (by decide) dX14_formOf_36 ?_
    exact (K15 _ _ _ _ _ _ hs)
theorem t_X14_formOf_15 (C : Cx p l s m args meth c B0 X RX14 "formOf" cX14_formOf 7 (some .int) [])   : ∀ (n : Nat) {l0 : Nat} {l1 : Int32} {l2 : Int32} {l3 : Int32} {l4 : Int32} {h : aH} (hs : s_X14_formOf_15  n l0 l1 l2 l3 l4 h = some (r, h')), Ev p l e { frames := 0, cells := mc, slots := ms, locals := 0 } s m args below meth c D B0 X ws0 r h' mc ms 7 mc ms 15 [some (.ref l0), some (.int l1), some (.int l2), some (.int l3), some (.int l4), none, none] [] h
  | 0, _, _, _, _, _, _, hs => nomatch hs
  | n + 1, _, _, _, _, _, _, hs => t_X14_formOf_15_b C  (k15 := s_X14_formOf_15  n) (fun _ _ _ _ _ _ hs => t_X14_formOf_15 C  n hs) hs
theorem hy_X14_formOf : yX14_formOf.cls ≠ "java/lang/invoke/MethodHandle" ∧ yX14_formOf.cls ≠ "java/lang/invoke/VarHandle" ∧ (parseMethodDescriptor yX14_formOf.desc).map (fun d => d.parameters.length) = some 1 := by decide +kernel
theorem T_X14_formOf (o : Nat) (a1 : Int32) (h : aH) (r : aR) (h' : aH) (hs : s_X14_formOf o a1 h = some (r, h')) : Mt yX14_formOf (Cond.code yX14_formOf cX14_formOf 7 (some .int) :: aTB) 0 0 0 0 [.ref o, .int a1] h r h' := by
  unfold s_X14_formOf at hs
  refine Mt_of (k := 5) (by decide) rfl (fun p l e s m args below meth c D B0 X ws0 C => ?_)
  show Ev p l e { frames := 0, cells := 0, slots := 0, locals := 0 } s m args below meth c D B0 X ws0 r h' 0 0 7 0 0 0 [some (.ref o), some (.int a1), none, none, none, none, none] [] h
  refine ev_aload_n C (x := .ref o) rfl trivial dX14_formOf_0 ?_
  obtain ⟨x1, e1, hs⟩ := aB hs
  refine ev_get C (ci := 14) (k := 4) rfl wu_14 (by decide) wf_X14_376 (gO_F e1) dX14_formOf_1 ?_
  obtain ⟨x4, e4, hs⟩ := aB hs
  refine ev_getN C (ci := 13) (k := 0) rfl wu_13 (by decide) wg_X14_252 (gO_F e4) dX14_formOf_4 ?_
  refine ev_iconst C (v := 0) dX14_formOf_7 (by decide) ?_
  obtain ⟨x8, e8, hs⟩ := aB hs
  refine ev_iald C e8 dX14_formOf_8 ?_
  refine ev_istore_n C (by decide) dX14_formOf_9 ?_
  refine ev_iconst C (v := 0) dX14_formOf_10 (by decide) ?_
  refine ev_istore_n C (by decide) dX14_formOf_11 ?_
  refine ev_iconst C (v := 0) dX14_formOf_12 (by decide) ?_
  refine ev_istore C (by decide) dX14_formOf_13 ?_
  exact (t_X14_formOf_15 C  FU hs)
end
