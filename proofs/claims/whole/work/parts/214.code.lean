-- X14_gathers
theorem dX14_gathers_0 : decode cX14_gathers 0 = .ok (.iconst 0, 1) := by decide +kernel
theorem dX14_gathers_1 : decode cX14_gathers 1 = .ok (.istore 4, 2) := by decide +kernel
theorem dX14_gathers_3 : decode cX14_gathers 3 = .ok (.iload 4, 2) := by decide +kernel
theorem dX14_gathers_5 : decode cX14_gathers 5 = .ok (.aload_n 0, 1) := by decide +kernel
theorem dX14_gathers_6 : decode cX14_gathers 6 = .ok (.getfield 379, 3) := by decide +kernel
theorem dX14_gathers_9 : decode cX14_gathers 9 = .ok (.if_icmp .ge 17, 3) := by decide +kernel
theorem dX14_gathers_12 : decode cX14_gathers 12 = .ok (.aload_n 0, 1) := by decide +kernel
theorem dX14_gathers_13 : decode cX14_gathers 13 = .ok (.getfield 145, 3) := by decide +kernel
theorem dX14_gathers_16 : decode cX14_gathers 16 = .ok (.iload 4, 2) := by decide +kernel
theorem dX14_gathers_18 : decode cX14_gathers 18 = .ok (.iconst 0, 1) := by decide +kernel
theorem dX14_gathers_19 : decode cX14_gathers 19 = .ok (.bastore, 1) := by decide +kernel
theorem dX14_gathers_20 : decode cX14_gathers 20 = .ok (.iinc 4 1, 3) := by decide +kernel
theorem dX14_gathers_23 : decode cX14_gathers 23 = .ok (.goto (-20), 3) := by decide +kernel
theorem dX14_gathers_26 : decode cX14_gathers 26 = .ok (.iconst 0, 1) := by decide +kernel
theorem dX14_gathers_27 : decode cX14_gathers 27 = .ok (.istore 4, 2) := by decide +kernel
theorem dX14_gathers_29 : decode cX14_gathers 29 = .ok (.iload 4, 2) := by decide +kernel
theorem dX14_gathers_31 : decode cX14_gathers 31 = .ok (.aload_n 0, 1) := by decide +kernel
theorem dX14_gathers_32 : decode cX14_gathers 32 = .ok (.getfield 385, 3) := by decide +kernel
theorem dX14_gathers_35 : decode cX14_gathers 35 = .ok (.if_icmp .ge 74, 3) := by decide +kernel
theorem dX14_gathers_38 : decode cX14_gathers 38 = .ok (.aload_n 0, 1) := by decide +kernel
theorem dX14_gathers_39 : decode cX14_gathers 39 = .ok (.iload 4, 2) := by decide +kernel
theorem dX14_gathers_41 : decode cX14_gathers 41 = .ok (.iload_n 1, 1) := by decide +kernel
theorem dX14_gathers_42 : decode cX14_gathers 42 = .ok (.iload_n 2, 1) := by decide +kernel
theorem dX14_gathers_43 : decode cX14_gathers 43 = .ok (.iload_n 3, 1) := by decide +kernel
theorem dX14_gathers_44 : decode cX14_gathers 44 = .ok (.invokevirtual 616, 3) := by decide +kernel
theorem dX14_gathers_47 : decode cX14_gathers 47 = .ok (.ifCond .ne 6, 3) := by decide +kernel
theorem dX14_gathers_50 : decode cX14_gathers 50 = .ok (.goto 53, 3) := by decide +kernel
theorem dX14_gathers_53 : decode cX14_gathers 53 = .ok (.iconst 0, 1) := by decide +kernel
theorem dX14_gathers_54 : decode cX14_gathers 54 = .ok (.istore 5, 2) := by decide +kernel
theorem dX14_gathers_56 : decode cX14_gathers 56 = .ok (.iload 5, 2) := by decide +kernel
theorem dX14_gathers_58 : decode cX14_gathers 58 = .ok (.aload_n 0, 1) := by decide +kernel
theorem dX14_gathers_59 : decode cX14_gathers 59 = .ok (.getfield 379, 3) := by decide +kernel
theorem dX14_gathers_62 : decode cX14_gathers 62 = .ok (.if_icmp .ge 41, 3) := by decide +kernel
theorem dX14_gathers_65 : decode cX14_gathers 65 = .ok (.aload_n 0, 1) := by decide +kernel
theorem dX14_gathers_66 : decode cX14_gathers 66 = .ok (.getfield 145, 3) := by decide +kernel
theorem dX14_gathers_69 : decode cX14_gathers 69 = .ok (.iload 5, 2) := by decide +kernel
theorem dX14_gathers_71 : decode cX14_gathers 71 = .ok (.aload_n 0, 1) := by decide +kernel
theorem dX14_gathers_72 : decode cX14_gathers 72 = .ok (.getfield 145, 3) := by decide +kernel
theorem dX14_gathers_75 : decode cX14_gathers 75 = .ok (.iload 5, 2) := by decide +kernel
theorem dX14_gathers_77 : decode cX14_gathers 77 = .ok (.baload, 1) := by decide +kernel
theorem dX14_gathers_78 : decode cX14_gathers 78 = .ok (.ifCond .ne 13, 3) := by decide +kernel
theorem dX14_gathers_81 : decode cX14_gathers 81 = .ok (.aload_n 0, 1) := by decide +kernel
theorem dX14_gathers_82 : decode cX14_gathers 82 = .ok (.getfield 139, 3) := by decide +kernel
theorem dX14_gathers_85 : decode cX14_gathers 85 = .ok (.iload 5, 2) := by decide +kernel
theorem dX14_gathers_87 : decode cX14_gathers 87 = .ok (.baload, 1) := by decide +kernel
theorem dX14_gathers_88 : decode cX14_gathers 88 = .ok (.ifCond .eq 7, 3) := by decide +kernel
theorem dX14_gathers_91 : decode cX14_gathers 91 = .ok (.iconst 1, 1) := by decide +kernel
theorem dX14_gathers_92 : decode cX14_gathers 92 = .ok (.goto 4, 3) := by decide +kernel
theorem dX14_gathers_95 : decode cX14_gathers 95 = .ok (.iconst 0, 1) := by decide +kernel
theorem dX14_gathers_96 : decode cX14_gathers 96 = .ok (.bastore, 1) := by decide +kernel
theorem dX14_gathers_97 : decode cX14_gathers 97 = .ok (.iinc 5 1, 3) := by decide +kernel
theorem dX14_gathers_100 : decode cX14_gathers 100 = .ok (.goto (-44), 3) := by decide +kernel
theorem dX14_gathers_103 : decode cX14_gathers 103 = .ok (.iinc 4 1, 3) := by decide +kernel
theorem dX14_gathers_106 : decode cX14_gathers 106 = .ok (.goto (-77), 3) := by decide +kernel
theorem dX14_gathers_109 : decode cX14_gathers 109 = .ok (.iconst 0, 1) := by decide +kernel
theorem dX14_gathers_110 : decode cX14_gathers 110 = .ok (.istore 4, 2) := by decide +kernel
theorem dX14_gathers_112 : decode cX14_gathers 112 = .ok (.iconst 0, 1) := by decide +kernel
theorem dX14_gathers_113 : decode cX14_gathers 113 = .ok (.istore 5, 2) := by decide +kernel
theorem dX14_gathers_115 : decode cX14_gathers 115 = .ok (.iload 5, 2) := by decide +kernel
theorem dX14_gathers_117 : decode cX14_gathers 117 = .ok (.aload_n 0, 1) := by decide +kernel
theorem dX14_gathers_118 : decode cX14_gathers 118 = .ok (.getfield 379, 3) := by decide +kernel
theorem dX14_gathers_121 : decode cX14_gathers 121 = .ok (.if_icmp .ge 29, 3) := by decide +kernel
theorem dX14_gathers_124 : decode cX14_gathers 124 = .ok (.iload 4, 2) := by decide +kernel
theorem dX14_gathers_126 : decode cX14_gathers 126 = .ok (.aload_n 0, 1) := by decide +kernel
theorem dX14_gathers_127 : decode cX14_gathers 127 = .ok (.getfield 145, 3) := by decide +kernel
theorem dX14_gathers_130 : decode cX14_gathers 130 = .ok (.iload 5, 2) := by decide +kernel
theorem dX14_gathers_132 : decode cX14_gathers 132 = .ok (.baload, 1) := by decide +kernel
theorem dX14_gathers_133 : decode cX14_gathers 133 = .ok (.ifCond .eq 7, 3) := by decide +kernel
theorem dX14_gathers_136 : decode cX14_gathers 136 = .ok (.iconst 1, 1) := by decide +kernel
theorem dX14_gathers_137 : decode cX14_gathers 137 = .ok (.goto 4, 3) := by decide +kernel
theorem dX14_gathers_140 : decode cX14_gathers 140 = .ok (.iconst 0, 1) := by decide +kernel
theorem dX14_gathers_141 : decode cX14_gathers 141 = .ok (.iadd, 1) := by decide +kernel
theorem dX14_gathers_142 : decode cX14_gathers 142 = .ok (.istore 4, 2) := by decide +kernel
theorem dX14_gathers_144 : decode cX14_gathers 144 = .ok (.iinc 5 1, 3) := by decide +kernel
theorem dX14_gathers_147 : decode cX14_gathers 147 = .ok (.goto (-32), 3) := by decide +kernel
theorem dX14_gathers_150 : decode cX14_gathers 150 = .ok (.iload 4, 2) := by decide +kernel
theorem dX14_gathers_152 : decode cX14_gathers 152 = .ok (.ireturn, 1) := by decide +kernel
def s_X14_gathers_141 (k115 : Nat → Int32 → Int32 → aH → aO) (l0 : Nat) (l5 : Int32) (s0 : Int32) (s1 : Int32) (h : aH) : aO :=
  k115 l0 (s1 + s0) (l5 + 1) h
def s_X14_gathers_115_b  (k115 : Nat → Int32 → Int32 → aH → aO) (l0 : Nat) (l4 : Int32) (l5 : Int32) (h : aH) : aO :=
  (gI h (.ref l0) 14 20).bind fun x118 => if x118 ≤ l5 then (some (.inl (some (.int l4)), h)) else ((gO h (.ref l0) 14 65).bind fun x127 => (ldI .boolean h (.ref x127) l5).bind fun x132 => if x132 = 0 then (s_X14_gathers_141 k115 l0 l5 0 l4 h) else (s_X14_gathers_141 k115 l0 l5 1 l4 h))
def s_X14_gathers_115  (n : Nat) : Nat → Int32 → Int32 → aH → aO := lpF (fun _ _ _ _ => none) (s_X14_gathers_115_b ) n
def s_X14_gathers_96 (k29 : Nat → Int32 → Int32 → Int32 → Int32 → aH → aO) (k56 : Nat → Int32 → Int32 → Int32 → Int32 → Int32 → aH → aO) (l0 : Nat) (l1 : Int32) (l2 : Int32) (l3 : Int32) (l4 : Int32) (l5 : Int32) (s0 : Int32) (s1 : Int32) (s2 : Nat) (h : aH) : aO :=
  (stN .boolean h (.ref s2) s1 s0).bind fun h96 => k56 l0 l1 l2 l3 l4 (l5 + 1) h96
def s_X14_gathers_91 (k29 : Nat → Int32 → Int32 → Int32 → Int32 → aH → aO) (k56 : Nat → Int32 → Int32 → Int32 → Int32 → Int32 → aH → aO) (l0 : Nat) (l1 : Int32) (l2 : Int32) (l3 : Int32) (l4 : Int32) (l5 : Int32) (s0 : Int32) (s1 : Nat) (h : aH) : aO :=
  s_X14_gathers_96 k29 k56 l0 l1 l2 l3 l4 l5 1 s0 s1 h
def s_X14_gathers_56_b (k29 : Nat → Int32 → Int32 → Int32 → Int32 → aH → aO) (k56 : Nat → Int32 → Int32 → Int32 → Int32 → Int32 → aH → aO) (l0 : Nat) (l1 : Int32) (l2 : Int32) (l3 : Int32) (l4 : Int32) (l5 : Int32) (h : aH) : aO :=
  (gI h (.ref l0) 14 20).bind fun x59 => if x59 ≤ l5 then (k29 l0 l1 l2 l3 (l4 + 1) h) else ((gO h (.ref l0) 14 65).bind fun x66 => (gO h (.ref l0) 14 65).bind fun x72 => (ldI .boolean h (.ref x72) l5).bind fun x77 => if x77 = 0 then ((gO h (.ref l0) 14 63).bind fun x82 => (ldI .boolean h (.ref x82) l5).bind fun x87 => if x87 = 0 then (s_X14_gathers_96 k29 k56 l0 l1 l2 l3 l4 l5 0 l5 x66 h) else (s_X14_gathers_91 k29 k56 l0 l1 l2 l3 l4 l5 l5 x66 h)) else (s_X14_gathers_91 k29 k56 l0 l1 l2 l3 l4 l5 l5 x66 h))
def s_X14_gathers_56 (k29 : Nat → Int32 → Int32 → Int32 → Int32 → aH → aO) (n : Nat) : Nat → Int32 → Int32 → Int32 → Int32 → Int32 → aH → aO := lpF (fun _ _ _ _ _ _ _ => none) (s_X14_gathers_56_b k29) n
def s_X14_gathers_29_b  (k29 : Nat → Int32 → Int32 → Int32 → Int32 → aH → aO) (l0 : Nat) (l1 : Int32) (l2 : Int32) (l3 : Int32) (l4 : Int32) (h : aH) : aO :=
  (gI h (.ref l0) 14 23).bind fun x32 => if x32 ≤ l4 then (s_X14_gathers_115 FU l0 0 0 h) else (kO h l0 14 (cI (s_X14_goes l0 l4 l1 l2 l3 h) fun x44 h44 => if x44 = 0 then (k29 l0 l1 l2 l3 (l4 + 1) h44) else (s_X14_gathers_56 k29 FU l0 l1 l2 l3 l4 0 h44)))
def s_X14_gathers_29  (n : Nat) : Nat → Int32 → Int32 → Int32 → Int32 → aH → aO := lpF (fun _ _ _ _ _ _ => none) (s_X14_gathers_29_b ) n
def s_X14_gathers_3_b  (k3 : Nat → Int32 → Int32 → Int32 → Int32 → aH → aO) (l0 : Nat) (l1 : Int32) (l2 : Int32) (l3 : Int32) (l4 : Int32) (h : aH) : aO :=
  (gI h (.ref l0) 14 20).bind fun x6 => if x6 ≤ l4 then (s_X14_gathers_29 FU l0 l1 l2 l3 0 h) else ((gO h (.ref l0) 14 65).bind fun x13 => (stN .boolean h (.ref x13) l4 0).bind fun h19 => k3 l0 l1 l2 l3 (l4 + 1) h19)
def s_X14_gathers_3  (n : Nat) : Nat → Int32 → Int32 → Int32 → Int32 → aH → aO := lpF (fun _ _ _ _ _ _ => none) (s_X14_gathers_3_b ) n
def s_X14_gathers (o : Nat) (a1 : Int32) (a2 : Int32) (a3 : Int32) (h : aH) : aO :=
  s_X14_gathers_3 FU o a1 a2 a3 0 h
section
variable {p : Program} {l : Launch} {e : Env} {s : State} {m : MethodId} {args : Array Value} {below : List Frame} {meth : Method} {c : Code} {D : va_G} {B0 : Nat} {X : Nat → Nat} {ws0 : va_W} {r : aR} {h' : aH} {mc ms : Nat}
theorem t_X14_gathers_141 (C : Cx p l s m args meth c B0 X RX14 "gathers" cX14_gathers 6 (some .int) []) {k115 : Nat → Int32 → Int32 → aH → aO} (K115 : ∀ (l0 : Nat) (l4 : Int32) (l5 : Int32) (h : aH), k115 l0 l4 l5 h = some (r, h') → Ev p l e { frames := 6, cells := mc, slots := ms, locals := 153 } s m args below meth c D B0 X ws0 r h' mc ms 6 mc ms 115 [some (.ref l0), none, none, none, some (.int l4), some (.int l5)] [] h) {l0 : Nat} {l5 : Int32} {s0 : Int32} {s1 : Int32} {h : aH} (hs : s_X14_gathers_141 k115 l0 l5 s0 s1 h = some (r, h')) : Ev p l e { frames := 6, cells := mc, slots := ms, locals := 153 } s m args below meth c D B0 X ws0 r h' mc ms 6 mc ms 141 [some (.ref l0), none, none, none, none, some (.int l5)] [.int s0, .int s1] h := by
  unfold s_X14_gathers_141 at hs
  refine ev_iadd C dX14_gathers_141 ?_
  refine ev_istore C (by decide) dX14_gathers_142 ?_
  refine ev_iinc C (i := 5) (n := 1) (x := l5) (v := l5 + 1) rfl (congrArg (fun z => l5 + z) (show Int32.ofInt 1 = 1 by decide)) (by decide) dX14_gathers_144 ?_
  refine ev_goto C (tgt := 115) (by decide) dX14_gathers_147 ?_
  exact (K115 _ _ _ _ hs)
theorem t_X14_gathers_115_b (C : Cx p l s m args meth c B0 X RX14 "gathers" cX14_gathers 6 (some .int) [])   {k115 : Nat → Int32 → Int32 → aH → aO} (K115 : ∀ (l0 : Nat) (l4 : Int32) (l5 : Int32) (h : aH), k115 l0 l4 l5 h = some (r, h') → Ev p l e { frames := 6, cells := mc, slots := ms, locals := 153 } s m args below meth c D B0 X ws0 r h' mc ms 6 mc ms 115 [some (.ref l0), none, none, none, some (.int l4), some (.int l5)] [] h) {l0 : Nat} {l4 : Int32} {l5 : Int32} {h : aH} (hs : s_X14_gathers_115_b  k115 l0 l4 l5 h = some (r, h')) : Ev p l e { frames := 6, cells := mc, slots := ms, locals := 153 } s m args below meth c D B0 X ws0 r h' mc ms 6 mc ms 115 [some (.ref l0), none, none, none, some (.int l4), some (.int l5)] [] h := by
  unfold s_X14_gathers_115_b at hs
  refine ev_iload C rfl dX14_gathers_115 ?_
  refine ev_aload_n C (x := .ref l0) rfl trivial dX14_gathers_117 ?_
  obtain ⟨x118, e118, hs⟩ := aB hs
  refine ev_get C (ci := 14) (k := 20) rfl wu_14 (by decide) wf_X14_379 (gI_F e118) dX14_gathers_118 ?_
  refine ev_icmp_ge C (tgt := 150) (by decide) dX14_gathers_121 (fun q121 => ?_) (fun q121 => ?_)
  · replace hs := (if_pos q121).symm.trans hs
    refine ev_iload C rfl dX14_gathers_150 ?_
    cases hs
    exact ev_iret C rfl rfl (Nat.le_refl _) (Nat.le_refl _) rfl dX14_gathers_152
  · replace hs := (if_neg q121).symm.trans hs
    refine ev_iload C rfl dX14_gathers_124 ?_
    refine ev_aload_n C (x := .ref l0) rfl trivial dX14_gathers_126 ?_
    obtain ⟨x127, e127, hs⟩ := aB hs
    refine ev_get C (ci := 14) (k := 65) rfl wu_14 (by decide) wf_X14_145 (gO_F e127) dX14_gathers_127 ?_
    refine ev_iload C rfl dX14_gathers_130 ?_
    obtain ⟨x132, e132, hs⟩ := aB hs
    refine ev_zald C e132 dX14_gathers_132 ?_
    refine ev_if_eq C (tgt := 140) (by decide) dX14_gathers_133 (fun q133 => ?_) (fun q133 => ?_)
    · replace hs := (if_pos q133).symm.trans hs
      refine ev_iconst C (v := 0) dX14_gathers_140 (by decide) ?_
      exact Ev.keep [true, true, true, true, false, true] (t_X14_gathers_141 C K115 hs)
    · replace hs := (if_neg q133).symm.trans hs
      refine ev_iconst C (v := 1) dX14_gathers_136 (by decide) ?_
      refine ev_goto C (tgt := 141) (by decide) dX14_gathers_137 ?_
      exact Ev.keep [true, true, true, true, false, true] (t_X14_gathers_141 C K115 hs)
theorem t_X14_gathers_115 (C : Cx p l s m args meth c B0 X RX14 "gathers" cX14_gathers 6 (some .int) [])   : ∀ (n : Nat) {l0 : Nat} {l4 : Int32} {l5 : Int32} {h : aH} (hs : s_X14_gathers_115  n l0 l4 l5 h = some (r, h')), Ev p l e { frames := 6, cells := mc, slots := ms, locals := 153 } s m args below meth c D B0 X ws0 r h' mc ms 6 mc ms 115 [some (.ref l0), none, none, none, some (.int l4), some (.int l5)] [] h
  | 0, _, _, _, _, hs => nomatch hs
  | n + 1, _, _, _, _, hs => t_X14_gathers_115_b C  (k115 := s_X14_gathers_115  n) (fun _ _ _ _ hs => t_X14_gathers_115 C  n hs) hs
theorem t_X14_gathers_96 (C : Cx p l s m args meth c B0 X RX14 "gathers" cX14_gathers 6 (some .int) []) {k29 : Nat → Int32 → Int32 → Int32 → Int32 → aH → aO} {k56 : Nat → Int32 → Int32 → Int32 → Int32 → Int32 → aH → aO} (K29 : ∀ (l0 : Nat) (l1 : Int32) (l2 : Int32) (l3 : Int32) (l4 : Int32) (h : aH), k29 l0 l1 l2 l3 l4 h = some (r, h') → Ev p l e { frames := 6, cells := mc, slots := ms, locals := 153 } s m args below meth c D B0 X ws0 r h' mc ms 6 mc ms 29 [some (.ref l0), some (.int l1), some (.int l2), some (.int l3), some (.int l4), none] [] h) (K56 : ∀ (l0 : Nat) (l1 : Int32) (l2 : Int32) (l3 : Int32) (l4 : Int32) (l5 : Int32) (h : aH), k56 l0 l1 l2 l3 l4 l5 h = some (r, h') → Ev p l e { frames := 6, cells := mc, slots := ms, locals := 153 } s m args below meth c D B0 X ws0 r h' mc ms 6 mc ms 56 [some (.ref l0), some (.int l1), some (.int l2), some (.int l3), some (.int l4), some (.int l5)] [] h) {l0 : Nat} {l1 : Int32} {l2 : Int32} {l3 : Int32} {l4 : Int32} {l5 : Int32} {s0 : Int32} {s1 : Int32} {s2 : Nat} {h : aH} (hs : s_X14_gathers_96 k29 k56 l0 l1 l2 l3 l4 l5 s0 s1 s2 h = some (r, h')) : Ev p l e { frames := 6, cells := mc, slots := ms, locals := 153 } s m args below meth c D B0 X ws0 r h' mc ms 6 mc ms 96 [some (.ref l0), some (.int l1), some (.int l2), some (.int l3), some (.int l4), some (.int l5)] [.int s0, .int s1, .ref s2] h := by
  unfold s_X14_gathers_96 at hs
  obtain ⟨h96, e96, hs⟩ := aB hs
  refine ev_zast C e96 dX14_gathers_96 ?_
  refine ev_iinc C (i := 5) (n := 1) (x := l5) (v := l5 + 1) rfl (congrArg (fun z => l5 + z) (show Int32.ofInt 1 = 1 by decide)) (by decide) dX14_gathers_97 ?_
  refine ev_goto C (tgt := 56) (by decide) dX14_gathers_100 ?_
  exact (K56 _ _ _ _ _ _ _ hs)
theorem t_X14_gathers_91 (C : Cx p l s m args meth c B0 X RX14 "gathers" cX14_gathers 6 (some .int) []) {k29 : Nat → Int32 → Int32 → Int32 → Int32 → aH → aO} {k56 : Nat → Int32 → Int32 → Int32 → Int32 → Int32 → aH → aO} (K29 : ∀ (l0 : Nat) (l1 : Int32) (l2 : Int32) (l3 : Int32) (l4 : Int32) (h : aH), k29 l0 l1 l2 l3 l4 h = some (r, h') → Ev p l e { frames := 6, cells := mc, slots := ms, locals := 153 } s m args below meth c D B0 X ws0 r h' mc ms 6 mc ms 29 [some (.ref l0), some (.int l1), some (.int l2), some (.int l3), some (.int l4), none] [] h) (K56 : ∀ (l0 : Nat) (l1 : Int32) (l2 : Int32) (l3 : Int32) (l4 : Int32) (l5 : Int32) (h : aH), k56 l0 l1 l2 l3 l4 l5 h = some (r, h') → Ev p l e { frames := 6, cells := mc, slots := ms, locals := 153 } s m args below meth c D B0 X ws0 r h' mc ms 6 mc ms 56 [some (.ref l0), some (.int l1), some (.int l2), some (.int l3), some (.int l4), some (.int l5)] [] h) {l0 : Nat} {l1 : Int32} {l2 : Int32} {l3 : Int32} {l4 : Int32} {l5 : Int32} {s0 : Int32} {s1 : Nat} {h : aH} (hs : s_X14_gathers_91 k29 k56 l0 l1 l2 l3 l4 l5 s0 s1 h = some (r, h')) : Ev p l e { frames := 6, cells := mc, slots := ms, locals := 153 } s m args below meth c D B0 X ws0 r h' mc ms 6 mc ms 91 [some (.ref l0), some (.int l1), some (.int l2), some (.int l3), some (.int l4), some (.int l5)] [.int s0, .ref s1] h := by
  unfold s_X14_gathers_91 at hs
  refine ev_iconst C (v := 1) dX14_gathers_91 (by decide) ?_
  refine ev_goto C (tgt := 96) (by decide) dX14_gathers_92 ?_
  exact (t_X14_gathers_96 C K29 K56 hs)
theorem t_X14_gathers_56_b (C : Cx p l s m args meth c B0 X RX14 "gathers" cX14_gathers 6 (some .int) []) {k29 : Nat → Int32 → Int32 → Int32 → Int32 → aH → aO} (K29 : ∀ (l0 : Nat) (l1 : Int32) (l2 : Int32) (l3 : Int32) (l4 : Int32) (h : aH), k29 l0 l1 l2 l3 l4 h = some (r, h') → Ev p l e { frames := 6, cells := mc, slots := ms, locals := 153 } s m args below meth c D B0 X ws0 r h' mc ms 6 mc ms 29 [some (.ref l0), some (.int l1), some (.int l2), some (.int l3), some (.int l4), none] [] h) {k56 : Nat → Int32 → Int32 → Int32 → Int32 → Int32 → aH → aO} (K56 : ∀ (l0 : Nat) (l1 : Int32) (l2 : Int32) (l3 : Int32) (l4 : Int32) (l5 : Int32) (h : aH), k56 l0 l1 l2 l3 l4 l5 h = some (r, h') → Ev p l e { frames := 6, cells := mc, slots := ms, locals := 153 } s m args below meth c D B0 X ws0 r h' mc ms 6 mc ms 56 [some (.ref l0), some (.int l1), some (.int l2), some (.int l3), some (.int l4), some (.int l5)] [] h) {l0 : Nat} {l1 : Int32} {l2 : Int32} {l3 : Int32} {l4 : Int32} {l5 : Int32} {h : aH} (hs : s_X14_gathers_56_b k29 k56 l0 l1 l2 l3 l4 l5 h = some (r, h')) : Ev p l e { frames := 6, cells := mc, slots := ms, locals := 153 } s m args below meth c D B0 X ws0 r h' mc ms 6 mc ms 56 [some (.ref l0), some (.int l1), some (.int l2), some (.int l3), some (.int l4), some (.int l5)] [] h := by
  unfold s_X14_gathers_56_b at hs
  refine ev_iload C rfl dX14_gathers_56 ?_
  refine ev_aload_n C (x := .ref l0) rfl trivial dX14_gathers_58 ?_
  obtain ⟨x59, e59, hs⟩ := aB hs
  refine ev_get C (ci := 14) (k := 20) rfl wu_14 (by decide) wf_X14_379 (gI_F e59) dX14_gathers_59 ?_
  refine ev_icmp_ge C (tgt := 103) (by decide) dX14_gathers_62 (fun q62 => ?_) (fun q62 => ?_)
  · replace hs := (if_pos q62).symm.trans hs
    refine ev_iinc C (i := 4) (n := 1) (x := l4) (v := l4 + 1) rfl (congrArg (fun z => l4 + z) (show Int32.ofInt 1 = 1 by decide)) (by decide) dX14_gathers_103 ?_
    refine ev_goto C (tgt := 29) (by decide) dX14_gathers_106 ?_
    exact Ev.keep [true, true, true, true, true, false] (K29 _ _ _ _ _ _ hs)
  · replace hs := (if_neg q62).symm.trans hs
    refine ev_aload_n C (x := .ref l0) rfl trivial dX14_gathers_65 ?_
    obtain ⟨x66, e66, hs⟩ := aB hs
    refine ev_get C (ci := 14) (k := 65) rfl wu_14 (by decide) wf_X14_145 (gO_F e66) dX14_gathers_66 ?_
    refine ev_iload C rfl dX14_gathers_69 ?_
    refine ev_aload_n C (x := .ref l0) rfl trivial dX14_gathers_71 ?_
    obtain ⟨x72, e72, hs⟩ := aB hs
    refine ev_get C (ci := 14) (k := 65) rfl wu_14 (by decide) wf_X14_145 (gO_F e72) dX14_gathers_72 ?_
    refine ev_iload C rfl dX14_gathers_75 ?_
    obtain ⟨x77, e77, hs⟩ := aB hs
    refine ev_zald C e77 dX14_gathers_77 ?_
    refine ev_if_ne C (tgt := 91) (by decide) dX14_gathers_78 (fun q78 => ?_) (fun q78 => ?_)
    · replace hs := (if_neg q78).symm.trans hs
      exact (t_X14_gathers_91 C K29 K56 hs)
    · replace hs := (if_pos q78).symm.trans hs
      refine ev_aload_n C (x := .ref l0) rfl trivial dX14_gathers_81 ?_
      obtain ⟨x82, e82, hs⟩ := aB hs
      refine ev_get C (ci := 14) (k := 63) rfl wu_14 (by decide) wf_X14_139 (gO_F e82) dX14_gathers_82 ?_
      refine ev_iload C rfl dX14_gathers_85 ?_
      obtain ⟨x87, e87, hs⟩ := aB hs
      refine ev_zald C e87 dX14_gathers_87 ?_
      refine ev_if_eq C (tgt := 95) (by decide) dX14_gathers_88 (fun q88 => ?_) (fun q88 => ?_)
      · replace hs := (if_pos q88).symm.trans hs
        refine ev_iconst C (v := 0) dX14_gathers_95 (by decide) ?_
        exact (t_X14_gathers_96 C K29 K56 hs)
      · replace hs := (if_neg q88).symm.trans hs
        exact (t_X14_gathers_91 C K29 K56 hs)
theorem t_X14_gathers_56 (C : Cx p l s m args meth c B0 X RX14 "gathers" cX14_gathers 6 (some .int) []) {k29 : Nat → Int32 → Int32 → Int32 → Int32 → aH → aO} (K29 : ∀ (l0 : Nat) (l1 : Int32) (l2 : Int32) (l3 : Int32) (l4 : Int32) (h : aH), k29 l0 l1 l2 l3 l4 h = some (r, h') → Ev p l e { frames := 6, cells := mc, slots := ms, locals := 153 } s m args below meth c D B0 X ws0 r h' mc ms 6 mc ms 29 [some (.ref l0), some (.int l1), some (.int l2), some (.int l3), some (.int l4), none] [] h) : ∀ (n : Nat) {l0 : Nat} {l1 : Int32} {l2 : Int32} {l3 : Int32} {l4 : Int32} {l5 : Int32} {h : aH} (hs : s_X14_gathers_56 k29 n l0 l1 l2 l3 l4 l5 h = some (r, h')), Ev p l e { frames := 6, cells := mc, slots := ms, locals := 153 } s m args below meth c D B0 X ws0 r h' mc ms 6 mc ms 56 [some (.ref l0), some (.int l1), some (.int l2), some (.int l3), some (.int l4), some (.int l5)] [] h
  | 0, _, _, _, _, _, _, _, hs => nomatch hs
  | n + 1, _, _, _, _, _, _, _, hs => t_X14_gathers_56_b C K29 (k56 := s_X14_gathers_56 k29 n) (fun _ _ _ _ _ _ _ hs => t_X14_gathers_56 C K29 n hs) hs
theorem t_X14_gathers_29_b (C : Cx p l s m args meth c B0 X RX14 "gathers" cX14_gathers 6 (some .int) [])   {k29 : Nat → Int32 → Int32 → Int32 → Int32 → aH → aO} (K29 : ∀ (l0 : Nat) (l1 : Int32) (l2 : Int32) (l3 : Int32) (l4 : Int32) (h : aH), k29 l0 l1 l2 l3 l4 h = some (r, h') → Ev p l e { frames := 6, cells := mc, slots := ms, locals := 153 } s m args below meth c D B0 X ws0 r h' mc ms 6 mc ms 29 [some (.ref l0), some (.int l1), some (.int l2), some (.int l3), some (.int l4), none] [] h) {l0 : Nat} {l1 : Int32} {l2 : Int32} {l3 : Int32} {l4 : Int32} {h : aH} (hs : s_X14_gathers_29_b  k29 l0 l1 l2 l3 l4 h = some (r, h')) : Ev p l e { frames := 6, cells := mc, slots := ms, locals := 153 } s m args below meth c D B0 X ws0 r h' mc ms 6 mc ms 29 [some (.ref l0), some (.int l1), some (.int l2), some (.int l3), some (.int l4), none] [] h := by
  unfold s_X14_gathers_29_b at hs
  refine ev_iload C rfl dX14_gathers_29 ?_
  refine ev_aload_n C (x := .ref l0) rfl trivial dX14_gathers_31 ?_
  obtain ⟨x32, e32, hs⟩ := aB hs
  refine ev_get C (ci := 14) (k := 23) rfl wu_14 (by decide) wf_X14_385 (gI_F e32) dX14_gathers_32 ?_
  refine ev_icmp_ge C (tgt := 109) (by decide) dX14_gathers_35 (fun q35 => ?_) (fun q35 => ?_)
  · replace hs := (if_pos q35).symm.trans hs
    refine ev_iconst C (v := 0) dX14_gathers_109 (by decide) ?_
    refine ev_istore C (by decide) dX14_gathers_110 ?_
    refine ev_iconst C (v := 0) dX14_gathers_112 (by decide) ?_
    refine ev_istore C (by decide) dX14_gathers_113 ?_
    exact Ev.keep [true, false, false, false, true, true] (t_X14_gathers_115 C  FU hs)
  · replace hs := (if_neg q35).symm.trans hs
    refine ev_aload_n C (x := .ref l0) rfl trivial dX14_gathers_38 ?_
    refine ev_iload C rfl dX14_gathers_39 ?_
    refine ev_iload_n C rfl dX14_gathers_41 ?_
    refine ev_iload_n C rfl dX14_gathers_42 ?_
    refine ev_iload_n C rfl dX14_gathers_43 ?_
    obtain ⟨eo44, hs⟩ := kO_at hs
    obtain ⟨x44, h44, e44, hs⟩ := cI_at hs
    refine ev_callV C (T_X14_goes _ _ _ _ _ _ _ _ e44) (ci := 14) rfl eo44 wc_X14_goes wm_X14_616 wi_X14_goes ws_X14_goes wz_X14 hy_X14_goes ⟨(Nat.le_of_ble_eq_true rfl), (Nat.le_of_ble_eq_true rfl)⟩ ⟨(Nat.le_refl _), (Nat.le_refl _)⟩ (Nat.le_of_ble_eq_true rfl) rfl dX14_gathers_44 ?_
    refine ev_if_ne C (tgt := 53) (by decide) dX14_gathers_47 (fun q47 => ?_) (fun q47 => ?_)
    · replace hs := (if_neg q47).symm.trans hs
      refine ev_iconst C (v := 0) dX14_gathers_53 (by decide) ?_
      refine ev_istore C (by decide) dX14_gathers_54 ?_
      exact (t_X14_gathers_56 C K29 FU hs)
    · replace hs := (if_pos q47).symm.trans hs
      refine ev_goto C (tgt := 103) (by decide) dX14_gathers_50 ?_
      refine ev_iinc C (i := 4) (n := 1) (x := l4) (v := l4 + 1) rfl (congrArg (fun z => l4 + z) (show Int32.ofInt 1 = 1 by decide)) (by decide) dX14_gathers_103 ?_
      refine ev_goto C (tgt := 29) (by decide) dX14_gathers_106 ?_
      exact (K29 _ _ _ _ _ _ hs)
theorem t_X14_gathers_29 (C : Cx p l s m args meth c B0 X RX14 "gathers" cX14_gathers 6 (some .int) [])   : ∀ (n : Nat) {l0 : Nat} {l1 : Int32} {l2 : Int32} {l3 : Int32} {l4 : Int32} {h : aH} (hs : s_X14_gathers_29  n l0 l1 l2 l3 l4 h = some (r, h')), Ev p l e { frames := 6, cells := mc, slots := ms, locals := 153 } s m args below meth c D B0 X ws0 r h' mc ms 6 mc ms 29 [some (.ref l0), some (.int l1), some (.int l2), some (.int l3), some (.int l4), none] [] h
  | 0, _, _, _, _, _, _, hs => nomatch hs
  | n + 1, _, _, _, _, _, _, hs => t_X14_gathers_29_b C  (k29 := s_X14_gathers_29  n) (fun _ _ _ _ _ _ hs => t_X14_gathers_29 C  n hs) hs
theorem t_X14_gathers_3_b (C : Cx p l s m args meth c B0 X RX14 "gathers" cX14_gathers 6 (some .int) [])   {k3 : Nat → Int32 → Int32 → Int32 → Int32 → aH → aO} (K3 : ∀ (l0 : Nat) (l1 : Int32) (l2 : Int32) (l3 : Int32) (l4 : Int32) (h : aH), k3 l0 l1 l2 l3 l4 h = some (r, h') → Ev p l e { frames := 6, cells := mc, slots := ms, locals := 153 } s m args below meth c D B0 X ws0 r h' mc ms 6 mc ms 3 [some (.ref l0), some (.int l1), some (.int l2), some (.int l3), some (.int l4), none] [] h) {l0 : Nat} {l1 : Int32} {l2 : Int32} {l3 : Int32} {l4 : Int32} {h : aH} (hs : s_X14_gathers_3_b  k3 l0 l1 l2 l3 l4 h = some (r, h')) : Ev p l e { frames := 6, cells := mc, slots := ms, locals := 153 } s m args below meth c D B0 X ws0 r h' mc ms 6 mc ms 3 [some (.ref l0), some (.int l1), some (.int l2), some (.int l3), some (.int l4), none] [] h := by
  unfold s_X14_gathers_3_b at hs
  refine ev_iload C rfl dX14_gathers_3 ?_
  refine ev_aload_n C (x := .ref l0) rfl trivial dX14_gathers_5 ?_
  obtain ⟨x6, e6, hs⟩ := aB hs
  refine ev_get C (ci := 14) (k := 20) rfl wu_14 (by decide) wf_X14_379 (gI_F e6) dX14_gathers_6 ?_
  refine ev_icmp_ge C (tgt := 26) (by decide) dX14_gathers_9 (fun q9 => ?_) (fun q9 => ?_)
  · replace hs := (if_pos q9).symm.trans hs
    refine ev_iconst C (v := 0) dX14_gathers_26 (by decide) ?_
    refine ev_istore C (by decide) dX14_gathers_27 ?_
    exact (t_X14_gathers_29 C  FU hs)
  · replace hs := (if_neg q9).symm.trans hs
    refine ev_aload_n C (x := .ref l0) rfl trivial dX14_gathers_12 ?_
    obtain ⟨x13, e13, hs⟩ := aB hs
    refine ev_get C (ci := 14) (k := 65) rfl wu_14 (by decide) wf_X14_145 (gO_F e13) dX14_gathers_13 ?_
    refine ev_iload C rfl dX14_gathers_16 ?_
    refine ev_iconst C (v := 0) dX14_gathers_18 (by decide) ?_
    obtain ⟨h19, e19, hs⟩ := aB hs
    refine ev_zast C e19 dX14_gathers_19 ?_
    refine ev_iinc C (i := 4) (n := 1) (x := l4) (v := l4 + 1) rfl (congrArg (fun z => l4 + z) (show Int32.ofInt 1 = 1 by decide)) (by decide) dX14_gathers_20 ?_
    refine ev_goto C (tgt := 3) (by decide) dX14_gathers_23 ?_
    exact (K3 _ _ _ _ _ _ hs)
theorem t_X14_gathers_3 (C : Cx p l s m args meth c B0 X RX14 "gathers" cX14_gathers 6 (some .int) [])   : ∀ (n : Nat) {l0 : Nat} {l1 : Int32} {l2 : Int32} {l3 : Int32} {l4 : Int32} {h : aH} (hs : s_X14_gathers_3  n l0 l1 l2 l3 l4 h = some (r, h')), Ev p l e { frames := 6, cells := mc, slots := ms, locals := 153 } s m args below meth c D B0 X ws0 r h' mc ms 6 mc ms 3 [some (.ref l0), some (.int l1), some (.int l2), some (.int l3), some (.int l4), none] [] h
  | 0, _, _, _, _, _, _, hs => nomatch hs
  | n + 1, _, _, _, _, _, _, hs => t_X14_gathers_3_b C  (k3 := s_X14_gathers_3  n) (fun _ _ _ _ _ _ hs => t_X14_gathers_3 C  n hs) hs
theorem hy_X14_gathers : yX14_gathers.cls ≠ "java/lang/invoke/MethodHandle" ∧ yX14_gathers.cls ≠ "java/lang/invoke/VarHandle" ∧ (parseMethodDescriptor yX14_gathers.desc).map (fun d => d.parameters.length) = some 3 := by decide +kernel
theorem T_X14_gathers (o : Nat) (a1 : Int32) (a2 : Int32) (a3 : Int32) (h : aH) (r : aR) (h' : aH) (hs : s_X14_gathers o a1 a2 a3 h = some (r, h')) : Mt yX14_gathers (Cond.code yX14_gathers cX14_gathers 6 (some .int) :: aTB) 6 153 0 0 [.ref o, .int a1, .int a2, .int a3] h r h' := by
  unfold s_X14_gathers at hs
  refine Mt_of (k := 2) (by decide) rfl (fun p l e s m args below meth c D B0 X ws0 C => ?_)
  show Ev p l e { frames := 6, cells := 0, slots := 0, locals := 153 } s m args below meth c D B0 X ws0 r h' 0 0 6 0 0 0 [some (.ref o), some (.int a1), some (.int a2), some (.int a3), none, none] [] h
  refine ev_iconst C (v := 0) dX14_gathers_0 (by decide) ?_
  refine ev_istore C (by decide) dX14_gathers_1 ?_
  exact (t_X14_gathers_3 C  FU hs)
end
-- X14_faults
theorem dX14_faults_0 : decode cX14_faults 0 = .ok (.aload_n 0, 1) := by decide +kernel
theorem dX14_faults_1 : decode cX14_faults 1 = .ok (.getfield 376, 3) := by decide +kernel
theorem dX14_faults_4 : decode cX14_faults 4 = .ok (.getfield 252, 3) := by decide +kernel
theorem dX14_faults_7 : decode cX14_faults 7 = .ok (.iconst 1, 1) := by decide +kernel
theorem dX14_faults_8 : decode cX14_faults 8 = .ok (.iaload, 1) := by decide +kernel
theorem dX14_faults_9 : decode cX14_faults 9 = .ok (.aload_n 0, 1) := by decide +kernel
theorem dX14_faults_10 : decode cX14_faults 10 = .ok (.getfield 376, 3) := by decide +kernel
theorem dX14_faults_13 : decode cX14_faults 13 = .ok (.getfield 252, 3) := by decide +kernel
theorem dX14_faults_16 : decode cX14_faults 16 = .ok (.iconst 4, 1) := by decide +kernel
theorem dX14_faults_17 : decode cX14_faults 17 = .ok (.iaload, 1) := by decide +kernel
theorem dX14_faults_18 : decode cX14_faults 18 = .ok (.iadd, 1) := by decide +kernel
theorem dX14_faults_19 : decode cX14_faults 19 = .ok (.ireturn, 1) := by decide +kernel
def s_X14_faults (o : Nat) (h : aH) : aO :=
  (gO h (.ref o) 14 4).bind fun x1 => (gO h (.ref x1) 13 0).bind fun x4 => (ldI .int h (.ref x4) 1).bind fun x8 => (gO h (.ref o) 14 4).bind fun x10 => (gO h (.ref x10) 13 0).bind fun x13 => (ldI .int h (.ref x13) 4).bind fun x17 => some (.inl (some (.int (x8 + x17))), h)
section
variable {p : Program} {l : Launch} {e : Env} {s : State} {m : MethodId} {args : Array Value} {below : List Frame} {meth : Method} {c : Code} {D : va_G} {B0 : Nat} {X : Nat → Nat} {ws0 : va_W} {r : aR} {h' : aH} {mc ms : Nat}
theorem hy_X14_faults : yX14_faults.cls ≠ "java/lang/invoke/MethodHandle" ∧ yX14_faults.cls ≠ "java/lang/invoke/VarHandle" ∧ (parseMethodDescriptor yX14_faults.desc).map (fun d => d.parameters.length) = some 0 := by decide +kernel
theorem T_X14_faults (o : Nat) (h : aH) (r : aR) (h' : aH) (hs : s_X14_faults o h = some (r, h')) : Mt yX14_faults (Cond.code yX14_faults cX14_faults 1 (some .int) :: aTB) 0 0 0 0 [.ref o] h r h' := by
  unfold s_X14_faults at hs
  refine Mt_of (k := 0) (by decide) rfl (fun p l e s m args below meth c D B0 X ws0 C => ?_)
  show Ev p l e { frames := 0, cells := 0, slots := 0, locals := 0 } s m args below meth c D B0 X ws0 r h' 0 0 1 0 0 0 [some (.ref o)] [] h
  refine ev_aload_n C (x := .ref o) rfl trivial dX14_faults_0 ?_
  obtain ⟨x1, e1, hs⟩ := aB hs
  refine ev_get C (ci := 14) (k := 4) rfl wu_14 (by decide) wf_X14_376 (gO_F e1) dX14_faults_1 ?_
  obtain ⟨x4, e4, hs⟩ := aB hs
  refine ev_getN C (ci := 13) (k := 0) rfl wu_13 (by decide) wg_X14_252 (gO_F e4) dX14_faults_4 ?_
  refine ev_iconst C (v := 1) dX14_faults_7 (by decide) ?_
  obtain ⟨x8, e8, hs⟩ := aB hs
  refine ev_iald C e8 dX14_faults_8 ?_
  refine ev_aload_n C (x := .ref o) rfl trivial dX14_faults_9 ?_
  obtain ⟨x10, e10, hs⟩ := aB hs
  refine ev_get C (ci := 14) (k := 4) rfl wu_14 (by decide) wf_X14_376 (gO_F e10) dX14_faults_10 ?_
  obtain ⟨x13, e13, hs⟩ := aB hs
  refine ev_getN C (ci := 13) (k := 0) rfl wu_13 (by decide) wg_X14_252 (gO_F e13) dX14_faults_13 ?_
  refine ev_iconst C (v := 4) dX14_faults_16 (by decide) ?_
  obtain ⟨x17, e17, hs⟩ := aB hs
  refine ev_iald C e17 dX14_faults_17 ?_
  refine ev_iadd C dX14_faults_18 ?_
  cases hs
  exact ev_iret C rfl rfl (Nat.le_refl _) (Nat.le_refl _) rfl dX14_faults_19
end
-- X14_can
theorem dX14_can_0 : decode cX14_can 0 = .ok (.aload_n 0, 1) := by decide +kernel
theorem dX14_can_1 : decode cX14_can 1 = .ok (.iconst 0, 1) := by decide +kernel
theorem dX14_can_2 : decode cX14_can 2 = .ok (.putfield 154, 3) := by decide +kernel
theorem dX14_can_5 : decode cX14_can 5 = .ok (.aload_n 0, 1) := by decide +kernel
theorem dX14_can_6 : decode cX14_can 6 = .ok (.getfield 376, 3) := by decide +kernel
theorem dX14_can_9 : decode cX14_can 9 = .ok (.ifnull 15, 3) := by decide +kernel
theorem dX14_can_12 : decode cX14_can 12 = .ok (.iload_n 1, 1) := by decide +kernel
theorem dX14_can_13 : decode cX14_can 13 = .ok (.iconst 0, 1) := by decide +kernel
theorem dX14_can_14 : decode cX14_can 14 = .ok (.aload_n 0, 1) := by decide +kernel
theorem dX14_can_15 : decode cX14_can 15 = .ok (.invokevirtual 620, 3) := by decide +kernel
theorem dX14_can_18 : decode cX14_can 18 = .ok (.invokestatic 313, 3) := by decide +kernel
theorem dX14_can_21 : decode cX14_can 21 = .ok (.ifCond .ne 9, 3) := by decide +kernel
theorem dX14_can_24 : decode cX14_can 24 = .ok (.aload_n 0, 1) := by decide +kernel
theorem dX14_can_25 : decode cX14_can 25 = .ok (.iconst 1, 1) := by decide +kernel
theorem dX14_can_26 : decode cX14_can 26 = .ok (.invokevirtual 360, 3) := by decide +kernel
theorem dX14_can_29 : decode cX14_can 29 = .ok (.ireturn, 1) := by decide +kernel
theorem dX14_can_30 : decode cX14_can 30 = .ok (.aload_n 0, 1) := by decide +kernel
theorem dX14_can_31 : decode cX14_can 31 = .ok (.aload_n 0, 1) := by decide +kernel
theorem dX14_can_32 : decode cX14_can 32 = .ok (.aload_n 0, 1) := by decide +kernel
theorem dX14_can_33 : decode cX14_can 33 = .ok (.getfield 471, 3) := by decide +kernel
theorem dX14_can_36 : decode cX14_can 36 = .ok (.aload_n 0, 1) := by decide +kernel
theorem dX14_can_37 : decode cX14_can 37 = .ok (.getfield 471, 3) := by decide +kernel
theorem dX14_can_40 : decode cX14_can 40 = .ok (.iload_n 1, 1) := by decide +kernel
theorem dX14_can_41 : decode cX14_can 41 = .ok (.invokevirtual 623, 3) := by decide +kernel
theorem dX14_can_44 : decode cX14_can 44 = .ok (.invokevirtual 413, 3) := by decide +kernel
theorem dX14_can_47 : decode cX14_can 47 = .ok (.ireturn, 1) := by decide +kernel
def s_X14_can_24  (l0 : Nat) (h : aH) : aO :=
  kO h l0 14 (cI (s_X14_refused l0 1 h) fun x26 h26 => some (.inl (some (.int x26)), h26))
def s_X14_can (o : Nat) (a1 : Int32) (h : aH) : aO :=
  (pF h (.ref o) 14 0 (.int 0)).bind fun h2 => (gW h2 (.ref o) 14 4).bind fun x6 => match x6 with | .null => (s_X14_can_24 o h2) | .ref n9 => (kO h2 o 14 (cI (s_X14_faults o h2) fun x15 h15 => cI (s_X14_in a1 0 x15 h15) fun x18 h18 => if x18 = 0 then (s_X14_can_24 o h18) else ((gI h18 (.ref o) 14 59).bind fun x33 => (gI h18 (.ref o) 14 59).bind fun x37 => kO h18 o 14 (cI (s_X14_gathers o x33 x37 a1 h18) fun x41 h41 => kO h41 o 14 (cI (s_X14_done o x41 h41) fun x44 h44 => some (.inl (some (.int x44)), h44)))))) | _ => none
section
variable {p : Program} {l : Launch} {e : Env} {s : State} {m : MethodId} {args : Array Value} {below : List Frame} {meth : Method} {c : Code} {D : va_G} {B0 : Nat} {X : Nat → Nat} {ws0 : va_W} {r : aR} {h' : aH} {mc ms : Nat}
theorem t_X14_can_24 (C : Cx p l s m args meth c B0 X RX14 "can" cX14_can 2 (some .int) [])   {l0 : Nat} {h : aH} (hs : s_X14_can_24  l0 h = some (r, h')) : Ev p l e { frames := 7, cells := mc, slots := ms, locals := 178 } s m args below meth c D B0 X ws0 r h' mc ms 2 mc ms 24 [some (.ref l0), none] [] h := by
  unfold s_X14_can_24 at hs
  refine ev_aload_n C (x := .ref l0) rfl trivial dX14_can_24 ?_
  refine ev_iconst C (v := 1) dX14_can_25 (by decide) ?_
  obtain ⟨eo26, hs⟩ := kO_at hs
  obtain ⟨x26, h26, e26, hs⟩ := cI_at hs
  refine ev_callV C (T_X14_refused _ _ _ _ _ e26) (ci := 14) rfl eo26 wc_X14_refused wm_X14_360 wi_X14_refused ws_X14_refused wz_X14 hy_X14_refused ⟨(Nat.le_of_ble_eq_true rfl), (Nat.le_of_ble_eq_true rfl)⟩ ⟨(Nat.le_refl _), (Nat.le_refl _)⟩ (Nat.le_of_ble_eq_true rfl) rfl dX14_can_26 ?_
  cases hs
  exact ev_iret C rfl rfl (Nat.le_refl _) (Nat.le_refl _) rfl dX14_can_29
theorem hy_X14_can : yX14_can.cls ≠ "java/lang/invoke/MethodHandle" ∧ yX14_can.cls ≠ "java/lang/invoke/VarHandle" ∧ (parseMethodDescriptor yX14_can.desc).map (fun d => d.parameters.length) = some 1 := by decide +kernel
theorem T_X14_can (o : Nat) (a1 : Int32) (h : aH) (r : aR) (h' : aH) (hs : s_X14_can o a1 h = some (r, h')) : Mt yX14_can (Cond.code yX14_can cX14_can 2 (some .int) :: aTB) 7 178 0 0 [.ref o, .int a1] h r h' := by
  unfold s_X14_can at hs
  refine Mt_of (k := 0) (by decide) rfl (fun p l e s m args below meth c D B0 X ws0 C => ?_)
  show Ev p l e { frames := 7, cells := 0, slots := 0, locals := 178 } s m args below meth c D B0 X ws0 r h' 0 0 2 0 0 0 [some (.ref o), some (.int a1)] [] h
  refine ev_aload_n C (x := .ref o) rfl trivial dX14_can_0 ?_
  refine ev_iconst C (v := 0) dX14_can_1 (by decide) ?_
  obtain ⟨h2, e2, hs⟩ := aB hs
  refine ev_put C (ci := 14) (k := 0) rfl wu_14 (by decide) tyX14 tyX14_ok nmX14 wf_X14_154 rfl trivial e2 dX14_can_2 ?_
  refine ev_aload_n C (x := .ref o) rfl trivial dX14_can_5 ?_
  obtain ⟨x6, e6, hs⟩ := aB hs
  refine ev_get C (ci := 14) (k := 4) rfl wu_14 (by decide) wf_X14_376 (gW_F e6).1 dX14_can_6 ?_
  cases x6 with
  | null =>
    refine ev_ifnull_n C (tgt := 24) (by decide) dX14_can_9 ?_
    exact Ev.keep [true, false] (t_X14_can_24 C  hs)
  | ref n9 =>
    refine ev_ifnull_r C dX14_can_9 ?_
    refine ev_iload_n C rfl dX14_can_12 ?_
    refine ev_iconst C (v := 0) dX14_can_13 (by decide) ?_
    refine ev_aload_n C (x := .ref o) rfl trivial dX14_can_14 ?_
    obtain ⟨eo15, hs⟩ := kO_at hs
    obtain ⟨x15, h15, e15, hs⟩ := cI_at hs
    refine ev_callV C (T_X14_faults _ _ _ _ e15) (ci := 14) rfl eo15 wc_X14_faults wm_X14_620 wi_X14_faults ws_X14_faults wz_X14 hy_X14_faults ⟨(Nat.le_of_ble_eq_true rfl), (Nat.le_of_ble_eq_true rfl)⟩ ⟨(Nat.le_refl _), (Nat.le_refl _)⟩ (Nat.le_of_ble_eq_true rfl) rfl dX14_can_15 ?_
    obtain ⟨x18, h18, e18, hs⟩ := cI_at hs
    refine ev_callS C (T_X14_in _ _ _ _ _ _ e18) wc_X14_in wm_X14_313 wt_X14_in wz_X14 hy_X14_in ⟨(Nat.le_of_ble_eq_true rfl), (Nat.le_of_ble_eq_true rfl)⟩ ⟨(Nat.le_refl _), (Nat.le_refl _)⟩ (Nat.le_of_ble_eq_true rfl) rfl dX14_can_18 ?_
    refine ev_if_ne C (tgt := 30) (by decide) dX14_can_21 (fun q21 => ?_) (fun q21 => ?_)
    · replace hs := (if_neg q21).symm.trans hs
      refine ev_aload_n C (x := .ref o) rfl trivial dX14_can_30 ?_
      refine ev_aload_n C (x := .ref o) rfl trivial dX14_can_31 ?_
      refine ev_aload_n C (x := .ref o) rfl trivial dX14_can_32 ?_
      obtain ⟨x33, e33, hs⟩ := aB hs
      refine ev_get C (ci := 14) (k := 59) rfl wu_14 (by decide) wf_X14_471 (gI_F e33) dX14_can_33 ?_
      refine ev_aload_n C (x := .ref o) rfl trivial dX14_can_36 ?_
      obtain ⟨x37, e37, hs⟩ := aB hs
      refine ev_get C (ci := 14) (k := 59) rfl wu_14 (by decide) wf_X14_471 (gI_F e37) dX14_can_37 ?_
      refine ev_iload_n C rfl dX14_can_40 ?_
      obtain ⟨eo41, hs⟩ := kO_at hs
      obtain ⟨x41, h41, e41, hs⟩ := cI_at hs
      refine ev_callV C (T_X14_gathers _ _ _ _ _ _ _ e41) (ci := 14) rfl eo41 wc_X14_gathers wm_X14_623 wi_X14_gathers ws_X14_gathers wz_X14 hy_X14_gathers ⟨(Nat.le_of_ble_eq_true rfl), (Nat.le_of_ble_eq_true rfl)⟩ ⟨(Nat.le_refl _), (Nat.le_refl _)⟩ (Nat.le_of_ble_eq_true rfl) rfl dX14_can_41 ?_
      obtain ⟨eo44, hs⟩ := kO_at hs
      obtain ⟨x44, h44, e44, hs⟩ := cI_at hs
      refine ev_callV C (T_X14_done _ _ _ _ _ e44) (ci := 14) rfl eo44 wc_X14_done wm_X14_413 wi_X14_done ws_X14_done wz_X14 hy_X14_done ⟨(Nat.le_of_ble_eq_true rfl), (Nat.le_of_ble_eq_true rfl)⟩ ⟨(Nat.le_refl _), (Nat.le_refl _)⟩ (Nat.le_of_ble_eq_true rfl) rfl dX14_can_44 ?_
      cases hs
      exact ev_iret C rfl rfl (Nat.le_refl _) (Nat.le_refl _) rfl dX14_can_47
    · replace hs := (if_pos q21).symm.trans hs
      exact Ev.keep [true, false] (t_X14_can_24 C  hs)
  | _ => cases hs
end
-- X14_canBe
theorem dX14_canBe_0 : decode cX14_canBe 0 = .ok (.aload_n 0, 1) := by decide +kernel
theorem dX14_canBe_1 : decode cX14_canBe 1 = .ok (.iconst 0, 1) := by decide +kernel
theorem dX14_canBe_2 : decode cX14_canBe 2 = .ok (.putfield 154, 3) := by decide +kernel
theorem dX14_canBe_5 : decode cX14_canBe 5 = .ok (.aload_n 0, 1) := by decide +kernel
theorem dX14_canBe_6 : decode cX14_canBe 6 = .ok (.iload_n 1, 1) := by decide +kernel
theorem dX14_canBe_7 : decode cX14_canBe 7 = .ok (.invokevirtual 474, 3) := by decide +kernel
theorem dX14_canBe_10 : decode cX14_canBe 10 = .ok (.ifCond .ne 5, 3) := by decide +kernel
theorem dX14_canBe_13 : decode cX14_canBe 13 = .ok (.iconst (-1), 1) := by decide +kernel
theorem dX14_canBe_14 : decode cX14_canBe 14 = .ok (.ireturn, 1) := by decide +kernel
theorem dX14_canBe_15 : decode cX14_canBe 15 = .ok (.aload_n 0, 1) := by decide +kernel
theorem dX14_canBe_16 : decode cX14_canBe 16 = .ok (.aload_n 0, 1) := by decide +kernel
theorem dX14_canBe_17 : decode cX14_canBe 17 = .ok (.getfield 471, 3) := by decide +kernel
theorem dX14_canBe_20 : decode cX14_canBe 20 = .ok (.aload_n 0, 1) := by decide +kernel
theorem dX14_canBe_21 : decode cX14_canBe 21 = .ok (.getfield 471, 3) := by decide +kernel
theorem dX14_canBe_24 : decode cX14_canBe 24 = .ok (.iconst 0, 1) := by decide +kernel
theorem dX14_canBe_25 : decode cX14_canBe 25 = .ok (.invokevirtual 623, 3) := by decide +kernel
theorem dX14_canBe_28 : decode cX14_canBe 28 = .ok (.istore_n 2, 1) := by decide +kernel
theorem dX14_canBe_29 : decode cX14_canBe 29 = .ok (.aload_n 0, 1) := by decide +kernel
theorem dX14_canBe_30 : decode cX14_canBe 30 = .ok (.getfield 145, 3) := by decide +kernel
theorem dX14_canBe_33 : decode cX14_canBe 33 = .ok (.iload_n 1, 1) := by decide +kernel
theorem dX14_canBe_34 : decode cX14_canBe 34 = .ok (.baload, 1) := by decide +kernel
theorem dX14_canBe_35 : decode cX14_canBe 35 = .ok (.ifCond .eq 7, 3) := by decide +kernel
theorem dX14_canBe_38 : decode cX14_canBe 38 = .ok (.iconst 1, 1) := by decide +kernel
theorem dX14_canBe_39 : decode cX14_canBe 39 = .ok (.goto 4, 3) := by decide +kernel
theorem dX14_canBe_42 : decode cX14_canBe 42 = .ok (.iconst 0, 1) := by decide +kernel
theorem dX14_canBe_43 : decode cX14_canBe 43 = .ok (.ireturn, 1) := by decide +kernel
def s_X14_canBe (o : Nat) (a1 : Int32) (h : aH) : aO :=
  (pF h (.ref o) 14 0 (.int 0)).bind fun h2 => kO h2 o 14 (cI (s_X14_isCell o a1 h2) fun x7 h7 => if x7 = 0 then (some (.inl (some (.int (-1))), h7)) else ((gI h7 (.ref o) 14 59).bind fun x17 => (gI h7 (.ref o) 14 59).bind fun x21 => kO h7 o 14 (cI (s_X14_gathers o x17 x21 0 h7) fun x25 h25 => (gO h25 (.ref o) 14 65).bind fun x30 => (ldI .boolean h25 (.ref x30) a1).bind fun x34 => if x34 = 0 then (some (.inl (some (.int 0)), h25)) else (some (.inl (some (.int 1)), h25)))))
section
variable {p : Program} {l : Launch} {e : Env} {s : State} {m : MethodId} {args : Array Value} {below : List Frame} {meth : Method} {c : Code} {D : va_G} {B0 : Nat} {X : Nat → Nat} {ws0 : va_W} {r : aR} {h' : aH} {mc ms : Nat}
theorem hy_X14_canBe : yX14_canBe.cls ≠ "java/lang/invoke/MethodHandle" ∧ yX14_canBe.cls ≠ "java/lang/invoke/VarHandle" ∧ (parseMethodDescriptor yX14_canBe.desc).map (fun d => d.parameters.length) = some 1 := by decide +kernel
theorem T_X14_canBe (o : Nat) (a1 : Int32) (h : aH) (r : aR) (h' : aH) (hs : s_X14_canBe o a1 h = some (r, h')) : Mt yX14_canBe (Cond.code yX14_canBe cX14_canBe 3 (some .int) :: aTB) 7 178 0 0 [.ref o, .int a1] h r h' := by
  unfold s_X14_canBe at hs
  refine Mt_of (k := 1) (by decide) rfl (fun p l e s m args below meth c D B0 X ws0 C => ?_)
  show Ev p l e { frames := 7, cells := 0, slots := 0, locals := 178 } s m args below meth c D B0 X ws0 r h' 0 0 3 0 0 0 [some (.ref o), some (.int a1), none] [] h
  refine ev_aload_n C (x := .ref o) rfl trivial dX14_canBe_0 ?_
  refine ev_iconst C (v := 0) dX14_canBe_1 (by decide) ?_
  obtain ⟨h2, e2, hs⟩ := aB hs
  refine ev_put C (ci := 14) (k := 0) rfl wu_14 (by decide) tyX14 tyX14_ok nmX14 wf_X14_154 rfl trivial e2 dX14_canBe_2 ?_
  refine ev_aload_n C (x := .ref o) rfl trivial dX14_canBe_5 ?_
  refine ev_iload_n C rfl dX14_canBe_6 ?_
  obtain ⟨eo7, hs⟩ := kO_at hs
  obtain ⟨x7, h7, e7, hs⟩ := cI_at hs
  refine ev_callV C (T_X14_isCell _ _ _ _ _ e7) (ci := 14) rfl eo7 wc_X14_isCell wm_X14_474 wi_X14_isCell ws_X14_isCell wz_X14 hy_X14_isCell ⟨(Nat.le_of_ble_eq_true rfl), (Nat.le_of_ble_eq_true rfl)⟩ ⟨(Nat.le_refl _), (Nat.le_refl _)⟩ (Nat.le_of_ble_eq_true rfl) rfl dX14_canBe_7 ?_
  refine ev_if_ne C (tgt := 15) (by decide) dX14_canBe_10 (fun q10 => ?_) (fun q10 => ?_)
  · replace hs := (if_neg q10).symm.trans hs
    refine ev_aload_n C (x := .ref o) rfl trivial dX14_canBe_15 ?_
    refine ev_aload_n C (x := .ref o) rfl trivial dX14_canBe_16 ?_
    obtain ⟨x17, e17, hs⟩ := aB hs
    refine ev_get C (ci := 14) (k := 59) rfl wu_14 (by decide) wf_X14_471 (gI_F e17) dX14_canBe_17 ?_
    refine ev_aload_n C (x := .ref o) rfl trivial dX14_canBe_20 ?_
    obtain ⟨x21, e21, hs⟩ := aB hs
    refine ev_get C (ci := 14) (k := 59) rfl wu_14 (by decide) wf_X14_471 (gI_F e21) dX14_canBe_21 ?_
    refine ev_iconst C (v := 0) dX14_canBe_24 (by decide) ?_
    obtain ⟨eo25, hs⟩ := kO_at hs
    obtain ⟨x25, h25, e25, hs⟩ := cI_at hs
    refine ev_callV C (T_X14_gathers _ _ _ _ _ _ _ e25) (ci := 14) rfl eo25 wc_X14_gathers wm_X14_623 wi_X14_gathers ws_X14_gathers wz_X14 hy_X14_gathers ⟨(Nat.le_of_ble_eq_true rfl), (Nat.le_of_ble_eq_true rfl)⟩ ⟨(Nat.le_refl _), (Nat.le_refl _)⟩ (Nat.le_of_ble_eq_true rfl) rfl dX14_canBe_25 ?_
    refine ev_istore_n C (by decide) dX14_canBe_28 ?_
    refine ev_aload_n C (x := .ref o) rfl trivial dX14_canBe_29 ?_
    obtain ⟨x30, e30, hs⟩ := aB hs
    refine ev_get C (ci := 14) (k := 65) rfl wu_14 (by decide) wf_X14_145 (gO_F e30) dX14_canBe_30 ?_
    refine ev_iload_n C rfl dX14_canBe_33 ?_
    obtain ⟨x34, e34, hs⟩ := aB hs
    refine ev_zald C e34 dX14_canBe_34 ?_
    refine ev_if_eq C (tgt := 42) (by decide) dX14_canBe_35 (fun q35 => ?_) (fun q35 => ?_)
    · replace hs := (if_pos q35).symm.trans hs
      refine ev_iconst C (v := 0) dX14_canBe_42 (by decide) ?_
      cases hs
      exact ev_iret C rfl rfl (Nat.le_refl _) (Nat.le_refl _) rfl dX14_canBe_43
    · replace hs := (if_neg q35).symm.trans hs
      refine ev_iconst C (v := 1) dX14_canBe_38 (by decide) ?_
      refine ev_goto C (tgt := 43) (by decide) dX14_canBe_39 ?_
      cases hs
      exact ev_iret C rfl rfl (Nat.le_refl _) (Nat.le_refl _) rfl dX14_canBe_43
  · replace hs := (if_pos q10).symm.trans hs
    refine ev_iconst C (v := (-1)) dX14_canBe_13 (by decide) ?_
    cases hs
    exact ev_iret C rfl rfl (Nat.le_refl _) (Nat.le_refl _) rfl dX14_canBe_14
end
-- X14_guess
theorem dX14_guess_0 : decode cX14_guess 0 = .ok (.aload_n 0, 1) := by decide +kernel
theorem dX14_guess_1 : decode cX14_guess 1 = .ok (.iconst 0, 1) := by decide +kernel
theorem dX14_guess_2 : decode cX14_guess 2 = .ok (.putfield 154, 3) := by decide +kernel
theorem dX14_guess_5 : decode cX14_guess 5 = .ok (.aload_n 0, 1) := by decide +kernel
theorem dX14_guess_6 : decode cX14_guess 6 = .ok (.getfield 376, 3) := by decide +kernel
theorem dX14_guess_9 : decode cX14_guess 9 = .ok (.ifnull 38, 3) := by decide +kernel
theorem dX14_guess_12 : decode cX14_guess 12 = .ok (.iload_n 1, 1) := by decide +kernel
theorem dX14_guess_13 : decode cX14_guess 13 = .ok (.iconst 0, 1) := by decide +kernel
theorem dX14_guess_14 : decode cX14_guess 14 = .ok (.aload_n 0, 1) := by decide +kernel
theorem dX14_guess_15 : decode cX14_guess 15 = .ok (.getfield 376, 3) := by decide +kernel
theorem dX14_guess_18 : decode cX14_guess 18 = .ok (.getfield 252, 3) := by decide +kernel
theorem dX14_guess_21 : decode cX14_guess 21 = .ok (.iconst 0, 1) := by decide +kernel
theorem dX14_guess_22 : decode cX14_guess 22 = .ok (.iaload, 1) := by decide +kernel
theorem dX14_guess_23 : decode cX14_guess 23 = .ok (.iconst 1, 1) := by decide +kernel
theorem dX14_guess_24 : decode cX14_guess 24 = .ok (.isub, 1) := by decide +kernel
theorem dX14_guess_25 : decode cX14_guess 25 = .ok (.invokestatic 313, 3) := by decide +kernel
theorem dX14_guess_28 : decode cX14_guess 28 = .ok (.ifCond .eq 19, 3) := by decide +kernel
theorem dX14_guess_31 : decode cX14_guess 31 = .ok (.aload_n 0, 1) := by decide +kernel
theorem dX14_guess_32 : decode cX14_guess 32 = .ok (.aload_n 0, 1) := by decide +kernel
theorem dX14_guess_33 : decode cX14_guess 33 = .ok (.getfield 471, 3) := by decide +kernel
theorem dX14_guess_36 : decode cX14_guess 36 = .ok (.aload_n 0, 1) := by decide +kernel
theorem dX14_guess_37 : decode cX14_guess 37 = .ok (.getfield 471, 3) := by decide +kernel
theorem dX14_guess_40 : decode cX14_guess 40 = .ok (.iconst 0, 1) := by decide +kernel
theorem dX14_guess_41 : decode cX14_guess 41 = .ok (.invokevirtual 623, 3) := by decide +kernel
theorem dX14_guess_44 : decode cX14_guess 44 = .ok (.ifCond .ne 6, 3) := by decide +kernel
theorem dX14_guess_47 : decode cX14_guess 47 = .ok (.ldc 162, 2) := by decide +kernel
theorem dX14_guess_49 : decode cX14_guess 49 = .ok (.ireturn, 1) := by decide +kernel
theorem dX14_guess_50 : decode cX14_guess 50 = .ok (.iload_n 2, 1) := by decide +kernel
theorem dX14_guess_51 : decode cX14_guess 51 = .ok (.ifCond .eq 15, 3) := by decide +kernel
theorem dX14_guess_54 : decode cX14_guess 54 = .ok (.aload_n 0, 1) := by decide +kernel
theorem dX14_guess_55 : decode cX14_guess 55 = .ok (.getfield 376, 3) := by decide +kernel
theorem dX14_guess_58 : decode cX14_guess 58 = .ok (.getfield 307, 3) := by decide +kernel
theorem dX14_guess_61 : decode cX14_guess 61 = .ok (.iload_n 1, 1) := by decide +kernel
theorem dX14_guess_62 : decode cX14_guess 62 = .ok (.iaload, 1) := by decide +kernel
theorem dX14_guess_63 : decode cX14_guess 63 = .ok (.goto 12, 3) := by decide +kernel
theorem dX14_guess_66 : decode cX14_guess 66 = .ok (.aload_n 0, 1) := by decide +kernel
theorem dX14_guess_67 : decode cX14_guess 67 = .ok (.getfield 376, 3) := by decide +kernel
theorem dX14_guess_70 : decode cX14_guess 70 = .ok (.getfield 317, 3) := by decide +kernel
theorem dX14_guess_73 : decode cX14_guess 73 = .ok (.iload_n 1, 1) := by decide +kernel
theorem dX14_guess_74 : decode cX14_guess 74 = .ok (.iaload, 1) := by decide +kernel
theorem dX14_guess_75 : decode cX14_guess 75 = .ok (.istore_n 3, 1) := by decide +kernel
theorem dX14_guess_76 : decode cX14_guess 76 = .ok (.iconst 0, 1) := by decide +kernel
theorem dX14_guess_77 : decode cX14_guess 77 = .ok (.istore 4, 2) := by decide +kernel
theorem dX14_guess_79 : decode cX14_guess 79 = .ok (.iload 4, 2) := by decide +kernel
theorem dX14_guess_81 : decode cX14_guess 81 = .ok (.aload_n 0, 1) := by decide +kernel
theorem dX14_guess_82 : decode cX14_guess 82 = .ok (.getfield 379, 3) := by decide +kernel
theorem dX14_guess_85 : decode cX14_guess 85 = .ok (.if_icmp .ge 56, 3) := by decide +kernel
theorem dX14_guess_88 : decode cX14_guess 88 = .ok (.aload_n 0, 1) := by decide +kernel
theorem dX14_guess_89 : decode cX14_guess 89 = .ok (.getfield 145, 3) := by decide +kernel
theorem dX14_guess_92 : decode cX14_guess 92 = .ok (.iload 4, 2) := by decide +kernel
theorem dX14_guess_94 : decode cX14_guess 94 = .ok (.baload, 1) := by decide +kernel
theorem dX14_guess_95 : decode cX14_guess 95 = .ok (.ifCond .ne 6, 3) := by decide +kernel
theorem dX14_guess_98 : decode cX14_guess 98 = .ok (.goto 37, 3) := by decide +kernel
theorem dX14_guess_101 : decode cX14_guess 101 = .ok (.aload_n 0, 1) := by decide +kernel
theorem dX14_guess_102 : decode cX14_guess 102 = .ok (.iload 4, 2) := by decide +kernel
theorem dX14_guess_104 : decode cX14_guess 104 = .ok (.invokevirtual 416, 3) := by decide +kernel
theorem dX14_guess_107 : decode cX14_guess 107 = .ok (.iload_n 2, 1) := by decide +kernel
theorem dX14_guess_108 : decode cX14_guess 108 = .ok (.ifCond .eq 16, 3) := by decide +kernel
theorem dX14_guess_111 : decode cX14_guess 111 = .ok (.iload_n 3, 1) := by decide +kernel
theorem dX14_guess_112 : decode cX14_guess 112 = .ok (.aload_n 0, 1) := by decide +kernel
theorem dX14_guess_113 : decode cX14_guess 113 = .ok (.getfield 44, 3) := by decide +kernel
theorem dX14_guess_116 : decode cX14_guess 116 = .ok (.iload_n 1, 1) := by decide +kernel
theorem dX14_guess_117 : decode cX14_guess 117 = .ok (.iaload, 1) := by decide +kernel
theorem dX14_guess_118 : decode cX14_guess 118 = .ok (.invokestatic 513, 3) := by decide +kernel
theorem dX14_guess_121 : decode cX14_guess 121 = .ok (.goto 13, 3) := by decide +kernel
theorem dX14_guess_124 : decode cX14_guess 124 = .ok (.iload_n 3, 1) := by decide +kernel
theorem dX14_guess_125 : decode cX14_guess 125 = .ok (.aload_n 0, 1) := by decide +kernel
theorem dX14_guess_126 : decode cX14_guess 126 = .ok (.getfield 44, 3) := by decide +kernel
theorem dX14_guess_129 : decode cX14_guess 129 = .ok (.iload_n 1, 1) := by decide +kernel
theorem dX14_guess_130 : decode cX14_guess 130 = .ok (.iaload, 1) := by decide +kernel
theorem dX14_guess_131 : decode cX14_guess 131 = .ok (.invokestatic 511, 3) := by decide +kernel
theorem dX14_guess_134 : decode cX14_guess 134 = .ok (.istore_n 3, 1) := by decide +kernel
theorem dX14_guess_135 : decode cX14_guess 135 = .ok (.iinc 4 1, 3) := by decide +kernel
theorem dX14_guess_138 : decode cX14_guess 138 = .ok (.goto (-59), 3) := by decide +kernel
theorem dX14_guess_141 : decode cX14_guess 141 = .ok (.iload_n 3, 1) := by decide +kernel
theorem dX14_guess_142 : decode cX14_guess 142 = .ok (.ireturn, 1) := by decide +kernel
def s_X14_guess_47   (h : aH) : aO :=
  some (.inl (some (.int (-2147483648))), h)
def s_X14_guess_134 (k79 : Nat → Int32 → Int32 → Int32 → Int32 → aH → aO) (l0 : Nat) (l1 : Int32) (l2 : Int32) (l4 : Int32) (s0 : Int32) (h : aH) : aO :=
  k79 l0 l1 l2 s0 (l4 + 1) h
def s_X14_guess_79_b  (k79 : Nat → Int32 → Int32 → Int32 → Int32 → aH → aO) (l0 : Nat) (l1 : Int32) (l2 : Int32) (l3 : Int32) (l4 : Int32) (h : aH) : aO :=
  (gI h (.ref l0) 14 20).bind fun x82 => if x82 ≤ l4 then (some (.inl (some (.int l3)), h)) else ((gO h (.ref l0) 14 65).bind fun x89 => (ldI .boolean h (.ref x89) l4).bind fun x94 => if x94 = 0 then (k79 l0 l1 l2 l3 (l4 + 1) h) else (kO h l0 14 (cN (s_X14_lays l0 l4 h) fun h104 => if l2 = 0 then ((gO h104 (.ref l0) 14 29).bind fun x126 => (ldI .int h104 (.ref x126) l1).bind fun x130 => s_X14_guess_134 k79 l0 l1 l2 l4 (jmin l3 x130) h104) else ((gO h104 (.ref l0) 14 29).bind fun x113 => (ldI .int h104 (.ref x113) l1).bind fun x117 => s_X14_guess_134 k79 l0 l1 l2 l4 (jmax l3 x117) h104))))
def s_X14_guess_79  (n : Nat) : Nat → Int32 → Int32 → Int32 → Int32 → aH → aO := lpF (fun _ _ _ _ _ _ => none) (s_X14_guess_79_b ) n
def s_X14_guess_75  (l0 : Nat) (l1 : Int32) (l2 : Int32) (s0 : Int32) (h : aH) : aO :=
  s_X14_guess_79 FU l0 l1 l2 s0 0 h
def s_X14_guess (o : Nat) (a1 : Int32) (a2 : Int32) (h : aH) : aO :=
  (pF h (.ref o) 14 0 (.int 0)).bind fun h2 => (gW h2 (.ref o) 14 4).bind fun x6 => match x6 with | .null => (s_X14_guess_47 h2) | .ref n9 => ((gO h2 (.ref o) 14 4).bind fun x15 => (gO h2 (.ref x15) 13 0).bind fun x18 => (ldI .int h2 (.ref x18) 0).bind fun x22 => cI (s_X14_in a1 0 (x22 - 1) h2) fun x25 h25 => if x25 = 0 then (s_X14_guess_47 h25) else ((gI h25 (.ref o) 14 59).bind fun x33 => (gI h25 (.ref o) 14 59).bind fun x37 => kO h25 o 14 (cI (s_X14_gathers o x33 x37 0 h25) fun x41 h41 => if x41 = 0 then (s_X14_guess_47 h41) else (if a2 = 0 then ((gO h41 (.ref o) 14 4).bind fun x67 => (gO h41 (.ref x67) 13 2).bind fun x70 => (ldI .int h41 (.ref x70) a1).bind fun x74 => s_X14_guess_75 o a1 a2 x74 h41) else ((gO h41 (.ref o) 14 4).bind fun x55 => (gO h41 (.ref x55) 13 1).bind fun x58 => (ldI .int h41 (.ref x58) a1).bind fun x62 => s_X14_guess_75 o a1 a2 x62 h41))))) | _ => none
section
variable {p : Program} {l : Launch} {e : Env} {s : State} {m : MethodId} {args : Array Value} {below : List Frame} {meth : Method} {c : Code} {D : va_G} {B0 : Nat} {X : Nat → Nat} {ws0 : va_W} {r : aR} {h' : aH} {mc ms : Nat}
theorem t_X14_guess_47 (C : Cx p l s m args meth c B0 X RX14 "guess" cX14_guess 5 (some .int) [])    {h : aH} (hs : s_X14_guess_47   h = some (r, h')) : Ev p l e { frames := 7, cells := mc, slots := ms, locals := 178 } s m args below meth c D B0 X ws0 r h' mc ms 5 mc ms 47 [none, none, none, none, none] [] h := by
  unfold s_X14_guess_47 at hs
  refine ev_ldc C wv_X14_162 dX14_guess_47 ?_
  cases hs
  exact ev_iret C rfl rfl (Nat.le_refl _) (Nat.le_refl _) rfl dX14_guess_49
theorem t_X14_guess_134 (C : Cx p l s m args meth c B0 X RX14 "guess" cX14_guess 5 (some .int) []) {k79 : Nat → Int32 → Int32 → Int32 → Int32 → aH → aO} (K79 : ∀ (l0 : Nat) (l1 : Int32) (l2 : Int32) (l3 : Int32) (l4 : Int32) (h : aH), k79 l0 l1 l2 l3 l4 h = some (r, h') → Ev p l e { frames := 7, cells := mc, slots := ms, locals := 178 } s m args below meth c D B0 X ws0 r h' mc ms 5 mc ms 79 [some (.ref l0), some (.int l1), some (.int l2), some (.int l3), some (.int l4)] [] h) {l0 : Nat} {l1 : Int32} {l2 : Int32} {l4 : Int32} {s0 : Int32} {h : aH} (hs : s_X14_guess_134 k79 l0 l1 l2 l4 s0 h = some (r, h')) : Ev p l e { frames := 7, cells := mc, slots := ms, locals := 178 } s m args below meth c D B0 X ws0 r h' mc ms 5 mc ms 134 [some (.ref l0), some (.int l1), some (.int l2), none, some (.int l4)] [.int s0] h := by
  unfold s_X14_guess_134 at hs
  refine ev_istore_n C (by decide) dX14_guess_134 ?_
  refine ev_iinc C (i := 4) (n := 1) (x := l4) (v := l4 + 1) rfl (congrArg (fun z => l4 + z) (show Int32.ofInt 1 = 1 by decide)) (by decide) dX14_guess_135 ?_
  refine ev_goto C (tgt := 79) (by decide) dX14_guess_138 ?_
  exact (K79 _ _ _ _ _ _ hs)
theorem t_X14_guess_79_b (C : Cx p l s m args meth c B0 X RX14 "guess" cX14_guess 5 (some .int) [])   {k79 : Nat → Int32 → Int32 → Int32 → Int32 → aH → aO} (K79 : ∀ (l0 : Nat) (l1 : Int32) (l2 : Int32) (l3 : Int32) (l4 : Int32) (h : aH), k79 l0 l1 l2 l3 l4 h = some (r, h') → Ev p l e { frames := 7, cells := mc, slots := ms, locals := 178 } s m args below meth c D B0 X ws0 r h' mc ms 5 mc ms 79 [some (.ref l0), some (.int l1), some (.int l2), some (.int l3), some (.int l4)] [] h) {l0 : Nat} {l1 : Int32} {l2 : Int32} {l3 : Int32} {l4 : Int32} {h : aH} (hs : s_X14_guess_79_b  k79 l0 l1 l2 l3 l4 h = some (r, h')) : Ev p l e { frames := 7, cells := mc, slots := ms, locals := 178 } s m args below meth c D B0 X ws0 r h' mc ms 5 mc ms 79 [some (.ref l0), some (.int l1), some (.int l2), some (.int l3), some (.int l4)] [] h := by
  unfold s_X14_guess_79_b at hs
  refine ev_iload C rfl dX14_guess_79 ?_
  refine ev_aload_n C (x := .ref l0) rfl trivial dX14_guess_81 ?_
  obtain ⟨x82, e82, hs⟩ := aB hs
  refine ev_get C (ci := 14) (k := 20) rfl wu_14 (by decide) wf_X14_379 (gI_F e82) dX14_guess_82 ?_
  refine ev_icmp_ge C (tgt := 141) (by decide) dX14_guess_85 (fun q85 => ?_) (fun q85 => ?_)
  · replace hs := (if_pos q85).symm.trans hs
    refine ev_iload_n C rfl dX14_guess_141 ?_
    cases hs
    exact ev_iret C rfl rfl (Nat.le_refl _) (Nat.le_refl _) rfl dX14_guess_142
  · replace hs := (if_neg q85).symm.trans hs
    refine ev_aload_n C (x := .ref l0) rfl trivial dX14_guess_88 ?_
    obtain ⟨x89, e89, hs⟩ := aB hs
    refine ev_get C (ci := 14) (k := 65) rfl wu_14 (by decide) wf_X14_145 (gO_F e89) dX14_guess_89 ?_
    refine ev_iload C rfl dX14_guess_92 ?_
    obtain ⟨x94, e94, hs⟩ := aB hs
    refine ev_zald C e94 dX14_guess_94 ?_
    refine ev_if_ne C (tgt := 101) (by decide) dX14_guess_95 (fun q95 => ?_) (fun q95 => ?_)
    · replace hs := (if_neg q95).symm.trans hs
      refine ev_aload_n C (x := .ref l0) rfl trivial dX14_guess_101 ?_
      refine ev_iload C rfl dX14_guess_102 ?_
      obtain ⟨eo104, hs⟩ := kO_at hs
      obtain ⟨h104, e104, hs⟩ := cN_at hs
      refine ev_callV C (T_X14_lays _ _ _ _ _ e104) (ci := 14) rfl eo104 wc_X14_lays wm_X14_416 wi_X14_lays ws_X14_lays wz_X14 hy_X14_lays ⟨(Nat.le_of_ble_eq_true rfl), (Nat.le_of_ble_eq_true rfl)⟩ ⟨(Nat.le_refl _), (Nat.le_refl _)⟩ (Nat.le_of_ble_eq_true rfl) rfl dX14_guess_104 ?_
      refine ev_iload_n C rfl dX14_guess_107 ?_
      refine ev_if_eq C (tgt := 124) (by decide) dX14_guess_108 (fun q108 => ?_) (fun q108 => ?_)
      · replace hs := (if_pos q108).symm.trans hs
        refine ev_iload_n C rfl dX14_guess_124 ?_
        refine ev_aload_n C (x := .ref l0) rfl trivial dX14_guess_125 ?_
        obtain ⟨x126, e126, hs⟩ := aB hs
        refine ev_get C (ci := 14) (k := 29) rfl wu_14 (by decide) wf_X14_44 (gO_F e126) dX14_guess_126 ?_
        refine ev_iload_n C rfl dX14_guess_129 ?_
        obtain ⟨x130, e130, hs⟩ := aB hs
        refine ev_iald C e130 dX14_guess_130 ?_
        refine ev_mmin C wm_X14_511 wt_mmin wz_J9 wc_mmin (Nat.le_of_ble_eq_true rfl) (Nat.le_of_ble_eq_true rfl) (Nat.le_refl _) (Nat.le_refl _) dX14_guess_131 ?_
        exact Ev.keep [true, true, true, false, true] (t_X14_guess_134 C K79 hs)
      · replace hs := (if_neg q108).symm.trans hs
        refine ev_iload_n C rfl dX14_guess_111 ?_
        refine ev_aload_n C (x := .ref l0) rfl trivial dX14_guess_112 ?_
        obtain ⟨x113, e113, hs⟩ := aB hs
        refine ev_get C (ci := 14) (k := 29) rfl wu_14 (by decide) wf_X14_44 (gO_F e113) dX14_guess_113 ?_
        refine ev_iload_n C rfl dX14_guess_116 ?_
        obtain ⟨x117, e117, hs⟩ := aB hs
        refine ev_iald C e117 dX14_guess_117 ?_
        refine ev_mmax C wm_X14_513 wt_mmax wz_J9 wc_mmax (Nat.le_of_ble_eq_true rfl) (Nat.le_of_ble_eq_true rfl) (Nat.le_refl _) (Nat.le_refl _) dX14_guess_118 ?_
        refine ev_goto C (tgt := 134) (by decide) dX14_guess_121 ?_
        exact Ev.keep [true, true, true, false, true] (t_X14_guess_134 C K79 hs)
    · replace hs := (if_pos q95).symm.trans hs
      refine ev_goto C (tgt := 135) (by decide) dX14_guess_98 ?_
      refine ev_iinc C (i := 4) (n := 1) (x := l4) (v := l4 + 1) rfl (congrArg (fun z => l4 + z) (show Int32.ofInt 1 = 1 by decide)) (by decide) dX14_guess_135 ?_
      refine ev_goto C (tgt := 79) (by decide) dX14_guess_138 ?_
      exact (K79 _ _ _ _ _ _ hs)
theorem t_X14_guess_79 (C : Cx p l s m args meth c B0 X RX14 "guess" cX14_guess 5 (some .int) [])   : ∀ (n : Nat) {l0 : Nat} {l1 : Int32} {l2 : Int32} {l3 : Int32} {l4 : Int32} {h : aH} (hs : s_X14_guess_79  n l0 l1 l2 l3 l4 h = some (r, h')), Ev p l e { frames := 7, cells := mc, slots := ms, locals := 178 } s m args below meth c D B0 X ws0 r h' mc ms 5 mc ms 79 [some (.ref l0), some (.int l1), some (.int l2), some (.int l3), some (.int l4)] [] h
  | 0, _, _, _, _, _, _, hs => nomatch hs
  | n + 1, _, _, _, _, _, _, hs => t_X14_guess_79_b C  (k79 := s_X14_guess_79  n) (fun _ _ _ _ _ _ hs => t_X14_guess_79 C  n hs) hs
theorem t_X14_guess_75 (C : Cx p l s m args meth c B0 X RX14 "guess" cX14_guess 5 (some .int) [])   {l0 : Nat} {l1 : Int32} {l2 : Int32} {s0 : Int32} {h : aH} (hs : s_X14_guess_75  l0 l1 l2 s0 h = some (r, h')) : Ev p l e { frames := 7, cells := mc, slots := ms, locals := 178 } s m args below meth c D B0 X ws0 r h' mc ms 5 mc ms 75 [some (.ref l0), some (.int l1), some (.int l2), none, none] [.int s0] h := by
  unfold s_X14_guess_75 at hs
  refine ev_istore_n C (by decide) dX14_guess_75 ?_
  refine ev_iconst C (v := 0) dX14_guess_76 (by decide) ?_
  refine ev_istore C (by decide) dX14_guess_77 ?_
  exact (t_X14_guess_79 C  FU hs)
theorem hy_X14_guess : yX14_guess.cls ≠ "java/lang/invoke/MethodHandle" ∧ yX14_guess.cls ≠ "java/lang/invoke/VarHandle" ∧ (parseMethodDescriptor yX14_guess.desc).map (fun d => d.parameters.length) = some 2 := by decide +kernel
theorem T_X14_guess (o : Nat) (a1 : Int32) (a2 : Int32) (h : aH) (r : aR) (h' : aH) (hs : s_X14_guess o a1 a2 h = some (r, h')) : Mt yX14_guess (Cond.code yX14_guess cX14_guess 5 (some .int) :: aTB) 7 178 0 0 [.ref o, .int a1, .int a2] h r h' := by
  unfold s_X14_guess at hs
  refine Mt_of (k := 2) (by decide) rfl (fun p l e s m args below meth c D B0 X ws0 C => ?_)
  show Ev p l e { frames := 7, cells := 0, slots := 0, locals := 178 } s m args below meth c D B0 X ws0 r h' 0 0 5 0 0 0 [some (.ref o), some (.int a1), some (.int a2), none, none] [] h
  refine ev_aload_n C (x := .ref o) rfl trivial dX14_guess_0 ?_
  refine ev_iconst C (v := 0) dX14_guess_1 (by decide) ?_
  obtain ⟨h2, e2, hs⟩ := aB hs
  refine ev_put C (ci := 14) (k := 0) rfl wu_14 (by decide) tyX14 tyX14_ok nmX14 wf_X14_154 rfl trivial e2 dX14_guess_2 ?_
  refine ev_aload_n C (x := .ref o) rfl trivial dX14_guess_5 ?_
  obtain ⟨x6, e6, hs⟩ := aB hs
  refine ev_get C (ci := 14) (k := 4) rfl wu_14 (by decide) wf_X14_376 (gW_F e6).1 dX14_guess_6 ?_
  cases x6 with
  | null =>
    refine ev_ifnull_n C (tgt := 47) (by decide) dX14_guess_9 ?_
    exact Ev.keep [false, false, false, true, true] (t_X14_guess_47 C  hs)
  | ref n9 =>
    refine ev_ifnull_r C dX14_guess_9 ?_
    refine ev_iload_n C rfl dX14_guess_12 ?_
    refine ev_iconst C (v := 0) dX14_guess_13 (by decide) ?_
    refine ev_aload_n C (x := .ref o) rfl trivial dX14_guess_14 ?_
    obtain ⟨x15, e15, hs⟩ := aB hs
    refine ev_get C (ci := 14) (k := 4) rfl wu_14 (by decide) wf_X14_376 (gO_F e15) dX14_guess_15 ?_
    obtain ⟨x18, e18, hs⟩ := aB hs
    refine ev_getN C (ci := 13) (k := 0) rfl wu_13 (by decide) wg_X14_252 (gO_F e18) dX14_guess_18 ?_
    refine ev_iconst C (v := 0) dX14_guess_21 (by decide) ?_
    obtain ⟨x22, e22, hs⟩ := aB hs
    refine ev_iald C e22 dX14_guess_22 ?_
    refine ev_iconst C (v := 1) dX14_guess_23 (by decide) ?_
    refine ev_isub C dX14_guess_24 ?_
    obtain ⟨x25, h25, e25, hs⟩ := cI_at hs
    refine ev_callS C (T_X14_in _ _ _ _ _ _ e25) wc_X14_in wm_X14_313 wt_X14_in wz_X14 hy_X14_in ⟨(Nat.le_of_ble_eq_true rfl), (Nat.le_of_ble_eq_true rfl)⟩ ⟨(Nat.le_refl _), (Nat.le_refl _)⟩ (Nat.le_of_ble_eq_true rfl) rfl dX14_guess_25 ?_
    refine ev_if_eq C (tgt := 47) (by decide) dX14_guess_28 (fun q28 => ?_) (fun q28 => ?_)
    · replace hs := (if_pos q28).symm.trans hs
      exact Ev.keep [false, false, false, true, true] (t_X14_guess_47 C  hs)
    · replace hs := (if_neg q28).symm.trans hs
      refine ev_aload_n C (x := .ref o) rfl trivial dX14_guess_31 ?_
      refine ev_aload_n C (x := .ref o) rfl trivial dX14_guess_32 ?_
      obtain ⟨x33, e33, hs⟩ := aB hs
      refine ev_get C (ci := 14) (k := 59) rfl wu_14 (by decide) wf_X14_471 (gI_F e33) dX14_guess_33 ?_
      refine ev_aload_n C (x := .ref o) rfl trivial dX14_guess_36 ?_
      obtain ⟨x37, e37, hs⟩ := aB hs
      refine ev_get C (ci := 14) (k := 59) rfl wu_14 (by decide) wf_X14_471 (gI_F e37) dX14_guess_37 ?_
      refine ev_iconst C (v := 0) dX14_guess_40 (by decide) ?_
      obtain ⟨eo41, hs⟩ := kO_at hs
      obtain ⟨x41, h41, e41, hs⟩ := cI_at hs
      refine ev_callV C (T_X14_gathers _ _ _ _ _ _ _ e41) (ci := 14) rfl eo41 wc_X14_gathers wm_X14_623 wi_X14_gathers ws_X14_gathers wz_X14 hy_X14_gathers ⟨(Nat.le_of_ble_eq_true rfl), (Nat.le_of_ble_eq_true rfl)⟩ ⟨(Nat.le_refl _), (Nat.le_refl _)⟩ (Nat.le_of_ble_eq_true rfl) rfl dX14_guess_41 ?_
      refine ev_if_ne C (tgt := 50) (by decide) dX14_guess_44 (fun q44 => ?_) (fun q44 => ?_)
      · replace hs := (if_neg q44).symm.trans hs
        refine ev_iload_n C rfl dX14_guess_50 ?_
        refine ev_if_eq C (tgt := 66) (by decide) dX14_guess_51 (fun q51 => ?_) (fun q51 => ?_)
        · replace hs := (if_pos q51).symm.trans hs
          refine ev_aload_n C (x := .ref o) rfl trivial dX14_guess_66 ?_
          obtain ⟨x67, e67, hs⟩ := aB hs
          refine ev_get C (ci := 14) (k := 4) rfl wu_14 (by decide) wf_X14_376 (gO_F e67) dX14_guess_67 ?_
          obtain ⟨x70, e70, hs⟩ := aB hs
          refine ev_getN C (ci := 13) (k := 2) rfl wu_13 (by decide) wg_X14_317 (gO_F e70) dX14_guess_70 ?_
          refine ev_iload_n C rfl dX14_guess_73 ?_
          obtain ⟨x74, e74, hs⟩ := aB hs
          refine ev_iald C e74 dX14_guess_74 ?_
          exact (t_X14_guess_75 C  hs)
        · replace hs := (if_neg q51).symm.trans hs
          refine ev_aload_n C (x := .ref o) rfl trivial dX14_guess_54 ?_
          obtain ⟨x55, e55, hs⟩ := aB hs
          refine ev_get C (ci := 14) (k := 4) rfl wu_14 (by decide) wf_X14_376 (gO_F e55) dX14_guess_55 ?_
          obtain ⟨x58, e58, hs⟩ := aB hs
          refine ev_getN C (ci := 13) (k := 1) rfl wu_13 (by decide) wg_X14_307 (gO_F e58) dX14_guess_58 ?_
          refine ev_iload_n C rfl dX14_guess_61 ?_
          obtain ⟨x62, e62, hs⟩ := aB hs
          refine ev_iald C e62 dX14_guess_62 ?_
          refine ev_goto C (tgt := 75) (by decide) dX14_guess_63 ?_
          exact (t_X14_guess_75 C  hs)
      · replace hs := (if_pos q44).symm.trans hs
        exact Ev.keep [false, false, false, true, true] (t_X14_guess_47 C  hs)
  | _ => cases hs
end
-- X14_named
theorem dX14_named_0 : decode cX14_named 0 = .ok (.aload_n 0, 1) := by decide +kernel
theorem dX14_named_1 : decode cX14_named 1 = .ok (.iconst 0, 1) := by decide +kernel
theorem dX14_named_2 : decode cX14_named 2 = .ok (.putfield 154, 3) := by decide +kernel
theorem dX14_named_5 : decode cX14_named 5 = .ok (.aload_n 0, 1) := by decide +kernel
theorem dX14_named_6 : decode cX14_named 6 = .ok (.getfield 376, 3) := by decide +kernel
theorem dX14_named_9 : decode cX14_named 9 = .ok (.ifnonnull 9, 3) := by decide +kernel
theorem dX14_named_12 : decode cX14_named 12 = .ok (.aload_n 0, 1) := by decide +kernel
theorem dX14_named_13 : decode cX14_named 13 = .ok (.iconst 1, 1) := by decide +kernel
theorem dX14_named_14 : decode cX14_named 14 = .ok (.invokevirtual 360, 3) := by decide +kernel
theorem dX14_named_17 : decode cX14_named 17 = .ok (.ireturn, 1) := by decide +kernel
theorem dX14_named_18 : decode cX14_named 18 = .ok (.bipush (-3), 2) := by decide +kernel
theorem dX14_named_20 : decode cX14_named 20 = .ok (.istore_n 1, 1) := by decide +kernel
theorem dX14_named_21 : decode cX14_named 21 = .ok (.iconst 0, 1) := by decide +kernel
theorem dX14_named_22 : decode cX14_named 22 = .ok (.istore_n 2, 1) := by decide +kernel
theorem dX14_named_23 : decode cX14_named 23 = .ok (.iload_n 2, 1) := by decide +kernel
theorem dX14_named_24 : decode cX14_named 24 = .ok (.aload_n 0, 1) := by decide +kernel
theorem dX14_named_25 : decode cX14_named 25 = .ok (.invokevirtual 620, 3) := by decide +kernel
theorem dX14_named_28 : decode cX14_named 28 = .ok (.if_icmp .gt 38, 3) := by decide +kernel
theorem dX14_named_31 : decode cX14_named 31 = .ok (.aload_n 0, 1) := by decide +kernel
theorem dX14_named_32 : decode cX14_named 32 = .ok (.aload_n 0, 1) := by decide +kernel
theorem dX14_named_33 : decode cX14_named 33 = .ok (.getfield 471, 3) := by decide +kernel
theorem dX14_named_36 : decode cX14_named 36 = .ok (.aload_n 0, 1) := by decide +kernel
theorem dX14_named_37 : decode cX14_named 37 = .ok (.getfield 471, 3) := by decide +kernel
theorem dX14_named_40 : decode cX14_named 40 = .ok (.iload_n 2, 1) := by decide +kernel
theorem dX14_named_41 : decode cX14_named 41 = .ok (.invokevirtual 623, 3) := by decide +kernel
theorem dX14_named_44 : decode cX14_named 44 = .ok (.ifCond .le 16, 3) := by decide +kernel
theorem dX14_named_47 : decode cX14_named 47 = .ok (.iload_n 1, 1) := by decide +kernel
theorem dX14_named_48 : decode cX14_named 48 = .ok (.bipush (-3), 2) := by decide +kernel
theorem dX14_named_50 : decode cX14_named 50 = .ok (.if_icmp .ne 7, 3) := by decide +kernel
theorem dX14_named_53 : decode cX14_named 53 = .ok (.iload_n 2, 1) := by decide +kernel
theorem dX14_named_54 : decode cX14_named 54 = .ok (.goto 5, 3) := by decide +kernel
theorem dX14_named_57 : decode cX14_named 57 = .ok (.bipush (-2), 2) := by decide +kernel
theorem dX14_named_59 : decode cX14_named 59 = .ok (.istore_n 1, 1) := by decide +kernel
theorem dX14_named_60 : decode cX14_named 60 = .ok (.iinc 2 1, 3) := by decide +kernel
theorem dX14_named_63 : decode cX14_named 63 = .ok (.goto (-40), 3) := by decide +kernel
theorem dX14_named_66 : decode cX14_named 66 = .ok (.aload_n 0, 1) := by decide +kernel
theorem dX14_named_67 : decode cX14_named 67 = .ok (.iload_n 1, 1) := by decide +kernel
theorem dX14_named_68 : decode cX14_named 68 = .ok (.invokevirtual 413, 3) := by decide +kernel
theorem dX14_named_71 : decode cX14_named 71 = .ok (.ireturn, 1) := by decide +kernel
def s_X14_named_59 (k23 : Nat → Int32 → Int32 → aH → aO) (l0 : Nat) (l2 : Int32) (s0 : Int32) (h : aH) : aO :=
  k23 l0 s0 (l2 + 1) h
def s_X14_named_23_b  (k23 : Nat → Int32 → Int32 → aH → aO) (l0 : Nat) (l1 : Int32) (l2 : Int32) (h : aH) : aO :=
  kO h l0 14 (cI (s_X14_faults l0 h) fun x25 h25 => if x25 < l2 then (kO h25 l0 14 (cI (s_X14_done l0 l1 h25) fun x68 h68 => some (.inl (some (.int x68)), h68))) else ((gI h25 (.ref l0) 14 59).bind fun x33 => (gI h25 (.ref l0) 14 59).bind fun x37 => kO h25 l0 14 (cI (s_X14_gathers l0 x33 x37 l2 h25) fun x41 h41 => if x41 ≤ 0 then (k23 l0 l1 (l2 + 1) h41) else (if l1 = (-3) then (s_X14_named_59 k23 l0 l2 l2 h41) else (s_X14_named_59 k23 l0 l2 (-2) h41)))))
def s_X14_named_23  (n : Nat) : Nat → Int32 → Int32 → aH → aO := lpF (fun _ _ _ _ => none) (s_X14_named_23_b ) n
def s_X14_named (o : Nat) (h : aH) : aO :=
  (pF h (.ref o) 14 0 (.int 0)).bind fun h2 => (gW h2 (.ref o) 14 4).bind fun x6 => match x6 with | .null => (kO h2 o 14 (cI (s_X14_refused o 1 h2) fun x14 h14 => some (.inl (some (.int x14)), h14))) | .ref n9 => (s_X14_named_23 FU o (-3) 0 h2) | _ => none
section
variable {p : Program} {l : Launch} {e : Env} {s : State} {m : MethodId} {args : Array Value} {below : List Frame} {meth : Method} {c : Code} {D : va_G} {B0 : Nat} {X : Nat → Nat} {ws0 : va_W} {r : aR} {h' : aH} {mc ms : Nat}
theorem t_X14_named_59 (C : Cx p l s m args meth c B0 X RX14 "named" cX14_named 3 (some .int) []) {k23 : Nat → Int32 → Int32 → aH → aO} (K23 : ∀ (l0 : Nat) (l1 : Int32) (l2 : Int32) (h : aH), k23 l0 l1 l2 h = some (r, h') → Ev p l e { frames := 7, cells := mc, slots := ms, locals := 178 } s m args below meth c D B0 X ws0 r h' mc ms 3 mc ms 23 [some (.ref l0), some (.int l1), some (.int l2)] [] h) {l0 : Nat} {l2 : Int32} {s0 : Int32} {h : aH} (hs : s_X14_named_59 k23 l0 l2 s0 h = some (r, h')) : Ev p l e { frames := 7, cells := mc, slots := ms, locals := 178 } s m args below meth c D B0 X ws0 r h' mc ms 3 mc ms 59 [some (.ref l0), none, some (.int l2)] [.int s0] h := by
  unfold s_X14_named_59 at hs
  refine ev_istore_n C (by decide) dX14_named_59 ?_
  refine ev_iinc C (i := 2) (n := 1) (x := l2) (v := l2 + 1) rfl (congrArg (fun z => l2 + z) (show Int32.ofInt 1 = 1 by decide)) (by decide) dX14_named_60 ?_
  refine ev_goto C (tgt := 23) (by decide) dX14_named_63 ?_
  exact (K23 _ _ _ _ hs)
theorem t_X14_named_23_b (C : Cx p l s m args meth c B0 X RX14 "named" cX14_named 3 (some .int) [])   {k23 : Nat → Int32 → Int32 → aH → aO} (K23 : ∀ (l0 : Nat) (l1 : Int32) (l2 : Int32) (h : aH), k23 l0 l1 l2 h = some (r, h') → Ev p l e { frames := 7, cells := mc, slots := ms, locals := 178 } s m args below meth c D B0 X ws0 r h' mc ms 3 mc ms 23 [some (.ref l0), some (.int l1), some (.int l2)] [] h) {l0 : Nat} {l1 : Int32} {l2 : Int32} {h : aH} (hs : s_X14_named_23_b  k23 l0 l1 l2 h = some (r, h')) : Ev p l e { frames := 7, cells := mc, slots := ms, locals := 178 } s m args below meth c D B0 X ws0 r h' mc ms 3 mc ms 23 [some (.ref l0), some (.int l1), some (.int l2)] [] h := by
  unfold s_X14_named_23_b at hs
  refine ev_iload_n C rfl dX14_named_23 ?_
  refine ev_aload_n C (x := .ref l0) rfl trivial dX14_named_24 ?_
  obtain ⟨eo25, hs⟩ := kO_at hs
  obtain ⟨x25, h25, e25, hs⟩ := cI_at hs
  refine ev_callV C (T_X14_faults _ _ _ _ e25) (ci := 14) rfl eo25 wc_X14_faults wm_X14_620 wi_X14_faults ws_X14_faults wz_X14 hy_X14_faults ⟨(Nat.le_of_ble_eq_true rfl), (Nat.le_of_ble_eq_true rfl)⟩ ⟨(Nat.le_refl _), (Nat.le_refl _)⟩ (Nat.le_of_ble_eq_true rfl) rfl dX14_named_25 ?_
  refine ev_icmp_gt C (tgt := 66) (by decide) dX14_named_28 (fun q28 => ?_) (fun q28 => ?_)
  · replace hs := (if_pos q28).symm.trans hs
    refine ev_aload_n C (x := .ref l0) rfl trivial dX14_named_66 ?_
    refine ev_iload_n C rfl dX14_named_67 ?_
    obtain ⟨eo68, hs⟩ := kO_at hs
    obtain ⟨x68, h68, e68, hs⟩ := cI_at hs
    refine ev_callV C (T_X14_done _ _ _ _ _ e68) (ci := 14) rfl eo68 wc_X14_done wm_X14_413 wi_X14_done ws_X14_done wz_X14 hy_X14_done ⟨(Nat.le_of_ble_eq_true rfl), (Nat.le_of_ble_eq_true rfl)⟩ ⟨(Nat.le_refl _), (Nat.le_refl _)⟩ (Nat.le_of_ble_eq_true rfl) rfl dX14_named_68 ?_
    cases hs
    exact ev_iret C rfl rfl (Nat.le_refl _) (Nat.le_refl _) rfl dX14_named_71
  · replace hs := (if_neg q28).symm.trans hs
    refine ev_aload_n C (x := .ref l0) rfl trivial dX14_named_31 ?_
    refine ev_aload_n C (x := .ref l0) rfl trivial dX14_named_32 ?_
    obtain ⟨x33, e33, hs⟩ := aB hs
    refine ev_get C (ci := 14) (k := 59) rfl wu_14 (by decide) wf_X14_471 (gI_F e33) dX14_named_33 ?_
    refine ev_aload_n C (x := .ref l0) rfl trivial dX14_named_36 ?_
    obtain ⟨x37, e37, hs⟩ := aB hs
    refine ev_get C (ci := 14) (k := 59) rfl wu_14 (by decide) wf_X14_471 (gI_F e37) dX14_named_37 ?_
    refine ev_iload_n C rfl dX14_named_40 ?_
    obtain ⟨eo41, hs⟩ := kO_at hs
    obtain ⟨x41, h41, e41, hs⟩ := cI_at hs
    refine ev_callV C (T_X14_gathers _ _ _ _ _ _ _ e41) (ci := 14) rfl eo41 wc_X14_gathers wm_X14_623 wi_X14_gathers ws_X14_gathers wz_X14 hy_X14_gathers ⟨(Nat.le_of_ble_eq_true rfl), (Nat.le_of_ble_eq_true rfl)⟩ ⟨(Nat.le_refl _), (Nat.le_refl _)⟩ (Nat.le_of_ble_eq_true rfl) rfl dX14_named_41 ?_
    refine ev_if_le C (tgt := 60) (by decide) dX14_named_44 (fun q44 => ?_) (fun q44 => ?_)
    · replace hs := (if_pos q44).symm.trans hs
      refine ev_iinc C (i := 2) (n := 1) (x := l2) (v := l2 + 1) rfl (congrArg (fun z => l2 + z) (show Int32.ofInt 1 = 1 by decide)) (by decide) dX14_named_60 ?_
      refine ev_goto C (tgt := 23) (by decide) dX14_named_63 ?_
      exact (K23 _ _ _ _ hs)
    · replace hs := (if_neg q44).symm.trans hs
      refine ev_iload_n C rfl dX14_named_47 ?_
      refine ev_bipush C (v := (-3)) dX14_named_48 (by decide) ?_
      refine ev_icmp_ne C (tgt := 57) (by decide) dX14_named_50 (fun q50 => ?_) (fun q50 => ?_)
      · replace hs := (if_neg q50).symm.trans hs
        refine ev_bipush C (v := (-2)) dX14_named_57 (by decide) ?_
        exact Ev.keep [true, false, true] (t_X14_named_59 C K23 hs)
      · replace hs := (if_pos q50).symm.trans hs
        refine ev_iload_n C rfl dX14_named_53 ?_
        refine ev_goto C (tgt := 59) (by decide) dX14_named_54 ?_
        exact Ev.keep [true, false, true] (t_X14_named_59 C K23 hs)
theorem t_X14_named_23 (C : Cx p l s m args meth c B0 X RX14 "named" cX14_named 3 (some .int) [])   : ∀ (n : Nat) {l0 : Nat} {l1 : Int32} {l2 : Int32} {h : aH} (hs : s_X14_named_23  n l0 l1 l2 h = some (r, h')), Ev p l e { frames := 7, cells := mc, slots := ms, locals := 178 } s m args below meth c D B0 X ws0 r h' mc ms 3 mc ms 23 [some (.ref l0), some (.int l1), some (.int l2)] [] h
  | 0, _, _, _, _, hs => nomatch hs
  | n + 1, _, _, _, _, hs => t_X14_named_23_b C  (k23 := s_X14_named_23  n) (fun _ _ _ _ hs => t_X14_named_23 C  n hs) hs
theorem hy_X14_named : yX14_named.cls ≠ "java/lang/invoke/MethodHandle" ∧ yX14_named.cls ≠ "java/lang/invoke/VarHandle" ∧ (parseMethodDescriptor yX14_named.desc).map (fun d => d.parameters.length) = some 0 := by decide +kernel
theorem T_X14_named (o : Nat) (h : aH) (r : aR) (h' : aH) (hs : s_X14_named o h = some (r, h')) : Mt yX14_named (Cond.code yX14_named cX14_named 3 (some .int) :: aTB) 7 178 0 0 [.ref o] h r h' := by
  unfold s_X14_named at hs
  refine Mt_of (k := 2) (by decide) rfl (fun p l e s m args below meth c D B0 X ws0 C => ?_)
  show Ev p l e { frames := 7, cells := 0, slots := 0, locals := 178 } s m args below meth c D B0 X ws0 r h' 0 0 3 0 0 0 [some (.ref o), none, none] [] h
  refine ev_aload_n C (x := .ref o) rfl trivial dX14_named_0 ?_
  refine ev_iconst C (v := 0) dX14_named_1 (by decide) ?_
  obtain ⟨h2, e2, hs⟩ := aB hs
  refine ev_put C (ci := 14) (k := 0) rfl wu_14 (by decide) tyX14 tyX14_ok nmX14 wf_X14_154 rfl trivial e2 dX14_named_2 ?_
  refine ev_aload_n C (x := .ref o) rfl trivial dX14_named_5 ?_
  obtain ⟨x6, e6, hs⟩ := aB hs
  refine ev_get C (ci := 14) (k := 4) rfl wu_14 (by decide) wf_X14_376 (gW_F e6).1 dX14_named_6 ?_
  cases x6 with
  | null =>
    refine ev_ifnonnull_n C dX14_named_9 ?_
    refine ev_aload_n C (x := .ref o) rfl trivial dX14_named_12 ?_
    refine ev_iconst C (v := 1) dX14_named_13 (by decide) ?_
    obtain ⟨eo14, hs⟩ := kO_at hs
    obtain ⟨x14, h14, e14, hs⟩ := cI_at hs
    refine ev_callV C (T_X14_refused _ _ _ _ _ e14) (ci := 14) rfl eo14 wc_X14_refused wm_X14_360 wi_X14_refused ws_X14_refused wz_X14 hy_X14_refused ⟨(Nat.le_of_ble_eq_true rfl), (Nat.le_of_ble_eq_true rfl)⟩ ⟨(Nat.le_refl _), (Nat.le_refl _)⟩ (Nat.le_of_ble_eq_true rfl) rfl dX14_named_14 ?_
    cases hs
    exact ev_iret C rfl rfl (Nat.le_refl _) (Nat.le_refl _) rfl dX14_named_17
  | ref n9 =>
    refine ev_ifnonnull_r C (tgt := 18) (by decide) dX14_named_9 ?_
    refine ev_bipush C (v := (-3)) dX14_named_18 (by decide) ?_
    refine ev_istore_n C (by decide) dX14_named_20 ?_
    refine ev_iconst C (v := 0) dX14_named_21 (by decide) ?_
    refine ev_istore_n C (by decide) dX14_named_22 ?_
    exact (t_X14_named_23 C  FU hs)
  | _ => cases hs
end
-- X14_known
theorem dX14_known_0 : decode cX14_known 0 = .ok (.aload_n 0, 1) := by decide +kernel
theorem dX14_known_1 : decode cX14_known 1 = .ok (.iconst 0, 1) := by decide +kernel
theorem dX14_known_2 : decode cX14_known 2 = .ok (.putfield 154, 3) := by decide +kernel
theorem dX14_known_5 : decode cX14_known 5 = .ok (.aload_n 0, 1) := by decide +kernel
theorem dX14_known_6 : decode cX14_known 6 = .ok (.getfield 376, 3) := by decide +kernel
theorem dX14_known_9 : decode cX14_known 9 = .ok (.ifnull 25, 3) := by decide +kernel
theorem dX14_known_12 : decode cX14_known 12 = .ok (.iload_n 1, 1) := by decide +kernel
theorem dX14_known_13 : decode cX14_known 13 = .ok (.iconst 0, 1) := by decide +kernel
theorem dX14_known_14 : decode cX14_known 14 = .ok (.aload_n 0, 1) := by decide +kernel
theorem dX14_known_15 : decode cX14_known 15 = .ok (.getfield 471, 3) := by decide +kernel
theorem dX14_known_18 : decode cX14_known 18 = .ok (.invokestatic 313, 3) := by decide +kernel
theorem dX14_known_21 : decode cX14_known 21 = .ok (.ifCond .eq 13, 3) := by decide +kernel
theorem dX14_known_24 : decode cX14_known 24 = .ok (.aload_n 0, 1) := by decide +kernel
theorem dX14_known_25 : decode cX14_known 25 = .ok (.iload_n 1, 1) := by decide +kernel
theorem dX14_known_26 : decode cX14_known 26 = .ok (.iload_n 1, 1) := by decide +kernel
theorem dX14_known_27 : decode cX14_known 27 = .ok (.iconst 0, 1) := by decide +kernel
theorem dX14_known_28 : decode cX14_known 28 = .ok (.invokevirtual 623, 3) := by decide +kernel
theorem dX14_known_31 : decode cX14_known 31 = .ok (.goto 4, 3) := by decide +kernel
theorem dX14_known_34 : decode cX14_known 34 = .ok (.iconst (-1), 1) := by decide +kernel
theorem dX14_known_35 : decode cX14_known 35 = .ok (.ireturn, 1) := by decide +kernel
def s_X14_known (o : Nat) (a1 : Int32) (h : aH) : aO :=
  (pF h (.ref o) 14 0 (.int 0)).bind fun h2 => (gW h2 (.ref o) 14 4).bind fun x6 => match x6 with | .null => (some (.inl (some (.int (-1))), h2)) | .ref n9 => ((gI h2 (.ref o) 14 59).bind fun x15 => cI (s_X14_in a1 0 x15 h2) fun x18 h18 => if x18 = 0 then (some (.inl (some (.int (-1))), h18)) else (kO h18 o 14 (cI (s_X14_gathers o a1 a1 0 h18) fun x28 h28 => some (.inl (some (.int x28)), h28)))) | _ => none
section
variable {p : Program} {l : Launch} {e : Env} {s : State} {m : MethodId} {args : Array Value} {below : List Frame} {meth : Method} {c : Code} {D : va_G} {B0 : Nat} {X : Nat → Nat} {ws0 : va_W} {r : aR} {h' : aH} {mc ms : Nat}
theorem hy_X14_known : yX14_known.cls ≠ "java/lang/invoke/MethodHandle" ∧ yX14_known.cls ≠ "java/lang/invoke/VarHandle" ∧ (parseMethodDescriptor yX14_known.desc).map (fun d => d.parameters.length) = some 1 := by decide +kernel
theorem T_X14_known (o : Nat) (a1 : Int32) (h : aH) (r : aR) (h' : aH) (hs : s_X14_known o a1 h = some (r, h')) : Mt yX14_known (Cond.code yX14_known cX14_known 2 (some .int) :: aTB) 7 178 0 0 [.ref o, .int a1] h r h' := by
  unfold s_X14_known at hs
  refine Mt_of (k := 0) (by decide) rfl (fun p l e s m args below meth c D B0 X ws0 C => ?_)
  show Ev p l e { frames := 7, cells := 0, slots := 0, locals := 178 } s m args below meth c D B0 X ws0 r h' 0 0 2 0 0 0 [some (.ref o), some (.int a1)] [] h
  refine ev_aload_n C (x := .ref o) rfl trivial dX14_known_0 ?_
  refine ev_iconst C (v := 0) dX14_known_1 (by decide) ?_
  obtain ⟨h2, e2, hs⟩ := aB hs
  refine ev_put C (ci := 14) (k := 0) rfl wu_14 (by decide) tyX14 tyX14_ok nmX14 wf_X14_154 rfl trivial e2 dX14_known_2 ?_
  refine ev_aload_n C (x := .ref o) rfl trivial dX14_known_5 ?_
  obtain ⟨x6, e6, hs⟩ := aB hs
  refine ev_get C (ci := 14) (k := 4) rfl wu_14 (by decide) wf_X14_376 (gW_F e6).1 dX14_known_6 ?_
  cases x6 with
  | null =>
    refine ev_ifnull_n C (tgt := 34) (by decide) dX14_known_9 ?_
    refine ev_iconst C (v := (-1)) dX14_known_34 (by decide) ?_
    cases hs
    exact ev_iret C rfl rfl (Nat.le_refl _) (Nat.le_refl _) rfl dX14_known_35
  | ref n9 =>
    refine ev_ifnull_r C dX14_known_9 ?_
    refine ev_iload_n C rfl dX14_known_12 ?_
    refine ev_iconst C (v := 0) dX14_known_13 (by decide) ?_
    refine ev_aload_n C (x := .ref o) rfl trivial dX14_known_14 ?_
    obtain ⟨x15, e15, hs⟩ := aB hs
    refine ev_get C (ci := 14) (k := 59) rfl wu_14 (by decide) wf_X14_471 (gI_F e15) dX14_known_15 ?_
    obtain ⟨x18, h18, e18, hs⟩ := cI_at hs
    refine ev_callS C (T_X14_in _ _ _ _ _ _ e18) wc_X14_in wm_X14_313 wt_X14_in wz_X14 hy_X14_in ⟨(Nat.le_of_ble_eq_true rfl), (Nat.le_of_ble_eq_true rfl)⟩ ⟨(Nat.le_refl _), (Nat.le_refl _)⟩ (Nat.le_of_ble_eq_true rfl) rfl dX14_known_18 ?_
    refine ev_if_eq C (tgt := 34) (by decide) dX14_known_21 (fun q21 => ?_) (fun q21 => ?_)
    · replace hs := (if_pos q21).symm.trans hs
      refine ev_iconst C (v := (-1)) dX14_known_34 (by decide) ?_
      cases hs
      exact ev_iret C rfl rfl (Nat.le_refl _) (Nat.le_refl _) rfl dX14_known_35
    · replace hs := (if_neg q21).symm.trans hs
      refine ev_aload_n C (x := .ref o) rfl trivial dX14_known_24 ?_
      refine ev_iload_n C rfl dX14_known_25 ?_
      refine ev_iload_n C rfl dX14_known_26 ?_
      refine ev_iconst C (v := 0) dX14_known_27 (by decide) ?_
      obtain ⟨eo28, hs⟩ := kO_at hs
      obtain ⟨x28, h28, e28, hs⟩ := cI_at hs
      refine ev_callV C (T_X14_gathers _ _ _ _ _ _ _ e28) (ci := 14) rfl eo28 wc_X14_gathers wm_X14_623 wi_X14_gathers ws_X14_gathers wz_X14 hy_X14_gathers ⟨(Nat.le_of_ble_eq_true rfl), (Nat.le_of_ble_eq_true rfl)⟩ ⟨(Nat.le_refl _), (Nat.le_refl _)⟩ (Nat.le_of_ble_eq_true rfl) rfl dX14_known_28 ?_
      refine ev_goto C (tgt := 35) (by decide) dX14_known_31 ?_
      cases hs
      exact ev_iret C rfl rfl (Nat.le_refl _) (Nat.le_refl _) rfl dX14_known_35
  | _ => cases hs
end
-- X14_fit
theorem dX14_fit_0 : decode cX14_fit 0 = .ok (.aload_n 0, 1) := by decide +kernel
theorem dX14_fit_1 : decode cX14_fit 1 = .ok (.iconst 0, 1) := by decide +kernel
theorem dX14_fit_2 : decode cX14_fit 2 = .ok (.putfield 154, 3) := by decide +kernel
theorem dX14_fit_5 : decode cX14_fit 5 = .ok (.aload_n 0, 1) := by decide +kernel
theorem dX14_fit_6 : decode cX14_fit 6 = .ok (.getfield 376, 3) := by decide +kernel
theorem dX14_fit_9 : decode cX14_fit 9 = .ok (.ifnonnull 9, 3) := by decide +kernel
theorem dX14_fit_12 : decode cX14_fit 12 = .ok (.aload_n 0, 1) := by decide +kernel
theorem dX14_fit_13 : decode cX14_fit 13 = .ok (.iconst 1, 1) := by decide +kernel
theorem dX14_fit_14 : decode cX14_fit 14 = .ok (.invokevirtual 360, 3) := by decide +kernel
theorem dX14_fit_17 : decode cX14_fit 17 = .ok (.ireturn, 1) := by decide +kernel
theorem dX14_fit_18 : decode cX14_fit 18 = .ok (.iconst 0, 1) := by decide +kernel
theorem dX14_fit_19 : decode cX14_fit 19 = .ok (.istore_n 1, 1) := by decide +kernel
theorem dX14_fit_20 : decode cX14_fit 20 = .ok (.iconst 0, 1) := by decide +kernel
theorem dX14_fit_21 : decode cX14_fit 21 = .ok (.istore_n 2, 1) := by decide +kernel
theorem dX14_fit_22 : decode cX14_fit 22 = .ok (.iload_n 2, 1) := by decide +kernel
theorem dX14_fit_23 : decode cX14_fit 23 = .ok (.aload_n 0, 1) := by decide +kernel
theorem dX14_fit_24 : decode cX14_fit 24 = .ok (.getfield 385, 3) := by decide +kernel
theorem dX14_fit_27 : decode cX14_fit 27 = .ok (.if_icmp .ge 34, 3) := by decide +kernel
theorem dX14_fit_30 : decode cX14_fit 30 = .ok (.iload_n 1, 1) := by decide +kernel
theorem dX14_fit_31 : decode cX14_fit 31 = .ok (.aload_n 0, 1) := by decide +kernel
theorem dX14_fit_32 : decode cX14_fit 32 = .ok (.iload_n 2, 1) := by decide +kernel
theorem dX14_fit_33 : decode cX14_fit 33 = .ok (.aload_n 0, 1) := by decide +kernel
theorem dX14_fit_34 : decode cX14_fit 34 = .ok (.getfield 471, 3) := by decide +kernel
theorem dX14_fit_37 : decode cX14_fit 37 = .ok (.aload_n 0, 1) := by decide +kernel
theorem dX14_fit_38 : decode cX14_fit 38 = .ok (.getfield 471, 3) := by decide +kernel
theorem dX14_fit_41 : decode cX14_fit 41 = .ok (.iconst 0, 1) := by decide +kernel
theorem dX14_fit_42 : decode cX14_fit 42 = .ok (.invokevirtual 616, 3) := by decide +kernel
theorem dX14_fit_45 : decode cX14_fit 45 = .ok (.ifCond .eq 7, 3) := by decide +kernel
theorem dX14_fit_48 : decode cX14_fit 48 = .ok (.iconst 1, 1) := by decide +kernel
theorem dX14_fit_49 : decode cX14_fit 49 = .ok (.goto 4, 3) := by decide +kernel
theorem dX14_fit_52 : decode cX14_fit 52 = .ok (.iconst 0, 1) := by decide +kernel
theorem dX14_fit_53 : decode cX14_fit 53 = .ok (.iadd, 1) := by decide +kernel
theorem dX14_fit_54 : decode cX14_fit 54 = .ok (.istore_n 1, 1) := by decide +kernel
theorem dX14_fit_55 : decode cX14_fit 55 = .ok (.iinc 2 1, 3) := by decide +kernel
theorem dX14_fit_58 : decode cX14_fit 58 = .ok (.goto (-36), 3) := by decide +kernel
theorem dX14_fit_61 : decode cX14_fit 61 = .ok (.aload_n 0, 1) := by decide +kernel
theorem dX14_fit_62 : decode cX14_fit 62 = .ok (.iload_n 1, 1) := by decide +kernel
theorem dX14_fit_63 : decode cX14_fit 63 = .ok (.invokevirtual 413, 3) := by decide +kernel
theorem dX14_fit_66 : decode cX14_fit 66 = .ok (.ireturn, 1) := by decide +kernel
def s_X14_fit_53 (k22 : Nat → Int32 → Int32 → aH → aO) (l0 : Nat) (l2 : Int32) (s0 : Int32) (s1 : Int32) (h : aH) : aO :=
  k22 l0 (s1 + s0) (l2 + 1) h
def s_X14_fit_22_b  (k22 : Nat → Int32 → Int32 → aH → aO) (l0 : Nat) (l1 : Int32) (l2 : Int32) (h : aH) : aO :=
  (gI h (.ref l0) 14 23).bind fun x24 => if x24 ≤ l2 then (kO h l0 14 (cI (s_X14_done l0 l1 h) fun x63 h63 => some (.inl (some (.int x63)), h63))) else ((gI h (.ref l0) 14 59).bind fun x34 => (gI h (.ref l0) 14 59).bind fun x38 => kO h l0 14 (cI (s_X14_goes l0 l2 x34 x38 0 h) fun x42 h42 => if x42 = 0 then (s_X14_fit_53 k22 l0 l2 0 l1 h42) else (s_X14_fit_53 k22 l0 l2 1 l1 h42)))
def s_X14_fit_22  (n : Nat) : Nat → Int32 → Int32 → aH → aO := lpF (fun _ _ _ _ => none) (s_X14_fit_22_b ) n
def s_X14_fit (o : Nat) (h : aH) : aO :=
  (pF h (.ref o) 14 0 (.int 0)).bind fun h2 => (gW h2 (.ref o) 14 4).bind fun x6 => match x6 with | .null => (kO h2 o 14 (cI (s_X14_refused o 1 h2) fun x14 h14 => some (.inl (some (.int x14)), h14))) | .ref n9 => (s_X14_fit_22 FU o 0 0 h2) | _ => none
section
variable {p : Program} {l : Launch} {e : Env} {s : State} {m : MethodId} {args : Array Value} {below : List Frame} {meth : Method} {c : Code} {D : va_G} {B0 : Nat} {X : Nat → Nat} {ws0 : va_W} {r : aR} {h' : aH} {mc ms : Nat}
theorem t_X14_fit_53 (C : Cx p l s m args meth c B0 X RX14 "fit" cX14_fit 3 (some .int) []) {k22 : Nat → Int32 → Int32 → aH → aO} (K22 : ∀ (l0 : Nat) (l1 : Int32) (l2 : Int32) (h : aH), k22 l0 l1 l2 h = some (r, h') → Ev p l e { frames := 6, cells := mc, slots := ms, locals := 153 } s m args below meth c D B0 X ws0 r h' mc ms 3 mc ms 22 [some (.ref l0), some (.int l1), some (.int l2)] [] h) {l0 : Nat} {l2 : Int32} {s0 : Int32} {s1 : Int32} {h : aH} (hs : s_X14_fit_53 k22 l0 l2 s0 s1 h = some (r, h')) : Ev p l e { frames := 6, cells := mc, slots := ms, locals := 153 } s m args below meth c D B0 X ws0 r h' mc ms 3 mc ms 53 [some (.ref l0), none, some (.int l2)] [.int s0, .int s1] h := by
  unfold s_X14_fit_53 at hs
  refine ev_iadd C dX14_fit_53 ?_
  refine ev_istore_n C (by decide) dX14_fit_54 ?_
  refine ev_iinc C (i := 2) (n := 1) (x := l2) (v := l2 + 1) rfl (congrArg (fun z => l2 + z) (show Int32.ofInt 1 = 1 by decide)) (by decide) dX14_fit_55 ?_
  refine ev_goto C (tgt := 22) (by decide) dX14_fit_58 ?_
  exact (K22 _ _ _ _ hs)
theorem t_X14_fit_22_b (C : Cx p l s m args meth c B0 X RX14 "fit" cX14_fit 3 (some .int) [])   {k22 : Nat → Int32 → Int32 → aH → aO} (K22 : ∀ (l0 : Nat) (l1 : Int32) (l2 : Int32) (h : aH), k22 l0 l1 l2 h = some (r, h') → Ev p l e { frames := 6, cells := mc, slots := ms, locals := 153 } s m args below meth c D B0 X ws0 r h' mc ms 3 mc ms 22 [some (.ref l0), some (.int l1), some (.int l2)] [] h) {l0 : Nat} {l1 : Int32} {l2 : Int32} {h : aH} (hs : s_X14_fit_22_b  k22 l0 l1 l2 h = some (r, h')) : Ev p l e { frames := 6, cells := mc, slots := ms, locals := 153 } s m args below meth c D B0 X ws0 r h' mc ms 3 mc ms 22 [some (.ref l0), some (.int l1), some (.int l2)] [] h := by
  unfold s_X14_fit_22_b at hs
  refine ev_iload_n C rfl dX14_fit_22 ?_
  refine ev_aload_n C (x := .ref l0) rfl trivial dX14_fit_23 ?_
  obtain ⟨x24, e24, hs⟩ := aB hs
  refine ev_get C (ci := 14) (k := 23) rfl wu_14 (by decide) wf_X14_385 (gI_F e24) dX14_fit_24 ?_
  refine ev_icmp_ge C (tgt := 61) (by decide) dX14_fit_27 (fun q27 => ?_) (fun q27 => ?_)
  · replace hs := (if_pos q27).symm.trans hs
    refine ev_aload_n C (x := .ref l0) rfl trivial dX14_fit_61 ?_
    refine ev_iload_n C rfl dX14_fit_62 ?_
    obtain ⟨eo63, hs⟩ := kO_at hs
    obtain ⟨x63, h63, e63, hs⟩ := cI_at hs
    refine ev_callV C (T_X14_done _ _ _ _ _ e63) (ci := 14) rfl eo63 wc_X14_done wm_X14_413 wi_X14_done ws_X14_done wz_X14 hy_X14_done ⟨(Nat.le_of_ble_eq_true rfl), (Nat.le_of_ble_eq_true rfl)⟩ ⟨(Nat.le_refl _), (Nat.le_refl _)⟩ (Nat.le_of_ble_eq_true rfl) rfl dX14_fit_63 ?_
    cases hs
    exact ev_iret C rfl rfl (Nat.le_refl _) (Nat.le_refl _) rfl dX14_fit_66
  · replace hs := (if_neg q27).symm.trans hs
    refine ev_iload_n C rfl dX14_fit_30 ?_
    refine ev_aload_n C (x := .ref l0) rfl trivial dX14_fit_31 ?_
    refine ev_iload_n C rfl dX14_fit_32 ?_
    refine ev_aload_n C (x := .ref l0) rfl trivial dX14_fit_33 ?_
    obtain ⟨x34, e34, hs⟩ := aB hs
    refine ev_get C (ci := 14) (k := 59) rfl wu_14 (by decide) wf_X14_471 (gI_F e34) dX14_fit_34 ?_
    refine ev_aload_n C (x := .ref l0) rfl trivial dX14_fit_37 ?_
    obtain ⟨x38, e38, hs⟩ := aB hs
    refine ev_get C (ci := 14) (k := 59) rfl wu_14 (by decide) wf_X14_471 (gI_F e38) dX14_fit_38 ?_
    refine ev_iconst C (v := 0) dX14_fit_41 (by decide) ?_
    obtain ⟨eo42, hs⟩ := kO_at hs
    obtain ⟨x42, h42, e42, hs⟩ := cI_at hs
    refine ev_callV C (T_X14_goes _ _ _ _ _ _ _ _ e42) (ci := 14) rfl eo42 wc_X14_goes wm_X14_616 wi_X14_goes ws_X14_goes wz_X14 hy_X14_goes ⟨(Nat.le_of_ble_eq_true rfl), (Nat.le_of_ble_eq_true rfl)⟩ ⟨(Nat.le_refl _), (Nat.le_refl _)⟩ (Nat.le_of_ble_eq_true rfl) rfl dX14_fit_42 ?_
    refine ev_if_eq C (tgt := 52) (by decide) dX14_fit_45 (fun q45 => ?_) (fun q45 => ?_)
    · replace hs := (if_pos q45).symm.trans hs
      refine ev_iconst C (v := 0) dX14_fit_52 (by decide) ?_
      exact Ev.keep [true, false, true] (t_X14_fit_53 C K22 hs)
    · replace hs := (if_neg q45).symm.trans hs
      refine ev_iconst C (v := 1) dX14_fit_48 (by decide) ?_
      refine ev_goto C (tgt := 53) (by decide) dX14_fit_49 ?_
      exact Ev.keep [true, false, true] (t_X14_fit_53 C K22 hs)
theorem t_X14_fit_22 (C : Cx p l s m args meth c B0 X RX14 "fit" cX14_fit 3 (some .int) [])   : ∀ (n : Nat) {l0 : Nat} {l1 : Int32} {l2 : Int32} {h : aH} (hs : s_X14_fit_22  n l0 l1 l2 h = some (r, h')), Ev p l e { frames := 6, cells := mc, slots := ms, locals := 153 } s m args below meth c D B0 X ws0 r h' mc ms 3 mc ms 22 [some (.ref l0), some (.int l1), some (.int l2)] [] h
  | 0, _, _, _, _, hs => nomatch hs
  | n + 1, _, _, _, _, hs => t_X14_fit_22_b C  (k22 := s_X14_fit_22  n) (fun _ _ _ _ hs => t_X14_fit_22 C  n hs) hs
theorem hy_X14_fit : yX14_fit.cls ≠ "java/lang/invoke/MethodHandle" ∧ yX14_fit.cls ≠ "java/lang/invoke/VarHandle" ∧ (parseMethodDescriptor yX14_fit.desc).map (fun d => d.parameters.length) = some 0 := by decide +kernel
theorem T_X14_fit (o : Nat) (h : aH) (r : aR) (h' : aH) (hs : s_X14_fit o h = some (r, h')) : Mt yX14_fit (Cond.code yX14_fit cX14_fit 3 (some .int) :: aTB) 6 153 0 0 [.ref o] h r h' := by
  unfold s_X14_fit at hs
  refine Mt_of (k := 2) (by decide) rfl (fun p l e s m args below meth c D B0 X ws0 C => ?_)
  show Ev p l e { frames := 6, cells := 0, slots := 0, locals := 153 } s m args below meth c D B0 X ws0 r h' 0 0 3 0 0 0 [some (.ref o), none, none] [] h
  refine ev_aload_n C (x := .ref o) rfl trivial dX14_fit_0 ?_
  refine ev_iconst C (v := 0) dX14_fit_1 (by decide) ?_
  obtain ⟨h2, e2, hs⟩ := aB hs
  refine ev_put C (ci := 14) (k := 0) rfl wu_14 (by decide) tyX14 tyX14_ok nmX14 wf_X14_154 rfl trivial e2 dX14_fit_2 ?_
  refine ev_aload_n C (x := .ref o) rfl trivial dX14_fit_5 ?_
  obtain ⟨x6, e6, hs⟩ := aB hs
  refine ev_get C (ci := 14) (k := 4) rfl wu_14 (by decide) wf_X14_376 (gW_F e6).1 dX14_fit_6 ?_
  cases x6 with
  | null =>
    refine ev_ifnonnull_n C dX14_fit_9 ?_
    refine ev_aload_n C (x := .ref o) rfl trivial dX14_fit_12 ?_
    refine ev_iconst C (v := 1) dX14_fit_13 (by decide) ?_
    obtain ⟨eo14, hs⟩ := kO_at hs
    obtain ⟨x14, h14, e14, hs⟩ := cI_at hs
    refine ev_callV C (T_X14_refused _ _ _ _ _ e14) (ci := 14) rfl eo14 wc_X14_refused wm_X14_360 wi_X14_refused ws_X14_refused wz_X14 hy_X14_refused ⟨(Nat.le_of_ble_eq_true rfl), (Nat.le_of_ble_eq_true rfl)⟩ ⟨(Nat.le_refl _), (Nat.le_refl _)⟩ (Nat.le_of_ble_eq_true rfl) rfl dX14_fit_14 ?_
    cases hs
    exact ev_iret C rfl rfl (Nat.le_refl _) (Nat.le_refl _) rfl dX14_fit_17
  | ref n9 =>
    refine ev_ifnonnull_r C (tgt := 18) (by decide) dX14_fit_9 ?_
    refine ev_iconst C (v := 0) dX14_fit_18 (by decide) ?_
    refine ev_istore_n C (by decide) dX14_fit_19 ?_
    refine ev_iconst C (v := 0) dX14_fit_20 (by decide) ?_
    refine ev_istore_n C (by decide) dX14_fit_21 ?_
    exact (t_X14_fit_22 C  FU hs)
  | _ => cases hs
end
-- X14_nextsOf
theorem dX14_nextsOf_0 : decode cX14_nextsOf 0 = .ok (.iconst 0, 1) := by decide +kernel
theorem dX14_nextsOf_1 : decode cX14_nextsOf 1 = .ok (.istore_n 3, 1) := by decide +kernel
theorem dX14_nextsOf_2 : decode cX14_nextsOf 2 = .ok (.iload_n 3, 1) := by decide +kernel
theorem dX14_nextsOf_3 : decode cX14_nextsOf 3 = .ok (.aload_n 0, 1) := by decide +kernel
theorem dX14_nextsOf_4 : decode cX14_nextsOf 4 = .ok (.getfield 379, 3) := by decide +kernel
theorem dX14_nextsOf_7 : decode cX14_nextsOf 7 = .ok (.if_icmp .ge 16, 3) := by decide +kernel
theorem dX14_nextsOf_10 : decode cX14_nextsOf 10 = .ok (.aload_n 0, 1) := by decide +kernel
theorem dX14_nextsOf_11 : decode cX14_nextsOf 11 = .ok (.getfield 145, 3) := by decide +kernel
theorem dX14_nextsOf_14 : decode cX14_nextsOf 14 = .ok (.iload_n 3, 1) := by decide +kernel
theorem dX14_nextsOf_15 : decode cX14_nextsOf 15 = .ok (.iconst 0, 1) := by decide +kernel
theorem dX14_nextsOf_16 : decode cX14_nextsOf 16 = .ok (.bastore, 1) := by decide +kernel
theorem dX14_nextsOf_17 : decode cX14_nextsOf 17 = .ok (.iinc 3 1, 3) := by decide +kernel
theorem dX14_nextsOf_20 : decode cX14_nextsOf 20 = .ok (.goto (-18), 3) := by decide +kernel
theorem dX14_nextsOf_23 : decode cX14_nextsOf 23 = .ok (.iconst 0, 1) := by decide +kernel
theorem dX14_nextsOf_24 : decode cX14_nextsOf 24 = .ok (.istore_n 3, 1) := by decide +kernel
theorem dX14_nextsOf_25 : decode cX14_nextsOf 25 = .ok (.iconst 0, 1) := by decide +kernel
theorem dX14_nextsOf_26 : decode cX14_nextsOf 26 = .ok (.istore 4, 2) := by decide +kernel
theorem dX14_nextsOf_28 : decode cX14_nextsOf 28 = .ok (.iload 4, 2) := by decide +kernel
theorem dX14_nextsOf_30 : decode cX14_nextsOf 30 = .ok (.aload_n 0, 1) := by decide +kernel
theorem dX14_nextsOf_31 : decode cX14_nextsOf 31 = .ok (.getfield 385, 3) := by decide +kernel
theorem dX14_nextsOf_34 : decode cX14_nextsOf 34 = .ok (.if_icmp .ge 71, 3) := by decide +kernel
theorem dX14_nextsOf_37 : decode cX14_nextsOf 37 = .ok (.aload_n 0, 1) := by decide +kernel
theorem dX14_nextsOf_38 : decode cX14_nextsOf 38 = .ok (.iload 4, 2) := by decide +kernel
theorem dX14_nextsOf_40 : decode cX14_nextsOf 40 = .ok (.aload_n 0, 1) := by decide +kernel
theorem dX14_nextsOf_41 : decode cX14_nextsOf 41 = .ok (.getfield 471, 3) := by decide +kernel
theorem dX14_nextsOf_44 : decode cX14_nextsOf 44 = .ok (.aload_n 0, 1) := by decide +kernel
theorem dX14_nextsOf_45 : decode cX14_nextsOf 45 = .ok (.getfield 471, 3) := by decide +kernel
theorem dX14_nextsOf_48 : decode cX14_nextsOf 48 = .ok (.iconst 0, 1) := by decide +kernel
theorem dX14_nextsOf_49 : decode cX14_nextsOf 49 = .ok (.invokevirtual 616, 3) := by decide +kernel
theorem dX14_nextsOf_52 : decode cX14_nextsOf 52 = .ok (.ifCond .ne 6, 3) := by decide +kernel
theorem dX14_nextsOf_55 : decode cX14_nextsOf 55 = .ok (.goto 44, 3) := by decide +kernel
theorem dX14_nextsOf_58 : decode cX14_nextsOf 58 = .ok (.aload_n 0, 1) := by decide +kernel
theorem dX14_nextsOf_59 : decode cX14_nextsOf 59 = .ok (.iload_n 1, 1) := by decide +kernel
theorem dX14_nextsOf_60 : decode cX14_nextsOf 60 = .ok (.iload_n 2, 1) := by decide +kernel
theorem dX14_nextsOf_61 : decode cX14_nextsOf 61 = .ok (.iload 4, 2) := by decide +kernel
theorem dX14_nextsOf_63 : decode cX14_nextsOf 63 = .ok (.invokevirtual 483, 3) := by decide +kernel
theorem dX14_nextsOf_66 : decode cX14_nextsOf 66 = .ok (.istore 5, 2) := by decide +kernel
theorem dX14_nextsOf_68 : decode cX14_nextsOf 68 = .ok (.iload 5, 2) := by decide +kernel
theorem dX14_nextsOf_70 : decode cX14_nextsOf 70 = .ok (.bipush (-2), 2) := by decide +kernel
theorem dX14_nextsOf_72 : decode cX14_nextsOf 72 = .ok (.if_icmp .eq 27, 3) := by decide +kernel
theorem dX14_nextsOf_75 : decode cX14_nextsOf 75 = .ok (.aload_n 0, 1) := by decide +kernel
theorem dX14_nextsOf_76 : decode cX14_nextsOf 76 = .ok (.getfield 145, 3) := by decide +kernel
theorem dX14_nextsOf_79 : decode cX14_nextsOf 79 = .ok (.iload 5, 2) := by decide +kernel
theorem dX14_nextsOf_81 : decode cX14_nextsOf 81 = .ok (.baload, 1) := by decide +kernel
theorem dX14_nextsOf_82 : decode cX14_nextsOf 82 = .ok (.ifCond .eq 6, 3) := by decide +kernel
theorem dX14_nextsOf_85 : decode cX14_nextsOf 85 = .ok (.goto 14, 3) := by decide +kernel
theorem dX14_nextsOf_88 : decode cX14_nextsOf 88 = .ok (.aload_n 0, 1) := by decide +kernel
theorem dX14_nextsOf_89 : decode cX14_nextsOf 89 = .ok (.getfield 145, 3) := by decide +kernel
theorem dX14_nextsOf_92 : decode cX14_nextsOf 92 = .ok (.iload 5, 2) := by decide +kernel
theorem dX14_nextsOf_94 : decode cX14_nextsOf 94 = .ok (.iconst 1, 1) := by decide +kernel
theorem dX14_nextsOf_95 : decode cX14_nextsOf 95 = .ok (.bastore, 1) := by decide +kernel
theorem dX14_nextsOf_96 : decode cX14_nextsOf 96 = .ok (.iinc 3 1, 3) := by decide +kernel
theorem dX14_nextsOf_99 : decode cX14_nextsOf 99 = .ok (.iinc 4 1, 3) := by decide +kernel
theorem dX14_nextsOf_102 : decode cX14_nextsOf 102 = .ok (.goto (-74), 3) := by decide +kernel
theorem dX14_nextsOf_105 : decode cX14_nextsOf 105 = .ok (.iload_n 3, 1) := by decide +kernel
theorem dX14_nextsOf_106 : decode cX14_nextsOf 106 = .ok (.ireturn, 1) := by decide +kernel
def s_X14_nextsOf_28_b  (k28 : Nat → Int32 → Int32 → Int32 → Int32 → aH → aO) (l0 : Nat) (l1 : Int32) (l2 : Int32) (l3 : Int32) (l4 : Int32) (h : aH) : aO :=
  (gI h (.ref l0) 14 23).bind fun x31 => if x31 ≤ l4 then (some (.inl (some (.int l3)), h)) else ((gI h (.ref l0) 14 59).bind fun x41 => (gI h (.ref l0) 14 59).bind fun x45 => kO h l0 14 (cI (s_X14_goes l0 l4 x41 x45 0 h) fun x49 h49 => if x49 = 0 then (k28 l0 l1 l2 l3 (l4 + 1) h49) else (kO h49 l0 14 (cI (s_X14_to l0 l1 l2 l4 h49) fun x63 h63 => if x63 = (-2) then (k28 l0 l1 l2 l3 (l4 + 1) h63) else ((gO h63 (.ref l0) 14 65).bind fun x76 => (ldI .boolean h63 (.ref x76) x63).bind fun x81 => if x81 = 0 then ((gO h63 (.ref l0) 14 65).bind fun x89 => (stN .boolean h63 (.ref x89) x63 1).bind fun h95 => k28 l0 l1 l2 (l3 + 1) (l4 + 1) h95) else (k28 l0 l1 l2 l3 (l4 + 1) h63))))))
def s_X14_nextsOf_28  (n : Nat) : Nat → Int32 → Int32 → Int32 → Int32 → aH → aO := lpF (fun _ _ _ _ _ _ => none) (s_X14_nextsOf_28_b ) n
def s_X14_nextsOf_2_b  (k2 : Nat → Int32 → Int32 → Int32 → aH → aO) (l0 : Nat) (l1 : Int32) (l2 : Int32) (l3 : Int32) (h : aH) : aO :=
  (gI h (.ref l0) 14 20).bind fun x4 => if x4 ≤ l3 then (s_X14_nextsOf_28 FU l0 l1 l2 0 0 h) else ((gO h (.ref l0) 14 65).bind fun x11 => (stN .boolean h (.ref x11) l3 0).bind fun h16 => k2 l0 l1 l2 (l3 + 1) h16)
def s_X14_nextsOf_2  (n : Nat) : Nat → Int32 → Int32 → Int32 → aH → aO := lpF (fun _ _ _ _ _ => none) (s_X14_nextsOf_2_b ) n
def s_X14_nextsOf (o : Nat) (a1 : Int32) (a2 : Int32) (h : aH) : aO :=
  s_X14_nextsOf_2 FU o a1 a2 0 h
section
variable {p : Program} {l : Launch} {e : Env} {s : State} {m : MethodId} {args : Array Value} {below : List Frame} {meth : Method} {c : Code} {D : va_G} {B0 : Nat} {X : Nat → Nat} {ws0 : va_W} {r : aR} {h' : aH} {mc ms : Nat}
theorem t_X14_nextsOf_28_b (C : Cx p l s m args meth c B0 X RX14 "nextsOf" cX14_nextsOf 6 (some .int) [])   {k28 : Nat → Int32 → Int32 → Int32 → Int32 → aH → aO} (K28 : ∀ (l0 : Nat) (l1 : Int32) (l2 : Int32) (l3 : Int32) (l4 : Int32) (h : aH), k28 l0 l1 l2 l3 l4 h = some (r, h') → Ev p l e { frames := 6, cells := mc, slots := ms, locals := 153 } s m args below meth c D B0 X ws0 r h' mc ms 6 mc ms 28 [some (.ref l0), some (.int l1), some (.int l2), some (.int l3), some (.int l4), none] [] h) {l0 : Nat} {l1 : Int32} {l2 : Int32} {l3 : Int32} {l4 : Int32} {h : aH} (hs : s_X14_nextsOf_28_b  k28 l0 l1 l2 l3 l4 h = some (r, h')) : Ev p l e { frames := 6, cells := mc, slots := ms, locals := 153 } s m args below meth c D B0 X ws0 r h' mc ms 6 mc ms 28 [some (.ref l0), some (.int l1), some (.int l2), some (.int l3), some (.int l4), none] [] h := by
  unfold s_X14_nextsOf_28_b at hs
  refine ev_iload C rfl dX14_nextsOf_28 ?_
  refine ev_aload_n C (x := .ref l0) rfl trivial dX14_nextsOf_30 ?_
  obtain ⟨x31, e31, hs⟩ := aB hs
  refine ev_get C (ci := 14) (k := 23) rfl wu_14 (by decide) wf_X14_385 (gI_F e31) dX14_nextsOf_31 ?_
  refine ev_icmp_ge C (tgt := 105) (by decide) dX14_nextsOf_34 (fun q34 => ?_) (fun q34 => ?_)
  · replace hs := (if_pos q34).symm.trans hs
    refine ev_iload_n C rfl dX14_nextsOf_105 ?_
    cases hs
    exact ev_iret C rfl rfl (Nat.le_refl _) (Nat.le_refl _) rfl dX14_nextsOf_106
  · replace hs := (if_neg q34).symm.trans hs
    refine ev_aload_n C (x := .ref l0) rfl trivial dX14_nextsOf_37 ?_
    refine ev_iload C rfl dX14_nextsOf_38 ?_
    refine ev_aload_n C (x := .ref l0) rfl trivial dX14_nextsOf_40 ?_
    obtain ⟨x41, e41, hs⟩ := aB hs
    refine ev_get C (ci := 14) (k := 59) rfl wu_14 (by decide) wf_X14_471 (gI_F e41) dX14_nextsOf_41 ?_
    refine ev_aload_n C (x := .ref l0) rfl trivial dX14_nextsOf_44 ?_
    obtain ⟨x45, e45, hs⟩ := aB hs
    refine ev_get C (ci := 14) (k := 59) rfl wu_14 (by decide) wf_X14_471 (gI_F e45) dX14_nextsOf_45 ?_
    refine ev_iconst C (v := 0) dX14_nextsOf_48 (by decide) ?_
    obtain ⟨eo49, hs⟩ := kO_at hs
    obtain ⟨x49, h49, e49, hs⟩ := cI_at hs
    refine ev_callV C (T_X14_goes _ _ _ _ _ _ _ _ e49) (ci := 14) rfl eo49 wc_X14_goes wm_X14_616 wi_X14_goes ws_X14_goes wz_X14 hy_X14_goes ⟨(Nat.le_of_ble_eq_true rfl), (Nat.le_of_ble_eq_true rfl)⟩ ⟨(Nat.le_refl _), (Nat.le_refl _)⟩ (Nat.le_of_ble_eq_true rfl) rfl dX14_nextsOf_49 ?_
    refine ev_if_ne C (tgt := 58) (by decide) dX14_nextsOf_52 (fun q52 => ?_) (fun q52 => ?_)
    · replace hs := (if_neg q52).symm.trans hs
      refine ev_aload_n C (x := .ref l0) rfl trivial dX14_nextsOf_58 ?_
      refine ev_iload_n C rfl dX14_nextsOf_59 ?_
      refine ev_iload_n C rfl dX14_nextsOf_60 ?_
      refine ev_iload C rfl dX14_nextsOf_61 ?_
      obtain ⟨eo63, hs⟩ := kO_at hs
      obtain ⟨x63, h63, e63, hs⟩ := cI_at hs
      refine ev_callV C (T_X14_to _ _ _ _ _ _ _ e63) (ci := 14) rfl eo63 wc_X14_to wm_X14_483 wi_X14_to ws_X14_to wz_X14 hy_X14_to ⟨(Nat.le_of_ble_eq_true rfl), (Nat.le_of_ble_eq_true rfl)⟩ ⟨(Nat.le_refl _), (Nat.le_refl _)⟩ (Nat.le_of_ble_eq_true rfl) rfl dX14_nextsOf_63 ?_
      refine ev_istore C (by decide) dX14_nextsOf_66 ?_
      refine ev_iload C rfl dX14_nextsOf_68 ?_
      refine ev_bipush C (v := (-2)) dX14_nextsOf_70 (by decide) ?_
      refine ev_icmp_eq C (tgt := 99) (by decide) dX14_nextsOf_72 (fun q72 => ?_) (fun q72 => ?_)
      · replace hs := (if_pos q72).symm.trans hs
        refine ev_iinc C (i := 4) (n := 1) (x := l4) (v := l4 + 1) rfl (congrArg (fun z => l4 + z) (show Int32.ofInt 1 = 1 by decide)) (by decide) dX14_nextsOf_99 ?_
        refine ev_goto C (tgt := 28) (by decide) dX14_nextsOf_102 ?_
        exact Ev.keep [true, true, true, true, true, false] (K28 _ _ _ _ _ _ hs)
      · replace hs := (if_neg q72).symm.trans hs
        refine ev_aload_n C (x := .ref l0) rfl trivial dX14_nextsOf_75 ?_
        obtain ⟨x76, e76, hs⟩ := aB hs
        refine ev_get C (ci := 14) (k := 65) rfl wu_14 (by decide) wf_X14_145 (gO_F e76) dX14_nextsOf_76 ?_
        refine ev_iload C rfl dX14_nextsOf_79 ?_
        obtain ⟨x81, e81, hs⟩ := aB hs
        refine ev_zald C e81 dX14_nextsOf_81 ?_
        refine ev_if_eq C (tgt := 88) (by decide) dX14_nextsOf_82 (fun q82 => ?_) (fun q82 => ?_)
        · replace hs := (if_pos q82).symm.trans hs
          refine ev_aload_n C (x := .ref l0) rfl trivial dX14_nextsOf_88 ?_
          obtain ⟨x89, e89, hs⟩ := aB hs
          refine ev_get C (ci := 14) (k := 65) rfl wu_14 (by decide) wf_X14_145 (gO_F e89) dX14_nextsOf_89 ?_
          refine ev_iload C rfl dX14_nextsOf_92 ?_
          refine ev_iconst C (v := 1) dX14_nextsOf_94 (by decide) ?_
          obtain ⟨h95, e95, hs⟩ := aB hs
          refine ev_zast C e95 dX14_nextsOf_95 ?_
          refine ev_iinc C (i := 3) (n := 1) (x := l3) (v := l3 + 1) rfl (congrArg (fun z => l3 + z) (show Int32.ofInt 1 = 1 by decide)) (by decide) dX14_nextsOf_96 ?_
          refine ev_iinc C (i := 4) (n := 1) (x := l4) (v := l4 + 1) rfl (congrArg (fun z => l4 + z) (show Int32.ofInt 1 = 1 by decide)) (by decide) dX14_nextsOf_99 ?_
          refine ev_goto C (tgt := 28) (by decide) dX14_nextsOf_102 ?_
          exact Ev.keep [true, true, true, true, true, false] (K28 _ _ _ _ _ _ hs)
        · replace hs := (if_neg q82).symm.trans hs
          refine ev_goto C (tgt := 99) (by decide) dX14_nextsOf_85 ?_
          refine ev_iinc C (i := 4) (n := 1) (x := l4) (v := l4 + 1) rfl (congrArg (fun z => l4 + z) (show Int32.ofInt 1 = 1 by decide)) (by decide) dX14_nextsOf_99 ?_
          refine ev_goto C (tgt := 28) (by decide) dX14_nextsOf_102 ?_
          exact Ev.keep [true, true, true, true, true, false] (K28 _ _ _ _ _ _ hs)
    · replace hs := (if_pos q52).symm.trans hs
      refine ev_goto C (tgt := 99) (by decide) dX14_nextsOf_55 ?_
      refine ev_iinc C (i := 4) (n := 1) (x := l4) (v := l4 + 1) rfl (congrArg (fun z => l4 + z) (show Int32.ofInt 1 = 1 by decide)) (by decide) dX14_nextsOf_99 ?_
      refine ev_goto C (tgt := 28) (by decide) dX14_nextsOf_102 ?_
      exact (K28 _ _ _ _ _ _ hs)
theorem t_X14_nextsOf_28 (C : Cx p l s m args meth c B0 X RX14 "nextsOf" cX14_nextsOf 6 (some .int) [])   : ∀ (n : Nat) {l0 : Nat} {l1 : Int32} {l2 : Int32} {l3 : Int32} {l4 : Int32} {h : aH} (hs : s_X14_nextsOf_28  n l0 l1 l2 l3 l4 h = some (r, h')), Ev p l e { frames := 6, cells := mc, slots := ms, locals := 153 } s m args below meth c D B0 X ws0 r h' mc ms 6 mc ms 28 [some (.ref l0), some (.int l1), some (.int l2), some (.int l3), some (.int l4), none] [] h
  | 0, _, _, _, _, _, _, hs => nomatch hs
  | n + 1, _, _, _, _, _, _, hs => t_X14_nextsOf_28_b C  (k28 := s_X14_nextsOf_28  n) (fun _ _ _ _ _ _ hs => t_X14_nextsOf_28 C  n hs) hs
theorem t_X14_nextsOf_2_b (C : Cx p l s m args meth c B0 X RX14 "nextsOf" cX14_nextsOf 6 (some .int) [])   {k2 : Nat → Int32 → Int32 → Int32 → aH → aO} (K2 : ∀ (l0 : Nat) (l1 : Int32) (l2 : Int32) (l3 : Int32) (h : aH), k2 l0 l1 l2 l3 h = some (r, h') → Ev p l e { frames := 6, cells := mc, slots := ms, locals := 153 } s m args below meth c D B0 X ws0 r h' mc ms 6 mc ms 2 [some (.ref l0), some (.int l1), some (.int l2), some (.int l3), none, none] [] h) {l0 : Nat} {l1 : Int32} {l2 : Int32} {l3 : Int32} {h : aH} (hs : s_X14_nextsOf_2_b  k2 l0 l1 l2 l3 h = some (r, h')) : Ev p l e { frames := 6, cells := mc, slots := ms, locals := 153 } s m args below meth c D B0 X ws0 r h' mc ms 6 mc ms 2 [some (.ref l0), some (.int l1), some (.int l2), some (.int l3), none, none] [] h := by
  unfold s_X14_nextsOf_2_b at hs
  refine ev_iload_n C rfl dX14_nextsOf_2 ?_
  refine ev_aload_n C (x := .ref l0) rfl trivial dX14_nextsOf_3 ?_
  obtain ⟨x4, e4, hs⟩ := aB hs
  refine ev_get C (ci := 14) (k := 20) rfl wu_14 (by decide) wf_X14_379 (gI_F e4) dX14_nextsOf_4 ?_
  refine ev_icmp_ge C (tgt := 23) (by decide) dX14_nextsOf_7 (fun q7 => ?_) (fun q7 => ?_)
  · replace hs := (if_pos q7).symm.trans hs
    refine ev_iconst C (v := 0) dX14_nextsOf_23 (by decide) ?_
    refine ev_istore_n C (by decide) dX14_nextsOf_24 ?_
    refine ev_iconst C (v := 0) dX14_nextsOf_25 (by decide) ?_
    refine ev_istore C (by decide) dX14_nextsOf_26 ?_
    exact (t_X14_nextsOf_28 C  FU hs)
  · replace hs := (if_neg q7).symm.trans hs
    refine ev_aload_n C (x := .ref l0) rfl trivial dX14_nextsOf_10 ?_
    obtain ⟨x11, e11, hs⟩ := aB hs
    refine ev_get C (ci := 14) (k := 65) rfl wu_14 (by decide) wf_X14_145 (gO_F e11) dX14_nextsOf_11 ?_
    refine ev_iload_n C rfl dX14_nextsOf_14 ?_
    refine ev_iconst C (v := 0) dX14_nextsOf_15 (by decide) ?_
    obtain ⟨h16, e16, hs⟩ := aB hs
    refine ev_zast C e16 dX14_nextsOf_16 ?_
    refine ev_iinc C (i := 3) (n := 1) (x := l3) (v := l3 + 1) rfl (congrArg (fun z => l3 + z) (show Int32.ofInt 1 = 1 by decide)) (by decide) dX14_nextsOf_17 ?_
    refine ev_goto C (tgt := 2) (by decide) dX14_nextsOf_20 ?_
    exact (K2 _ _ _ _ _ hs)
theorem t_X14_nextsOf_2 (C : Cx p l s m args meth c B0 X RX14 "nextsOf" cX14_nextsOf 6 (some .int) [])   : ∀ (n : Nat) {l0 : Nat} {l1 : Int32} {l2 : Int32} {l3 : Int32} {h : aH} (hs : s_X14_nextsOf_2  n l0 l1 l2 l3 h = some (r, h')), Ev p l e { frames := 6, cells := mc, slots := ms, locals := 153 } s m args below meth c D B0 X ws0 r h' mc ms 6 mc ms 2 [some (.ref l0), some (.int l1), some (.int l2), some (.int l3), none, none] [] h
  | 0, _, _, _, _, _, hs => nomatch hs
  | n + 1, _, _, _, _, _, hs => t_X14_nextsOf_2_b C  (k2 := s_X14_nextsOf_2  n) (fun _ _ _ _ _ hs => t_X14_nextsOf_2 C  n hs) hs
theorem hy_X14_nextsOf : yX14_nextsOf.cls ≠ "java/lang/invoke/MethodHandle" ∧ yX14_nextsOf.cls ≠ "java/lang/invoke/VarHandle" ∧ (parseMethodDescriptor yX14_nextsOf.desc).map (fun d => d.parameters.length) = some 2 := by decide +kernel
theorem T_X14_nextsOf (o : Nat) (a1 : Int32) (a2 : Int32) (h : aH) (r : aR) (h' : aH) (hs : s_X14_nextsOf o a1 a2 h = some (r, h')) : Mt yX14_nextsOf (Cond.code yX14_nextsOf cX14_nextsOf 6 (some .int) :: aTB) 6 153 0 0 [.ref o, .int a1, .int a2] h r h' := by
  unfold s_X14_nextsOf at hs
  refine Mt_of (k := 3) (by decide) rfl (fun p l e s m args below meth c D B0 X ws0 C => ?_)
  show Ev p l e { frames := 6, cells := 0, slots := 0, locals := 153 } s m args below meth c D B0 X ws0 r h' 0 0 6 0 0 0 [some (.ref o), some (.int a1), some (.int a2), none, none, none] [] h
  refine ev_iconst C (v := 0) dX14_nextsOf_0 (by decide) ?_
  refine ev_istore_n C (by decide) dX14_nextsOf_1 ?_
  exact (t_X14_nextsOf_2 C  FU hs)
end
-- X14_probe
theorem dX14_probe_0 : decode cX14_probe 0 = .ok (.aload_n 0, 1) := by decide +kernel
theorem dX14_probe_1 : decode cX14_probe 1 = .ok (.iconst 0, 1) := by decide +kernel
theorem dX14_probe_2 : decode cX14_probe 2 = .ok (.putfield 154, 3) := by decide +kernel
theorem dX14_probe_5 : decode cX14_probe 5 = .ok (.aload_n 0, 1) := by decide +kernel
theorem dX14_probe_6 : decode cX14_probe 6 = .ok (.iload_n 1, 1) := by decide +kernel
theorem dX14_probe_7 : decode cX14_probe 7 = .ok (.invokevirtual 474, 3) := by decide +kernel
theorem dX14_probe_10 : decode cX14_probe 10 = .ok (.ifCond .ne 9, 3) := by decide +kernel
theorem dX14_probe_13 : decode cX14_probe 13 = .ok (.aload_n 0, 1) := by decide +kernel
theorem dX14_probe_14 : decode cX14_probe 14 = .ok (.iconst 1, 1) := by decide +kernel
theorem dX14_probe_15 : decode cX14_probe 15 = .ok (.invokevirtual 360, 3) := by decide +kernel
theorem dX14_probe_18 : decode cX14_probe 18 = .ok (.ireturn, 1) := by decide +kernel
theorem dX14_probe_19 : decode cX14_probe 19 = .ok (.aload_n 0, 1) := by decide +kernel
theorem dX14_probe_20 : decode cX14_probe 20 = .ok (.invokevirtual 534, 3) := by decide +kernel
theorem dX14_probe_23 : decode cX14_probe 23 = .ok (.aload_n 0, 1) := by decide +kernel
theorem dX14_probe_24 : decode cX14_probe 24 = .ok (.iload_n 1, 1) := by decide +kernel
theorem dX14_probe_25 : decode cX14_probe 25 = .ok (.invokevirtual 537, 3) := by decide +kernel
theorem dX14_probe_28 : decode cX14_probe 28 = .ok (.ifCond .ne 9, 3) := by decide +kernel
theorem dX14_probe_31 : decode cX14_probe 31 = .ok (.aload_n 0, 1) := by decide +kernel
theorem dX14_probe_32 : decode cX14_probe 32 = .ok (.iconst 5, 1) := by decide +kernel
theorem dX14_probe_33 : decode cX14_probe 33 = .ok (.invokevirtual 360, 3) := by decide +kernel
theorem dX14_probe_36 : decode cX14_probe 36 = .ok (.ireturn, 1) := by decide +kernel
theorem dX14_probe_37 : decode cX14_probe 37 = .ok (.aload_n 0, 1) := by decide +kernel
theorem dX14_probe_38 : decode cX14_probe 38 = .ok (.iload_n 1, 1) := by decide +kernel
theorem dX14_probe_39 : decode cX14_probe 39 = .ok (.invokevirtual 540, 3) := by decide +kernel
theorem dX14_probe_42 : decode cX14_probe 42 = .ok (.istore_n 2, 1) := by decide +kernel
theorem dX14_probe_43 : decode cX14_probe 43 = .ok (.iconst (-1), 1) := by decide +kernel
theorem dX14_probe_44 : decode cX14_probe 44 = .ok (.istore_n 3, 1) := by decide +kernel
theorem dX14_probe_45 : decode cX14_probe 45 = .ok (.iconst (-1), 1) := by decide +kernel
theorem dX14_probe_46 : decode cX14_probe 46 = .ok (.istore 4, 2) := by decide +kernel
theorem dX14_probe_48 : decode cX14_probe 48 = .ok (.iconst 0, 1) := by decide +kernel
theorem dX14_probe_49 : decode cX14_probe 49 = .ok (.istore 5, 2) := by decide +kernel
theorem dX14_probe_51 : decode cX14_probe 51 = .ok (.iload 5, 2) := by decide +kernel
theorem dX14_probe_53 : decode cX14_probe 53 = .ok (.aload_n 0, 1) := by decide +kernel
theorem dX14_probe_54 : decode cX14_probe 54 = .ok (.getfield 382, 3) := by decide +kernel
theorem dX14_probe_57 : decode cX14_probe 57 = .ok (.if_icmp .ge 47, 3) := by decide +kernel
theorem dX14_probe_60 : decode cX14_probe 60 = .ok (.iload_n 2, 1) := by decide +kernel
theorem dX14_probe_61 : decode cX14_probe 61 = .ok (.iload 5, 2) := by decide +kernel
theorem dX14_probe_63 : decode cX14_probe 63 = .ok (.ishr, 1) := by decide +kernel
theorem dX14_probe_64 : decode cX14_probe 64 = .ok (.iconst 1, 1) := by decide +kernel
theorem dX14_probe_65 : decode cX14_probe 65 = .ok (.iand, 1) := by decide +kernel
theorem dX14_probe_66 : decode cX14_probe 66 = .ok (.ifCond .ne 6, 3) := by decide +kernel
theorem dX14_probe_69 : decode cX14_probe 69 = .ok (.goto 29, 3) := by decide +kernel
theorem dX14_probe_72 : decode cX14_probe 72 = .ok (.aload_n 0, 1) := by decide +kernel
theorem dX14_probe_73 : decode cX14_probe 73 = .ok (.iload_n 1, 1) := by decide +kernel
theorem dX14_probe_74 : decode cX14_probe 74 = .ok (.iload 5, 2) := by decide +kernel
theorem dX14_probe_76 : decode cX14_probe 76 = .ok (.invokevirtual 626, 3) := by decide +kernel
theorem dX14_probe_79 : decode cX14_probe 79 = .ok (.istore 6, 2) := by decide +kernel
theorem dX14_probe_81 : decode cX14_probe 81 = .ok (.iload 6, 2) := by decide +kernel
theorem dX14_probe_83 : decode cX14_probe 83 = .ok (.iload 4, 2) := by decide +kernel
theorem dX14_probe_85 : decode cX14_probe 85 = .ok (.if_icmp .gt 6, 3) := by decide +kernel
theorem dX14_probe_88 : decode cX14_probe 88 = .ok (.goto 10, 3) := by decide +kernel
theorem dX14_probe_91 : decode cX14_probe 91 = .ok (.iload 6, 2) := by decide +kernel
theorem dX14_probe_93 : decode cX14_probe 93 = .ok (.istore 4, 2) := by decide +kernel
theorem dX14_probe_95 : decode cX14_probe 95 = .ok (.iload 5, 2) := by decide +kernel
theorem dX14_probe_97 : decode cX14_probe 97 = .ok (.istore_n 3, 1) := by decide +kernel
theorem dX14_probe_98 : decode cX14_probe 98 = .ok (.iinc 5 1, 3) := by decide +kernel
theorem dX14_probe_101 : decode cX14_probe 101 = .ok (.goto (-50), 3) := by decide +kernel
theorem dX14_probe_104 : decode cX14_probe 104 = .ok (.aload_n 0, 1) := by decide +kernel
theorem dX14_probe_105 : decode cX14_probe 105 = .ok (.iload_n 3, 1) := by decide +kernel
theorem dX14_probe_106 : decode cX14_probe 106 = .ok (.invokevirtual 413, 3) := by decide +kernel
theorem dX14_probe_109 : decode cX14_probe 109 = .ok (.ireturn, 1) := by decide +kernel
def s_X14_probe_51_b  (k51 : Nat → Int32 → Int32 → Int32 → Int32 → Int32 → aH → aO) (l0 : Nat) (l1 : Int32) (l2 : Int32) (l3 : Int32) (l4 : Int32) (l5 : Int32) (h : aH) : aO :=
  (gI h (.ref l0) 14 21).bind fun x54 => if x54 ≤ l5 then (kO h l0 14 (cI (s_X14_done l0 l3 h) fun x106 h106 => some (.inl (some (.int x106)), h106))) else (if ((l2 >>> (l5 &&& 31)) &&& 1) = 0 then (k51 l0 l1 l2 l3 l4 (l5 + 1) h) else (kO h l0 14 (cI (s_X14_nextsOf l0 l1 l5 h) fun x76 h76 => if l4 < x76 then (k51 l0 l1 l2 l5 x76 (l5 + 1) h76) else (k51 l0 l1 l2 l3 l4 (l5 + 1) h76))))
def s_X14_probe_51  (n : Nat) : Nat → Int32 → Int32 → Int32 → Int32 → Int32 → aH → aO := lpF (fun _ _ _ _ _ _ _ => none) (s_X14_probe_51_b ) n
def s_X14_probe (o : Nat) (a1 : Int32) (h : aH) : aO :=
  (pF h (.ref o) 14 0 (.int 0)).bind fun h2 => kO h2 o 14 (cI (s_X14_isCell o a1 h2) fun x7 h7 => if x7 = 0 then (kO h7 o 14 (cI (s_X14_refused o 1 h7) fun x15 h15 => some (.inl (some (.int x15)), h15))) else (kO h7 o 14 (cN (s_X14_finds o h7) fun h20 => kO h20 o 14 (cI (s_X14_isSafe o a1 h20) fun x25 h25 => if x25 = 0 then (kO h25 o 14 (cI (s_X14_refused o 5 h25) fun x33 h33 => some (.inl (some (.int x33)), h33))) else (kO h25 o 14 (cI (s_X14_allowedOf o a1 h25) fun x39 h39 => s_X14_probe_51 FU o a1 x39 (-1) (-1) 0 h39))))))
section
variable {p : Program} {l : Launch} {e : Env} {s : State} {m : MethodId} {args : Array Value} {below : List Frame} {meth : Method} {c : Code} {D : va_G} {B0 : Nat} {X : Nat → Nat} {ws0 : va_W} {r : aR} {h' : aH} {mc ms : Nat}
theorem t_X14_probe_51_b (C : Cx p l s m args meth c B0 X RX14 "probe" cX14_probe 7 (some .int) [])   {k51 : Nat → Int32 → Int32 → Int32 → Int32 → Int32 → aH → aO} (K51 : ∀ (l0 : Nat) (l1 : Int32) (l2 : Int32) (l3 : Int32) (l4 : Int32) (l5 : Int32) (h : aH), k51 l0 l1 l2 l3 l4 l5 h = some (r, h') → Ev p l e { frames := 7, cells := mc, slots := ms, locals := 178 } s m args below meth c D B0 X ws0 r h' mc ms 7 mc ms 51 [some (.ref l0), some (.int l1), some (.int l2), some (.int l3), some (.int l4), some (.int l5), none] [] h) {l0 : Nat} {l1 : Int32} {l2 : Int32} {l3 : Int32} {l4 : Int32} {l5 : Int32} {h : aH} (hs : s_X14_probe_51_b  k51 l0 l1 l2 l3 l4 l5 h = some (r, h')) : Ev p l e { frames := 7, cells := mc, slots := ms, locals := 178 } s m args below meth c D B0 X ws0 r h' mc ms 7 mc ms 51 [some (.ref l0), some (.int l1), some (.int l2), some (.int l3), some (.int l4), some (.int l5), none] [] h := by
  unfold s_X14_probe_51_b at hs
  refine ev_iload C rfl dX14_probe_51 ?_
  refine ev_aload_n C (x := .ref l0) rfl trivial dX14_probe_53 ?_
  obtain ⟨x54, e54, hs⟩ := aB hs
  refine ev_get C (ci := 14) (k := 21) rfl wu_14 (by decide) wf_X14_382 (gI_F e54) dX14_probe_54 ?_
  refine ev_icmp_ge C (tgt := 104) (by decide) dX14_probe_57 (fun q57 => ?_) (fun q57 => ?_)
  · replace hs := (if_pos q57).symm.trans hs
    refine ev_aload_n C (x := .ref l0) rfl trivial dX14_probe_104 ?_
    refine ev_iload_n C rfl dX14_probe_105 ?_
    obtain ⟨eo106, hs⟩ := kO_at hs
    obtain ⟨x106, h106, e106, hs⟩ := cI_at hs
    refine ev_callV C (T_X14_done _ _ _ _ _ e106) (ci := 14) rfl eo106 wc_X14_done wm_X14_413 wi_X14_done ws_X14_done wz_X14 hy_X14_done ⟨(Nat.le_of_ble_eq_true rfl), (Nat.le_of_ble_eq_true rfl)⟩ ⟨(Nat.le_refl _), (Nat.le_refl _)⟩ (Nat.le_of_ble_eq_true rfl) rfl dX14_probe_106 ?_
    cases hs
    exact ev_iret C rfl rfl (Nat.le_refl _) (Nat.le_refl _) rfl dX14_probe_109
  · replace hs := (if_neg q57).symm.trans hs
    refine ev_iload_n C rfl dX14_probe_60 ?_
    refine ev_iload C rfl dX14_probe_61 ?_
    refine ev_ishr C dX14_probe_63 ?_
    refine ev_iconst C (v := 1) dX14_probe_64 (by decide) ?_
    refine ev_iand C dX14_probe_65 ?_
    refine ev_if_ne C (tgt := 72) (by decide) dX14_probe_66 (fun q66 => ?_) (fun q66 => ?_)
    · replace hs := (if_neg q66).symm.trans hs
      refine ev_aload_n C (x := .ref l0) rfl trivial dX14_probe_72 ?_
      refine ev_iload_n C rfl dX14_probe_73 ?_
      refine ev_iload C rfl dX14_probe_74 ?_
      obtain ⟨eo76, hs⟩ := kO_at hs
      obtain ⟨x76, h76, e76, hs⟩ := cI_at hs
      refine ev_callV C (T_X14_nextsOf _ _ _ _ _ _ e76) (ci := 14) rfl eo76 wc_X14_nextsOf wm_X14_626 wi_X14_nextsOf ws_X14_nextsOf wz_X14 hy_X14_nextsOf ⟨(Nat.le_of_ble_eq_true rfl), (Nat.le_of_ble_eq_true rfl)⟩ ⟨(Nat.le_refl _), (Nat.le_refl _)⟩ (Nat.le_of_ble_eq_true rfl) rfl dX14_probe_76 ?_
      refine ev_istore C (by decide) dX14_probe_79 ?_
      refine ev_iload C rfl dX14_probe_81 ?_
      refine ev_iload C rfl dX14_probe_83 ?_
      refine ev_icmp_gt C (tgt := 91) (by decide) dX14_probe_85 (fun q85 => ?_) (fun q85 => ?_)
      · replace hs := (if_pos q85).symm.trans hs
        refine ev_iload C rfl dX14_probe_91 ?_
        refine ev_istore C (by decide) dX14_probe_93 ?_
        refine ev_iload C rfl dX14_probe_95 ?_
        refine ev_istore_n C (by decide) dX14_probe_97 ?_
        refine ev_iinc C (i := 5) (n := 1) (x := l5) (v := l5 + 1) rfl (congrArg (fun z => l5 + z) (show Int32.ofInt 1 = 1 by decide)) (by decide) dX14_probe_98 ?_
        refine ev_goto C (tgt := 51) (by decide) dX14_probe_101 ?_
        exact Ev.keep [true, true, true, true, true, true, false] (K51 _ _ _ _ _ _ _ hs)
      · replace hs := (if_neg q85).symm.trans hs
        refine ev_goto C (tgt := 98) (by decide) dX14_probe_88 ?_
        refine ev_iinc C (i := 5) (n := 1) (x := l5) (v := l5 + 1) rfl (congrArg (fun z => l5 + z) (show Int32.ofInt 1 = 1 by decide)) (by decide) dX14_probe_98 ?_
        refine ev_goto C (tgt := 51) (by decide) dX14_probe_101 ?_
        exact Ev.keep [true, true, true, true, true, true, false] (K51 _ _ _ _ _ _ _ hs)
    · replace hs := (if_pos q66).symm.trans hs
      refine ev_goto C (tgt := 98) (by decide) dX14_probe_69 ?_
      refine ev_iinc C (i := 5) (n := 1) (x := l5) (v := l5 + 1) rfl (congrArg (fun z => l5 + z) (show Int32.ofInt 1 = 1 by decide)) (by decide) dX14_probe_98 ?_
      refine ev_goto C (tgt := 51) (by decide) dX14_probe_101 ?_
      exact (K51 _ _ _ _ _ _ _ hs)
theorem t_X14_probe_51 (C : Cx p l s m args meth c B0 X RX14 "probe" cX14_probe 7 (some .int) [])   : ∀ (n : Nat) {l0 : Nat} {l1 : Int32} {l2 : Int32} {l3 : Int32} {l4 : Int32} {l5 : Int32} {h : aH} (hs : s_X14_probe_51  n l0 l1 l2 l3 l4 l5 h = some (r, h')), Ev p l e { frames := 7, cells := mc, slots := ms, locals := 178 } s m args below meth c D B0 X ws0 r h' mc ms 7 mc ms 51 [some (.ref l0), some (.int l1), some (.int l2), some (.int l3), some (.int l4), some (.int l5), none] [] h
  | 0, _, _, _, _, _, _, _, hs => nomatch hs
  | n + 1, _, _, _, _, _, _, _, hs => t_X14_probe_51_b C  (k51 := s_X14_probe_51  n) (fun _ _ _ _ _ _ _ hs => t_X14_probe_51 C  n hs) hs
theorem hy_X14_probe : yX14_probe.cls ≠ "java/lang/invoke/MethodHandle" ∧ yX14_probe.cls ≠ "java/lang/invoke/VarHandle" ∧ (parseMethodDescriptor yX14_probe.desc).map (fun d => d.parameters.length) = some 1 := by decide +kernel
theorem T_X14_probe (o : Nat) (a1 : Int32) (h : aH) (r : aR) (h' : aH) (hs : s_X14_probe o a1 h = some (r, h')) : Mt yX14_probe (Cond.code yX14_probe cX14_probe 7 (some .int) :: aTB) 7 178 0 0 [.ref o, .int a1] h r h' := by
  unfold s_X14_probe at hs
  refine Mt_of (k := 5) (by decide) rfl (fun p l e s m args below meth c D B0 X ws0 C => ?_)
  show Ev p l e { frames := 7, cells := 0, slots := 0, locals := 178 } s m args below meth c D B0 X ws0 r h' 0 0 7 0 0 0 [some (.ref o), some (.int a1), none, none, none, none, none] [] h
  refine ev_aload_n C (x := .ref o) rfl trivial dX14_probe_0 ?_
  refine ev_iconst C (v := 0) dX14_probe_1 (by decide) ?_
  obtain ⟨h2, e2, hs⟩ := aB hs
  refine ev_put C (ci := 14) (k := 0) rfl wu_14 (by decide) tyX14 tyX14_ok nmX14 wf_X14_154 rfl trivial e2 dX14_probe_2 ?_
  refine ev_aload_n C (x := .ref o) rfl trivial dX14_probe_5 ?_
  refine ev_iload_n C rfl dX14_probe_6 ?_
  obtain ⟨eo7, hs⟩ := kO_at hs
  obtain ⟨x7, h7, e7, hs⟩ := cI_at hs
  refine ev_callV C (T_X14_isCell _ _ _ _ _ e7) (ci := 14) rfl eo7 wc_X14_isCell wm_X14_474 wi_X14_isCell ws_X14_isCell wz_X14 hy_X14_isCell ⟨(Nat.le_of_ble_eq_true rfl), (Nat.le_of_ble_eq_true rfl)⟩ ⟨(Nat.le_refl _), (Nat.le_refl _)⟩ (Nat.le_of_ble_eq_true rfl) rfl dX14_probe_7 ?_
  refine ev_if_ne C (tgt := 19) (by decide) dX14_probe_10 (fun q10 => ?_) (fun q10 => ?_)
  · replace hs := (if_neg q10).symm.trans hs
    refine ev_aload_n C (x := .ref o) rfl trivial dX14_probe_19 ?_
    obtain ⟨eo20, hs⟩ := kO_at hs
    obtain ⟨h20, e20, hs⟩ := cN_at hs
    refine ev_callV C (T_X14_finds _ _ _ _ e20) (ci := 14) rfl eo20 wc_X14_finds wm_X14_534 wi_X14_finds ws_X14_finds wz_X14 hy_X14_finds ⟨(Nat.le_of_ble_eq_true rfl), (Nat.le_of_ble_eq_true rfl)⟩ ⟨(Nat.le_refl _), (Nat.le_refl _)⟩ (Nat.le_of_ble_eq_true rfl) rfl dX14_probe_20 ?_
    refine ev_aload_n C (x := .ref o) rfl trivial dX14_probe_23 ?_
    refine ev_iload_n C rfl dX14_probe_24 ?_
    obtain ⟨eo25, hs⟩ := kO_at hs
    obtain ⟨x25, h25, e25, hs⟩ := cI_at hs
    refine ev_callV C (T_X14_isSafe _ _ _ _ _ e25) (ci := 14) rfl eo25 wc_X14_isSafe wm_X14_537 wi_X14_isSafe ws_X14_isSafe wz_X14 hy_X14_isSafe ⟨(Nat.le_of_ble_eq_true rfl), (Nat.le_of_ble_eq_true rfl)⟩ ⟨(Nat.le_refl _), (Nat.le_refl _)⟩ (Nat.le_of_ble_eq_true rfl) rfl dX14_probe_25 ?_
    refine ev_if_ne C (tgt := 37) (by decide) dX14_probe_28 (fun q28 => ?_) (fun q28 => ?_)
    · replace hs := (if_neg q28).symm.trans hs
      refine ev_aload_n C (x := .ref o) rfl trivial dX14_probe_37 ?_
      refine ev_iload_n C rfl dX14_probe_38 ?_
      obtain ⟨eo39, hs⟩ := kO_at hs
      obtain ⟨x39, h39, e39, hs⟩ := cI_at hs
      refine ev_callV C (T_X14_allowedOf _ _ _ _ _ e39) (ci := 14) rfl eo39 wc_X14_allowedOf wm_X14_540 wi_X14_allowedOf ws_X14_allowedOf wz_X14 hy_X14_allowedOf ⟨(Nat.le_of_ble_eq_true rfl), (Nat.le_of_ble_eq_true rfl)⟩ ⟨(Nat.le_refl _), (Nat.le_refl _)⟩ (Nat.le_of_ble_eq_true rfl) rfl dX14_probe_39 ?_
      refine ev_istore_n C (by decide) dX14_probe_42 ?_
      refine ev_iconst C (v := (-1)) dX14_probe_43 (by decide) ?_
      refine ev_istore_n C (by decide) dX14_probe_44 ?_
      refine ev_iconst C (v := (-1)) dX14_probe_45 (by decide) ?_
      refine ev_istore C (by decide) dX14_probe_46 ?_
      refine ev_iconst C (v := 0) dX14_probe_48 (by decide) ?_
      refine ev_istore C (by decide) dX14_probe_49 ?_
      exact (t_X14_probe_51 C  FU hs)
    · replace hs := (if_pos q28).symm.trans hs
      refine ev_aload_n C (x := .ref o) rfl trivial dX14_probe_31 ?_
      refine ev_iconst C (v := 5) dX14_probe_32 (by decide) ?_
      obtain ⟨eo33, hs⟩ := kO_at hs
      obtain ⟨x33, h33, e33, hs⟩ := cI_at hs
      refine ev_callV C (T_X14_refused _ _ _ _ _ e33) (ci := 14) rfl eo33 wc_X14_refused wm_X14_360 wi_X14_refused ws_X14_refused wz_X14 hy_X14_refused ⟨(Nat.le_of_ble_eq_true rfl), (Nat.le_of_ble_eq_true rfl)⟩ ⟨(Nat.le_refl _), (Nat.le_refl _)⟩ (Nat.le_of_ble_eq_true rfl) rfl dX14_probe_33 ?_
      cases hs
      exact ev_iret C rfl rfl (Nat.le_refl _) (Nat.le_refl _) rfl dX14_probe_36
  · replace hs := (if_pos q10).symm.trans hs
    refine ev_aload_n C (x := .ref o) rfl trivial dX14_probe_13 ?_
    refine ev_iconst C (v := 1) dX14_probe_14 (by decide) ?_
    obtain ⟨eo15, hs⟩ := kO_at hs
    obtain ⟨x15, h15, e15, hs⟩ := cI_at hs
    refine ev_callV C (T_X14_refused _ _ _ _ _ e15) (ci := 14) rfl eo15 wc_X14_refused wm_X14_360 wi_X14_refused ws_X14_refused wz_X14 hy_X14_refused ⟨(Nat.le_of_ble_eq_true rfl), (Nat.le_of_ble_eq_true rfl)⟩ ⟨(Nat.le_refl _), (Nat.le_refl _)⟩ (Nat.le_of_ble_eq_true rfl) rfl dX14_probe_15 ?_
    cases hs
    exact ev_iret C rfl rfl (Nat.le_refl _) (Nat.le_refl _) rfl dX14_probe_18
end
-- X14_anew
theorem dX14_anew_0 : decode cX14_anew 0 = .ok (.aload_n 0, 1) := by decide +kernel
theorem dX14_anew_1 : decode cX14_anew 1 = .ok (.iconst 0, 1) := by decide +kernel
theorem dX14_anew_2 : decode cX14_anew 2 = .ok (.putfield 154, 3) := by decide +kernel
theorem dX14_anew_5 : decode cX14_anew 5 = .ok (.aload_n 0, 1) := by decide +kernel
theorem dX14_anew_6 : decode cX14_anew 6 = .ok (.getfield 376, 3) := by decide +kernel
theorem dX14_anew_9 : decode cX14_anew 9 = .ok (.ifnonnull 9, 3) := by decide +kernel
theorem dX14_anew_12 : decode cX14_anew 12 = .ok (.aload_n 0, 1) := by decide +kernel
theorem dX14_anew_13 : decode cX14_anew 13 = .ok (.iconst 1, 1) := by decide +kernel
theorem dX14_anew_14 : decode cX14_anew 14 = .ok (.invokevirtual 360, 3) := by decide +kernel
theorem dX14_anew_17 : decode cX14_anew 17 = .ok (.ireturn, 1) := by decide +kernel
theorem dX14_anew_18 : decode cX14_anew 18 = .ok (.aload_n 0, 1) := by decide +kernel
theorem dX14_anew_19 : decode cX14_anew 19 = .ok (.getfield 471, 3) := by decide +kernel
theorem dX14_anew_22 : decode cX14_anew 22 = .ok (.istore_n 1, 1) := by decide +kernel
theorem dX14_anew_23 : decode cX14_anew 23 = .ok (.aload_n 0, 1) := by decide +kernel
theorem dX14_anew_24 : decode cX14_anew 24 = .ok (.invokevirtual 403, 3) := by decide +kernel
theorem dX14_anew_27 : decode cX14_anew 27 = .ok (.aload_n 0, 1) := by decide +kernel
theorem dX14_anew_28 : decode cX14_anew 28 = .ok (.iload_n 1, 1) := by decide +kernel
theorem dX14_anew_29 : decode cX14_anew 29 = .ok (.invokevirtual 413, 3) := by decide +kernel
theorem dX14_anew_32 : decode cX14_anew 32 = .ok (.ireturn, 1) := by decide +kernel
def s_X14_anew (o : Nat) (h : aH) : aO :=
  (pF h (.ref o) 14 0 (.int 0)).bind fun h2 => (gW h2 (.ref o) 14 4).bind fun x6 => match x6 with | .null => (kO h2 o 14 (cI (s_X14_refused o 1 h2) fun x14 h14 => some (.inl (some (.int x14)), h14))) | .ref n9 => ((gI h2 (.ref o) 14 59).bind fun x19 => kO h2 o 14 (cN (s_X14_forgets o h2) fun h24 => kO h24 o 14 (cI (s_X14_done o x19 h24) fun x29 h29 => some (.inl (some (.int x29)), h29)))) | _ => none
section
variable {p : Program} {l : Launch} {e : Env} {s : State} {m : MethodId} {args : Array Value} {below : List Frame} {meth : Method} {c : Code} {D : va_G} {B0 : Nat} {X : Nat → Nat} {ws0 : va_W} {r : aR} {h' : aH} {mc ms : Nat}
theorem hy_X14_anew : yX14_anew.cls ≠ "java/lang/invoke/MethodHandle" ∧ yX14_anew.cls ≠ "java/lang/invoke/VarHandle" ∧ (parseMethodDescriptor yX14_anew.desc).map (fun d => d.parameters.length) = some 0 := by decide +kernel
theorem T_X14_anew (o : Nat) (h : aH) (r : aR) (h' : aH) (hs : s_X14_anew o h = some (r, h')) : Mt yX14_anew (Cond.code yX14_anew cX14_anew 2 (some .int) :: aTB) 1 21 0 0 [.ref o] h r h' := by
  unfold s_X14_anew at hs
  refine Mt_of (k := 1) (by decide) rfl (fun p l e s m args below meth c D B0 X ws0 C => ?_)
  show Ev p l e { frames := 1, cells := 0, slots := 0, locals := 21 } s m args below meth c D B0 X ws0 r h' 0 0 2 0 0 0 [some (.ref o), none] [] h
  refine ev_aload_n C (x := .ref o) rfl trivial dX14_anew_0 ?_
  refine ev_iconst C (v := 0) dX14_anew_1 (by decide) ?_
  obtain ⟨h2, e2, hs⟩ := aB hs
  refine ev_put C (ci := 14) (k := 0) rfl wu_14 (by decide) tyX14 tyX14_ok nmX14 wf_X14_154 rfl trivial e2 dX14_anew_2 ?_
  refine ev_aload_n C (x := .ref o) rfl trivial dX14_anew_5 ?_
  obtain ⟨x6, e6, hs⟩ := aB hs
  refine ev_get C (ci := 14) (k := 4) rfl wu_14 (by decide) wf_X14_376 (gW_F e6).1 dX14_anew_6 ?_
  cases x6 with
  | null =>
    refine ev_ifnonnull_n C dX14_anew_9 ?_
    refine ev_aload_n C (x := .ref o) rfl trivial dX14_anew_12 ?_
    refine ev_iconst C (v := 1) dX14_anew_13 (by decide) ?_
    obtain ⟨eo14, hs⟩ := kO_at hs
    obtain ⟨x14, h14, e14, hs⟩ := cI_at hs
    refine ev_callV C (T_X14_refused _ _ _ _ _ e14) (ci := 14) rfl eo14 wc_X14_refused wm_X14_360 wi_X14_refused ws_X14_refused wz_X14 hy_X14_refused ⟨(Nat.le_of_ble_eq_true rfl), (Nat.le_of_ble_eq_true rfl)⟩ ⟨(Nat.le_refl _), (Nat.le_refl _)⟩ (Nat.le_of_ble_eq_true rfl) rfl dX14_anew_14 ?_
    cases hs
    exact ev_iret C rfl rfl (Nat.le_refl _) (Nat.le_refl _) rfl dX14_anew_17
  | ref n9 =>
    refine ev_ifnonnull_r C (tgt := 18) (by decide) dX14_anew_9 ?_
    refine ev_aload_n C (x := .ref o) rfl trivial dX14_anew_18 ?_
    obtain ⟨x19, e19, hs⟩ := aB hs
    refine ev_get C (ci := 14) (k := 59) rfl wu_14 (by decide) wf_X14_471 (gI_F e19) dX14_anew_19 ?_
    refine ev_istore_n C (by decide) dX14_anew_22 ?_
    refine ev_aload_n C (x := .ref o) rfl trivial dX14_anew_23 ?_
    obtain ⟨eo24, hs⟩ := kO_at hs
    obtain ⟨h24, e24, hs⟩ := cN_at hs
    refine ev_callV C (T_X14_forgets _ _ _ _ e24) (ci := 14) rfl eo24 wc_X14_forgets wm_X14_403 wi_X14_forgets ws_X14_forgets wz_X14 hy_X14_forgets ⟨(Nat.le_of_ble_eq_true rfl), (Nat.le_of_ble_eq_true rfl)⟩ ⟨(Nat.le_refl _), (Nat.le_refl _)⟩ (Nat.le_of_ble_eq_true rfl) rfl dX14_anew_24 ?_
    refine ev_aload_n C (x := .ref o) rfl trivial dX14_anew_27 ?_
    refine ev_iload_n C rfl dX14_anew_28 ?_
    obtain ⟨eo29, hs⟩ := kO_at hs
    obtain ⟨x29, h29, e29, hs⟩ := cI_at hs
    refine ev_callV C (T_X14_done _ _ _ _ _ e29) (ci := 14) rfl eo29 wc_X14_done wm_X14_413 wi_X14_done ws_X14_done wz_X14 hy_X14_done ⟨(Nat.le_of_ble_eq_true rfl), (Nat.le_of_ble_eq_true rfl)⟩ ⟨(Nat.le_refl _), (Nat.le_refl _)⟩ (Nat.le_of_ble_eq_true rfl) rfl dX14_anew_29 ?_
    cases hs
    exact ev_iret C rfl rfl (Nat.le_refl _) (Nat.le_refl _) rfl dX14_anew_32
  | _ => cases hs
end
-- X14_isOne
theorem dX14_isOne_0 : decode cX14_isOne 0 = .ok (.aload_n 0, 1) := by decide +kernel
theorem dX14_isOne_1 : decode cX14_isOne 1 = .ok (.getfield 376, 3) := by decide +kernel
theorem dX14_isOne_4 : decode cX14_isOne 4 = .ok (.getfield 252, 3) := by decide +kernel
theorem dX14_isOne_7 : decode cX14_isOne 7 = .ok (.iconst 1, 1) := by decide +kernel
theorem dX14_isOne_8 : decode cX14_isOne 8 = .ok (.iaload, 1) := by decide +kernel
theorem dX14_isOne_9 : decode cX14_isOne 9 = .ok (.iconst 1, 1) := by decide +kernel
theorem dX14_isOne_10 : decode cX14_isOne 10 = .ok (.if_icmp .ne 7, 3) := by decide +kernel
theorem dX14_isOne_13 : decode cX14_isOne 13 = .ok (.iconst 1, 1) := by decide +kernel
theorem dX14_isOne_14 : decode cX14_isOne 14 = .ok (.goto 4, 3) := by decide +kernel
theorem dX14_isOne_17 : decode cX14_isOne 17 = .ok (.iconst 0, 1) := by decide +kernel
theorem dX14_isOne_18 : decode cX14_isOne 18 = .ok (.ireturn, 1) := by decide +kernel
def s_X14_isOne (o : Nat) (h : aH) : aO :=
  (gO h (.ref o) 14 4).bind fun x1 => (gO h (.ref x1) 13 0).bind fun x4 => (ldI .int h (.ref x4) 1).bind fun x8 => if x8 = 1 then (rtZ 1 h) else (rtZ 0 h)
section
variable {p : Program} {l : Launch} {e : Env} {s : State} {m : MethodId} {args : Array Value} {below : List Frame} {meth : Method} {c : Code} {D : va_G} {B0 : Nat} {X : Nat → Nat} {ws0 : va_W} {r : aR} {h' : aH} {mc ms : Nat}
theorem hy_X14_isOne : yX14_isOne.cls ≠ "java/lang/invoke/MethodHandle" ∧ yX14_isOne.cls ≠ "java/lang/invoke/VarHandle" ∧ (parseMethodDescriptor yX14_isOne.desc).map (fun d => d.parameters.length) = some 0 := by decide +kernel
theorem T_X14_isOne (o : Nat) (h : aH) (r : aR) (h' : aH) (hs : s_X14_isOne o h = some (r, h')) : Mt yX14_isOne (Cond.code yX14_isOne cX14_isOne 1 (some .boolean) :: aTB) 0 0 0 0 [.ref o] h r h' := by
  unfold s_X14_isOne at hs
  refine Mt_of (k := 0) (by decide) rfl (fun p l e s m args below meth c D B0 X ws0 C => ?_)
  show Ev p l e { frames := 0, cells := 0, slots := 0, locals := 0 } s m args below meth c D B0 X ws0 r h' 0 0 1 0 0 0 [some (.ref o)] [] h
  refine ev_aload_n C (x := .ref o) rfl trivial dX14_isOne_0 ?_
  obtain ⟨x1, e1, hs⟩ := aB hs
  refine ev_get C (ci := 14) (k := 4) rfl wu_14 (by decide) wf_X14_376 (gO_F e1) dX14_isOne_1 ?_
  obtain ⟨x4, e4, hs⟩ := aB hs
  refine ev_getN C (ci := 13) (k := 0) rfl wu_13 (by decide) wg_X14_252 (gO_F e4) dX14_isOne_4 ?_
  refine ev_iconst C (v := 1) dX14_isOne_7 (by decide) ?_
  obtain ⟨x8, e8, hs⟩ := aB hs
  refine ev_iald C e8 dX14_isOne_8 ?_
  refine ev_iconst C (v := 1) dX14_isOne_9 (by decide) ?_
  refine ev_icmp_ne C (tgt := 17) (by decide) dX14_isOne_10 (fun q10 => ?_) (fun q10 => ?_)
  · replace hs := (if_neg q10).symm.trans hs
    refine ev_iconst C (v := 0) dX14_isOne_17 (by decide) ?_
    obtain ⟨hz, rfl, rfl⟩ := rtZ_at hs
    exact ev_zret C rfl hz rfl (Nat.le_refl _) (Nat.le_refl _) rfl dX14_isOne_18
  · replace hs := (if_pos q10).symm.trans hs
    refine ev_iconst C (v := 1) dX14_isOne_13 (by decide) ?_
    refine ev_goto C (tgt := 18) (by decide) dX14_isOne_14 ?_
    obtain ⟨hz, rfl, rfl⟩ := rtZ_at hs
    exact ev_zret C rfl hz rfl (Nat.le_refl _) (Nat.le_refl _) rfl dX14_isOne_18
end
-- X14_code
theorem dX14_code_0 : decode cX14_code 0 = .ok (.aload_n 0, 1) := by decide +kernel
theorem dX14_code_1 : decode cX14_code 1 = .ok (.iconst 0, 1) := by decide +kernel
theorem dX14_code_2 : decode cX14_code 2 = .ok (.putfield 154, 3) := by decide +kernel
theorem dX14_code_5 : decode cX14_code 5 = .ok (.aload_n 0, 1) := by decide +kernel
theorem dX14_code_6 : decode cX14_code 6 = .ok (.getfield 376, 3) := by decide +kernel
theorem dX14_code_9 : decode cX14_code 9 = .ok (.ifnonnull 9, 3) := by decide +kernel
theorem dX14_code_12 : decode cX14_code 12 = .ok (.aload_n 0, 1) := by decide +kernel
theorem dX14_code_13 : decode cX14_code 13 = .ok (.iconst 1, 1) := by decide +kernel
theorem dX14_code_14 : decode cX14_code 14 = .ok (.invokevirtual 604, 3) := by decide +kernel
theorem dX14_code_17 : decode cX14_code 17 = .ok (.ireturn, 1) := by decide +kernel
theorem dX14_code_18 : decode cX14_code 18 = .ok (.aload_n 0, 1) := by decide +kernel
theorem dX14_code_19 : decode cX14_code 19 = .ok (.invokevirtual 629, 3) := by decide +kernel
theorem dX14_code_22 : decode cX14_code 22 = .ok (.ifCond .ne 9, 3) := by decide +kernel
theorem dX14_code_25 : decode cX14_code 25 = .ok (.aload_n 0, 1) := by decide +kernel
theorem dX14_code_26 : decode cX14_code 26 = .ok (.iconst 5, 1) := by decide +kernel
theorem dX14_code_27 : decode cX14_code 27 = .ok (.invokevirtual 604, 3) := by decide +kernel
theorem dX14_code_30 : decode cX14_code 30 = .ok (.ireturn, 1) := by decide +kernel
theorem dX14_code_31 : decode cX14_code 31 = .ok (.iload_n 1, 1) := by decide +kernel
theorem dX14_code_32 : decode cX14_code 32 = .ok (.bipush (-128), 2) := by decide +kernel
theorem dX14_code_34 : decode cX14_code 34 = .ok (.bipush 127, 2) := by decide +kernel
theorem dX14_code_36 : decode cX14_code 36 = .ok (.invokestatic 313, 3) := by decide +kernel
theorem dX14_code_39 : decode cX14_code 39 = .ok (.ifCond .eq 48, 3) := by decide +kernel
theorem dX14_code_42 : decode cX14_code 42 = .ok (.iload_n 2, 1) := by decide +kernel
theorem dX14_code_43 : decode cX14_code 43 = .ok (.bipush (-128), 2) := by decide +kernel
theorem dX14_code_45 : decode cX14_code 45 = .ok (.bipush 127, 2) := by decide +kernel
theorem dX14_code_47 : decode cX14_code 47 = .ok (.invokestatic 313, 3) := by decide +kernel
theorem dX14_code_50 : decode cX14_code 50 = .ok (.ifCond .eq 37, 3) := by decide +kernel
theorem dX14_code_53 : decode cX14_code 53 = .ok (.iload_n 3, 1) := by decide +kernel
theorem dX14_code_54 : decode cX14_code 54 = .ok (.bipush (-128), 2) := by decide +kernel
theorem dX14_code_56 : decode cX14_code 56 = .ok (.bipush 127, 2) := by decide +kernel
theorem dX14_code_58 : decode cX14_code 58 = .ok (.invokestatic 313, 3) := by decide +kernel
theorem dX14_code_61 : decode cX14_code 61 = .ok (.ifCond .eq 26, 3) := by decide +kernel
theorem dX14_code_64 : decode cX14_code 64 = .ok (.iload 4, 2) := by decide +kernel
theorem dX14_code_66 : decode cX14_code 66 = .ok (.bipush (-128), 2) := by decide +kernel
theorem dX14_code_68 : decode cX14_code 68 = .ok (.bipush 127, 2) := by decide +kernel
theorem dX14_code_70 : decode cX14_code 70 = .ok (.invokestatic 313, 3) := by decide +kernel
theorem dX14_code_73 : decode cX14_code 73 = .ok (.ifCond .eq 14, 3) := by decide +kernel
theorem dX14_code_76 : decode cX14_code 76 = .ok (.iload 5, 2) := by decide +kernel
theorem dX14_code_78 : decode cX14_code 78 = .ok (.iconst 0, 1) := by decide +kernel
theorem dX14_code_79 : decode cX14_code 79 = .ok (.bipush 7, 2) := by decide +kernel
theorem dX14_code_81 : decode cX14_code 81 = .ok (.invokestatic 313, 3) := by decide +kernel
theorem dX14_code_84 : decode cX14_code 84 = .ok (.ifCond .ne 9, 3) := by decide +kernel
theorem dX14_code_87 : decode cX14_code 87 = .ok (.aload_n 0, 1) := by decide +kernel
theorem dX14_code_88 : decode cX14_code 88 = .ok (.iconst 2, 1) := by decide +kernel
theorem dX14_code_89 : decode cX14_code 89 = .ok (.invokevirtual 604, 3) := by decide +kernel
theorem dX14_code_92 : decode cX14_code 92 = .ok (.ireturn, 1) := by decide +kernel
theorem dX14_code_93 : decode cX14_code 93 = .ok (.aload_n 0, 1) := by decide +kernel
theorem dX14_code_94 : decode cX14_code 94 = .ok (.getfield 148, 3) := by decide +kernel
theorem dX14_code_97 : decode cX14_code 97 = .ok (.iconst 0, 1) := by decide +kernel
theorem dX14_code_98 : decode cX14_code 98 = .ok (.iload_n 1, 1) := by decide +kernel
theorem dX14_code_99 : decode cX14_code 99 = .ok (.iastore, 1) := by decide +kernel
theorem dX14_code_100 : decode cX14_code 100 = .ok (.aload_n 0, 1) := by decide +kernel
theorem dX14_code_101 : decode cX14_code 101 = .ok (.getfield 148, 3) := by decide +kernel
theorem dX14_code_104 : decode cX14_code 104 = .ok (.iconst 1, 1) := by decide +kernel
theorem dX14_code_105 : decode cX14_code 105 = .ok (.iload_n 2, 1) := by decide +kernel
theorem dX14_code_106 : decode cX14_code 106 = .ok (.iastore, 1) := by decide +kernel
theorem dX14_code_107 : decode cX14_code 107 = .ok (.aload_n 0, 1) := by decide +kernel
theorem dX14_code_108 : decode cX14_code 108 = .ok (.getfield 148, 3) := by decide +kernel
theorem dX14_code_111 : decode cX14_code 111 = .ok (.iconst 2, 1) := by decide +kernel
theorem dX14_code_112 : decode cX14_code 112 = .ok (.iload_n 3, 1) := by decide +kernel
theorem dX14_code_113 : decode cX14_code 113 = .ok (.iastore, 1) := by decide +kernel
theorem dX14_code_114 : decode cX14_code 114 = .ok (.aload_n 0, 1) := by decide +kernel
theorem dX14_code_115 : decode cX14_code 115 = .ok (.iload 4, 2) := by decide +kernel
theorem dX14_code_117 : decode cX14_code 117 = .ok (.putfield 397, 3) := by decide +kernel
theorem dX14_code_120 : decode cX14_code 120 = .ok (.aload_n 0, 1) := by decide +kernel
theorem dX14_code_121 : decode cX14_code 121 = .ok (.iload 5, 2) := by decide +kernel
theorem dX14_code_123 : decode cX14_code 123 = .ok (.putfield 400, 3) := by decide +kernel
theorem dX14_code_126 : decode cX14_code 126 = .ok (.aload_n 0, 1) := by decide +kernel
theorem dX14_code_127 : decode cX14_code 127 = .ok (.invokevirtual 607, 3) := by decide +kernel
theorem dX14_code_130 : decode cX14_code 130 = .ok (.ireturn, 1) := by decide +kernel
def s_X14_code_87  (l0 : Nat) (h : aH) : aO :=
  kO h l0 14 (cI (s_X14_denied l0 2 h) fun x89 h89 => rtZ x89 h89)
def s_X14_code (o : Nat) (a1 : Int32) (a2 : Int32) (a3 : Int32) (a4 : Int32) (a5 : Int32) (h : aH) : aO :=
  (pF h (.ref o) 14 0 (.int 0)).bind fun h2 => (gW h2 (.ref o) 14 4).bind fun x6 => match x6 with | .null => (kO h2 o 14 (cI (s_X14_denied o 1 h2) fun x14 h14 => rtZ x14 h14)) | .ref n9 => (kO h2 o 14 (cI (s_X14_isOne o h2) fun x19 h19 => if x19 = 0 then (kO h19 o 14 (cI (s_X14_denied o 5 h19) fun x27 h27 => rtZ x27 h27)) else (cI (s_X14_in a1 (-128) 127 h19) fun x36 h36 => if x36 = 0 then (s_X14_code_87 o h36) else (cI (s_X14_in a2 (-128) 127 h36) fun x47 h47 => if x47 = 0 then (s_X14_code_87 o h47) else (cI (s_X14_in a3 (-128) 127 h47) fun x58 h58 => if x58 = 0 then (s_X14_code_87 o h58) else (cI (s_X14_in a4 (-128) 127 h58) fun x70 h70 => if x70 = 0 then (s_X14_code_87 o h70) else (cI (s_X14_in a5 0 7 h70) fun x81 h81 => if x81 = 0 then (s_X14_code_87 o h81) else ((gO h81 (.ref o) 14 66).bind fun x94 => (stI h81 (.ref x94) 0 a1).bind fun h99 => (gO h99 (.ref o) 14 66).bind fun x101 => (stI h99 (.ref x101) 1 a2).bind fun h106 => (gO h106 (.ref o) 14 66).bind fun x108 => (stI h106 (.ref x108) 2 a3).bind fun h113 => (pF h113 (.ref o) 14 67 (.int a4)).bind fun h117 => (pF h117 (.ref o) 14 68 (.int a5)).bind fun h123 => kO h123 o 14 (cI (s_X14_granted o h123) fun x127 h127 => rtZ x127 h127))))))))) | _ => none
section
variable {p : Program} {l : Launch} {e : Env} {s : State} {m : MethodId} {args : Array Value} {below : List Frame} {meth : Method} {c : Code} {D : va_G} {B0 : Nat} {X : Nat → Nat} {ws0 : va_W} {r : aR} {h' : aH} {mc ms : Nat}
theorem t_X14_code_87 (C : Cx p l s m args meth c B0 X RX14 "code" cX14_code 6 (some .boolean) [])   {l0 : Nat} {h : aH} (hs : s_X14_code_87  l0 h = some (r, h')) : Ev p l e { frames := 1, cells := mc, slots := ms, locals := 22 } s m args below meth c D B0 X ws0 r h' mc ms 6 mc ms 87 [some (.ref l0), none, none, none, none, none] [] h := by
  unfold s_X14_code_87 at hs
  refine ev_aload_n C (x := .ref l0) rfl trivial dX14_code_87 ?_
  refine ev_iconst C (v := 2) dX14_code_88 (by decide) ?_
  obtain ⟨eo89, hs⟩ := kO_at hs
  obtain ⟨x89, h89, e89, hs⟩ := cI_at hs
  refine ev_callV C (T_X14_denied _ _ _ _ _ e89) (ci := 14) rfl eo89 wc_X14_denied wm_X14_604 wi_X14_denied ws_X14_denied wz_X14 hy_X14_denied ⟨(Nat.le_of_ble_eq_true rfl), (Nat.le_of_ble_eq_true rfl)⟩ ⟨(Nat.le_refl _), (Nat.le_refl _)⟩ (Nat.le_of_ble_eq_true rfl) rfl dX14_code_89 ?_
  obtain ⟨hz, rfl, rfl⟩ := rtZ_at hs
  exact ev_zret C rfl hz rfl (Nat.le_refl _) (Nat.le_refl _) rfl dX14_code_92
theorem hy_X14_code : yX14_code.cls ≠ "java/lang/invoke/MethodHandle" ∧ yX14_code.cls ≠ "java/lang/invoke/VarHandle" ∧ (parseMethodDescriptor yX14_code.desc).map (fun d => d.parameters.length) = some 5 := by decide +kernel
theorem T_X14_code (o : Nat) (a1 : Int32) (a2 : Int32) (a3 : Int32) (a4 : Int32) (a5 : Int32) (h : aH) (r : aR) (h' : aH) (hs : s_X14_code o a1 a2 a3 a4 a5 h = some (r, h')) : Mt yX14_code (Cond.code yX14_code cX14_code 6 (some .boolean) :: aTB) 1 22 0 0 [.ref o, .int a1, .int a2, .int a3, .int a4, .int a5] h r h' := by
  unfold s_X14_code at hs
  refine Mt_of (k := 0) (by decide) rfl (fun p l e s m args below meth c D B0 X ws0 C => ?_)
  show Ev p l e { frames := 1, cells := 0, slots := 0, locals := 22 } s m args below meth c D B0 X ws0 r h' 0 0 6 0 0 0 [some (.ref o), some (.int a1), some (.int a2), some (.int a3), some (.int a4), some (.int a5)] [] h
  refine ev_aload_n C (x := .ref o) rfl trivial dX14_code_0 ?_
  refine ev_iconst C (v := 0) dX14_code_1 (by decide) ?_
  obtain ⟨h2, e2, hs⟩ := aB hs
  refine ev_put C (ci := 14) (k := 0) rfl wu_14 (by decide) tyX14 tyX14_ok nmX14 wf_X14_154 rfl trivial e2 dX14_code_2 ?_
  refine ev_aload_n C (x := .ref o) rfl trivial dX14_code_5 ?_
  obtain ⟨x6, e6, hs⟩ := aB hs
  refine ev_get C (ci := 14) (k := 4) rfl wu_14 (by decide) wf_X14_376 (gW_F e6).1 dX14_code_6 ?_
  cases x6 with
  | null =>
    refine ev_ifnonnull_n C dX14_code_9 ?_
    refine ev_aload_n C (x := .ref o) rfl trivial dX14_code_12 ?_
    refine ev_iconst C (v := 1) dX14_code_13 (by decide) ?_
    obtain ⟨eo14, hs⟩ := kO_at hs
    obtain ⟨x14, h14, e14, hs⟩ := cI_at hs
    refine ev_callV C (T_X14_denied _ _ _ _ _ e14) (ci := 14) rfl eo14 wc_X14_denied wm_X14_604 wi_X14_denied ws_X14_denied wz_X14 hy_X14_denied ⟨(Nat.le_of_ble_eq_true rfl), (Nat.le_of_ble_eq_true rfl)⟩ ⟨(Nat.le_refl _), (Nat.le_refl _)⟩ (Nat.le_of_ble_eq_true rfl) rfl dX14_code_14 ?_
    obtain ⟨hz, rfl, rfl⟩ := rtZ_at hs
    exact ev_zret C rfl hz rfl (Nat.le_refl _) (Nat.le_refl _) rfl dX14_code_17
  | ref n9 =>
    refine ev_ifnonnull_r C (tgt := 18) (by decide) dX14_code_9 ?_
    refine ev_aload_n C (x := .ref o) rfl trivial dX14_code_18 ?_
    obtain ⟨eo19, hs⟩ := kO_at hs
    obtain ⟨x19, h19, e19, hs⟩ := cI_at hs
    refine ev_callV C (T_X14_isOne _ _ _ _ e19) (ci := 14) rfl eo19 wc_X14_isOne wm_X14_629 wi_X14_isOne ws_X14_isOne wz_X14 hy_X14_isOne ⟨(Nat.le_of_ble_eq_true rfl), (Nat.le_of_ble_eq_true rfl)⟩ ⟨(Nat.le_refl _), (Nat.le_refl _)⟩ (Nat.le_of_ble_eq_true rfl) rfl dX14_code_19 ?_
    refine ev_if_ne C (tgt := 31) (by decide) dX14_code_22 (fun q22 => ?_) (fun q22 => ?_)
    · replace hs := (if_neg q22).symm.trans hs
      refine ev_iload_n C rfl dX14_code_31 ?_
      refine ev_bipush C (v := (-128)) dX14_code_32 (by decide) ?_
      refine ev_bipush C (v := 127) dX14_code_34 (by decide) ?_
      obtain ⟨x36, h36, e36, hs⟩ := cI_at hs
      refine ev_callS C (T_X14_in _ _ _ _ _ _ e36) wc_X14_in wm_X14_313 wt_X14_in wz_X14 hy_X14_in ⟨(Nat.le_of_ble_eq_true rfl), (Nat.le_of_ble_eq_true rfl)⟩ ⟨(Nat.le_refl _), (Nat.le_refl _)⟩ (Nat.le_of_ble_eq_true rfl) rfl dX14_code_36 ?_
      refine ev_if_eq C (tgt := 87) (by decide) dX14_code_39 (fun q39 => ?_) (fun q39 => ?_)
      · replace hs := (if_pos q39).symm.trans hs
        exact Ev.keep [true, false, false, false, false, false] (t_X14_code_87 C  hs)
      · replace hs := (if_neg q39).symm.trans hs
        refine ev_iload_n C rfl dX14_code_42 ?_
        refine ev_bipush C (v := (-128)) dX14_code_43 (by decide) ?_
        refine ev_bipush C (v := 127) dX14_code_45 (by decide) ?_
        obtain ⟨x47, h47, e47, hs⟩ := cI_at hs
        refine ev_callS C (T_X14_in _ _ _ _ _ _ e47) wc_X14_in wm_X14_313 wt_X14_in wz_X14 hy_X14_in ⟨(Nat.le_of_ble_eq_true rfl), (Nat.le_of_ble_eq_true rfl)⟩ ⟨(Nat.le_refl _), (Nat.le_refl _)⟩ (Nat.le_of_ble_eq_true rfl) rfl dX14_code_47 ?_
        refine ev_if_eq C (tgt := 87) (by decide) dX14_code_50 (fun q50 => ?_) (fun q50 => ?_)
        · replace hs := (if_pos q50).symm.trans hs
          exact Ev.keep [true, false, false, false, false, false] (t_X14_code_87 C  hs)
        · replace hs := (if_neg q50).symm.trans hs
          refine ev_iload_n C rfl dX14_code_53 ?_
          refine ev_bipush C (v := (-128)) dX14_code_54 (by decide) ?_
          refine ev_bipush C (v := 127) dX14_code_56 (by decide) ?_
          obtain ⟨x58, h58, e58, hs⟩ := cI_at hs
          refine ev_callS C (T_X14_in _ _ _ _ _ _ e58) wc_X14_in wm_X14_313 wt_X14_in wz_X14 hy_X14_in ⟨(Nat.le_of_ble_eq_true rfl), (Nat.le_of_ble_eq_true rfl)⟩ ⟨(Nat.le_refl _), (Nat.le_refl _)⟩ (Nat.le_of_ble_eq_true rfl) rfl dX14_code_58 ?_
          refine ev_if_eq C (tgt := 87) (by decide) dX14_code_61 (fun q61 => ?_) (fun q61 => ?_)
          · replace hs := (if_pos q61).symm.trans hs
            exact Ev.keep [true, false, false, false, false, false] (t_X14_code_87 C  hs)
          · replace hs := (if_neg q61).symm.trans hs
            refine ev_iload C rfl dX14_code_64 ?_
            refine ev_bipush C (v := (-128)) dX14_code_66 (by decide) ?_
            refine ev_bipush C (v := 127) dX14_code_68 (by decide) ?_
            obtain ⟨x70, h70, e70, hs⟩ := cI_at hs
            refine ev_callS C (T_X14_in _ _ _ _ _ _ e70) wc_X14_in wm_X14_313 wt_X14_in wz_X14 hy_X14_in ⟨(Nat.le_of_ble_eq_true rfl), (Nat.le_of_ble_eq_true rfl)⟩ ⟨(Nat.le_refl _), (Nat.le_refl _)⟩ (Nat.le_of_ble_eq_true rfl) rfl dX14_code_70 ?_
            refine ev_if_eq C (tgt := 87) (by decide) dX14_code_73 (fun q73 => ?_) (fun q73 => ?_)
            · replace hs := (if_pos q73).symm.trans hs
              exact Ev.keep [true, false, false, false, false, false] (t_X14_code_87 C  hs)
            · replace hs := (if_neg q73).symm.trans hs
              refine ev_iload C rfl dX14_code_76 ?_
              refine ev_iconst C (v := 0) dX14_code_78 (by decide) ?_
              refine ev_bipush C (v := 7) dX14_code_79 (by decide) ?_
              obtain ⟨x81, h81, e81, hs⟩ := cI_at hs
              refine ev_callS C (T_X14_in _ _ _ _ _ _ e81) wc_X14_in wm_X14_313 wt_X14_in wz_X14 hy_X14_in ⟨(Nat.le_of_ble_eq_true rfl), (Nat.le_of_ble_eq_true rfl)⟩ ⟨(Nat.le_refl _), (Nat.le_refl _)⟩ (Nat.le_of_ble_eq_true rfl) rfl dX14_code_81 ?_
              refine ev_if_ne C (tgt := 93) (by decide) dX14_code_84 (fun q84 => ?_) (fun q84 => ?_)
              · replace hs := (if_neg q84).symm.trans hs
                refine ev_aload_n C (x := .ref o) rfl trivial dX14_code_93 ?_
                obtain ⟨x94, e94, hs⟩ := aB hs
                refine ev_get C (ci := 14) (k := 66) rfl wu_14 (by decide) wf_X14_148 (gO_F e94) dX14_code_94 ?_
                refine ev_iconst C (v := 0) dX14_code_97 (by decide) ?_
                refine ev_iload_n C rfl dX14_code_98 ?_
                obtain ⟨h99, e99, hs⟩ := aB hs
                refine ev_iast C e99 dX14_code_99 ?_
                refine ev_aload_n C (x := .ref o) rfl trivial dX14_code_100 ?_
                obtain ⟨x101, e101, hs⟩ := aB hs
                refine ev_get C (ci := 14) (k := 66) rfl wu_14 (by decide) wf_X14_148 (gO_F e101) dX14_code_101 ?_
                refine ev_iconst C (v := 1) dX14_code_104 (by decide) ?_
                refine ev_iload_n C rfl dX14_code_105 ?_
                obtain ⟨h106, e106, hs⟩ := aB hs
                refine ev_iast C e106 dX14_code_106 ?_
                refine ev_aload_n C (x := .ref o) rfl trivial dX14_code_107 ?_
                obtain ⟨x108, e108, hs⟩ := aB hs
                refine ev_get C (ci := 14) (k := 66) rfl wu_14 (by decide) wf_X14_148 (gO_F e108) dX14_code_108 ?_
                refine ev_iconst C (v := 2) dX14_code_111 (by decide) ?_
                refine ev_iload_n C rfl dX14_code_112 ?_
                obtain ⟨h113, e113, hs⟩ := aB hs
                refine ev_iast C e113 dX14_code_113 ?_
                refine ev_aload_n C (x := .ref o) rfl trivial dX14_code_114 ?_
                refine ev_iload C rfl dX14_code_115 ?_
                obtain ⟨h117, e117, hs⟩ := aB hs
                refine ev_put C (ci := 14) (k := 67) rfl wu_14 (by decide) tyX14 tyX14_ok nmX14 wf_X14_397 rfl trivial e117 dX14_code_117 ?_
                refine ev_aload_n C (x := .ref o) rfl trivial dX14_code_120 ?_
                refine ev_iload C rfl dX14_code_121 ?_
                obtain ⟨h123, e123, hs⟩ := aB hs
                refine ev_put C (ci := 14) (k := 68) rfl wu_14 (by decide) tyX14 tyX14_ok nmX14 wf_X14_400 rfl trivial e123 dX14_code_123 ?_
                refine ev_aload_n C (x := .ref o) rfl trivial dX14_code_126 ?_
                obtain ⟨eo127, hs⟩ := kO_at hs
                obtain ⟨x127, h127, e127, hs⟩ := cI_at hs
                refine ev_callV C (T_X14_granted _ _ _ _ e127) (ci := 14) rfl eo127 wc_X14_granted wm_X14_607 wi_X14_granted ws_X14_granted wz_X14 hy_X14_granted ⟨(Nat.le_of_ble_eq_true rfl), (Nat.le_of_ble_eq_true rfl)⟩ ⟨(Nat.le_refl _), (Nat.le_refl _)⟩ (Nat.le_of_ble_eq_true rfl) rfl dX14_code_127 ?_
                obtain ⟨hz, rfl, rfl⟩ := rtZ_at hs
                exact ev_zret C rfl hz rfl (Nat.le_refl _) (Nat.le_refl _) rfl dX14_code_130
              · replace hs := (if_pos q84).symm.trans hs
                exact Ev.keep [true, false, false, false, false, false] (t_X14_code_87 C  hs)
    · replace hs := (if_pos q22).symm.trans hs
      refine ev_aload_n C (x := .ref o) rfl trivial dX14_code_25 ?_
      refine ev_iconst C (v := 5) dX14_code_26 (by decide) ?_
      obtain ⟨eo27, hs⟩ := kO_at hs
      obtain ⟨x27, h27, e27, hs⟩ := cI_at hs
      refine ev_callV C (T_X14_denied _ _ _ _ _ e27) (ci := 14) rfl eo27 wc_X14_denied wm_X14_604 wi_X14_denied ws_X14_denied wz_X14 hy_X14_denied ⟨(Nat.le_of_ble_eq_true rfl), (Nat.le_of_ble_eq_true rfl)⟩ ⟨(Nat.le_refl _), (Nat.le_refl _)⟩ (Nat.le_of_ble_eq_true rfl) rfl dX14_code_27 ?_
      obtain ⟨hz, rfl, rfl⟩ := rtZ_at hs
      exact ev_zret C rfl hz rfl (Nat.le_refl _) (Nat.le_refl _) rfl dX14_code_30
  | _ => cases hs
end
-- X14_codedOf
theorem dX14_codedOf_0 : decode cX14_codedOf 0 = .ok (.aload_n 0, 1) := by decide +kernel
theorem dX14_codedOf_1 : decode cX14_codedOf 1 = .ok (.iload_n 1, 1) := by decide +kernel
theorem dX14_codedOf_2 : decode cX14_codedOf 2 = .ok (.invokevirtual 416, 3) := by decide +kernel
theorem dX14_codedOf_5 : decode cX14_codedOf 5 = .ok (.aload_n 0, 1) := by decide +kernel
theorem dX14_codedOf_6 : decode cX14_codedOf 6 = .ok (.getfield 397, 3) := by decide +kernel
theorem dX14_codedOf_9 : decode cX14_codedOf 9 = .ok (.aload_n 0, 1) := by decide +kernel
theorem dX14_codedOf_10 : decode cX14_codedOf 10 = .ok (.getfield 400, 3) := by decide +kernel
theorem dX14_codedOf_13 : decode cX14_codedOf 13 = .ok (.ifCond .ne 7, 3) := by decide +kernel
theorem dX14_codedOf_16 : decode cX14_codedOf 16 = .ok (.iconst 0, 1) := by decide +kernel
theorem dX14_codedOf_17 : decode cX14_codedOf 17 = .ok (.goto 11, 3) := by decide +kernel
theorem dX14_codedOf_20 : decode cX14_codedOf 20 = .ok (.iconst 1, 1) := by decide +kernel
theorem dX14_codedOf_21 : decode cX14_codedOf 21 = .ok (.aload_n 0, 1) := by decide +kernel
theorem dX14_codedOf_22 : decode cX14_codedOf 22 = .ok (.getfield 400, 3) := by decide +kernel
theorem dX14_codedOf_25 : decode cX14_codedOf 25 = .ok (.iconst 1, 1) := by decide +kernel
theorem dX14_codedOf_26 : decode cX14_codedOf 26 = .ok (.isub, 1) := by decide +kernel
theorem dX14_codedOf_27 : decode cX14_codedOf 27 = .ok (.ishl, 1) := by decide +kernel
theorem dX14_codedOf_28 : decode cX14_codedOf 28 = .ok (.iadd, 1) := by decide +kernel
theorem dX14_codedOf_29 : decode cX14_codedOf 29 = .ok (.istore_n 2, 1) := by decide +kernel
theorem dX14_codedOf_30 : decode cX14_codedOf 30 = .ok (.iconst 0, 1) := by decide +kernel
theorem dX14_codedOf_31 : decode cX14_codedOf 31 = .ok (.istore_n 3, 1) := by decide +kernel
theorem dX14_codedOf_32 : decode cX14_codedOf 32 = .ok (.iload_n 3, 1) := by decide +kernel
theorem dX14_codedOf_33 : decode cX14_codedOf 33 = .ok (.aload_n 0, 1) := by decide +kernel
theorem dX14_codedOf_34 : decode cX14_codedOf 34 = .ok (.getfield 376, 3) := by decide +kernel
theorem dX14_codedOf_37 : decode cX14_codedOf 37 = .ok (.getfield 252, 3) := by decide +kernel
theorem dX14_codedOf_40 : decode cX14_codedOf 40 = .ok (.iconst 0, 1) := by decide +kernel
theorem dX14_codedOf_41 : decode cX14_codedOf 41 = .ok (.iaload, 1) := by decide +kernel
theorem dX14_codedOf_42 : decode cX14_codedOf 42 = .ok (.if_icmp .ge 25, 3) := by decide +kernel
theorem dX14_codedOf_45 : decode cX14_codedOf 45 = .ok (.iload_n 2, 1) := by decide +kernel
theorem dX14_codedOf_46 : decode cX14_codedOf 46 = .ok (.aload_n 0, 1) := by decide +kernel
theorem dX14_codedOf_47 : decode cX14_codedOf 47 = .ok (.getfield 148, 3) := by decide +kernel
theorem dX14_codedOf_50 : decode cX14_codedOf 50 = .ok (.iload_n 3, 1) := by decide +kernel
theorem dX14_codedOf_51 : decode cX14_codedOf 51 = .ok (.iaload, 1) := by decide +kernel
theorem dX14_codedOf_52 : decode cX14_codedOf 52 = .ok (.aload_n 0, 1) := by decide +kernel
theorem dX14_codedOf_53 : decode cX14_codedOf 53 = .ok (.getfield 44, 3) := by decide +kernel
theorem dX14_codedOf_56 : decode cX14_codedOf 56 = .ok (.iload_n 3, 1) := by decide +kernel
theorem dX14_codedOf_57 : decode cX14_codedOf 57 = .ok (.iaload, 1) := by decide +kernel
theorem dX14_codedOf_58 : decode cX14_codedOf 58 = .ok (.imul, 1) := by decide +kernel
theorem dX14_codedOf_59 : decode cX14_codedOf 59 = .ok (.iadd, 1) := by decide +kernel
theorem dX14_codedOf_60 : decode cX14_codedOf 60 = .ok (.istore_n 2, 1) := by decide +kernel
theorem dX14_codedOf_61 : decode cX14_codedOf 61 = .ok (.iinc 3 1, 3) := by decide +kernel
theorem dX14_codedOf_64 : decode cX14_codedOf 64 = .ok (.goto (-32), 3) := by decide +kernel
theorem dX14_codedOf_67 : decode cX14_codedOf 67 = .ok (.iconst 1, 1) := by decide +kernel
theorem dX14_codedOf_68 : decode cX14_codedOf 68 = .ok (.invokestatic 246, 3) := by decide +kernel
theorem dX14_codedOf_71 : decode cX14_codedOf 71 = .ok (.istore_n 3, 1) := by decide +kernel
theorem dX14_codedOf_72 : decode cX14_codedOf 72 = .ok (.aload_n 0, 1) := by decide +kernel
theorem dX14_codedOf_73 : decode cX14_codedOf 73 = .ok (.getfield 376, 3) := by decide +kernel
theorem dX14_codedOf_76 : decode cX14_codedOf 76 = .ok (.getfield 307, 3) := by decide +kernel
theorem dX14_codedOf_79 : decode cX14_codedOf 79 = .ok (.iload_n 3, 1) := by decide +kernel
theorem dX14_codedOf_80 : decode cX14_codedOf 80 = .ok (.iaload, 1) := by decide +kernel
theorem dX14_codedOf_81 : decode cX14_codedOf 81 = .ok (.aload_n 0, 1) := by decide +kernel
theorem dX14_codedOf_82 : decode cX14_codedOf 82 = .ok (.getfield 376, 3) := by decide +kernel
theorem dX14_codedOf_85 : decode cX14_codedOf 85 = .ok (.getfield 317, 3) := by decide +kernel
theorem dX14_codedOf_88 : decode cX14_codedOf 88 = .ok (.iload_n 3, 1) := by decide +kernel
theorem dX14_codedOf_89 : decode cX14_codedOf 89 = .ok (.iaload, 1) := by decide +kernel
theorem dX14_codedOf_90 : decode cX14_codedOf 90 = .ok (.iload_n 2, 1) := by decide +kernel
theorem dX14_codedOf_91 : decode cX14_codedOf 91 = .ok (.aload_n 0, 1) := by decide +kernel
theorem dX14_codedOf_92 : decode cX14_codedOf 92 = .ok (.getfield 400, 3) := by decide +kernel
theorem dX14_codedOf_95 : decode cX14_codedOf 95 = .ok (.ishr, 1) := by decide +kernel
theorem dX14_codedOf_96 : decode cX14_codedOf 96 = .ok (.invokestatic 511, 3) := by decide +kernel
theorem dX14_codedOf_99 : decode cX14_codedOf 99 = .ok (.invokestatic 513, 3) := by decide +kernel
theorem dX14_codedOf_102 : decode cX14_codedOf 102 = .ok (.aload_n 0, 1) := by decide +kernel
theorem dX14_codedOf_103 : decode cX14_codedOf 103 = .ok (.getfield 376, 3) := by decide +kernel
theorem dX14_codedOf_106 : decode cX14_codedOf 106 = .ok (.getfield 307, 3) := by decide +kernel
theorem dX14_codedOf_109 : decode cX14_codedOf 109 = .ok (.iload_n 3, 1) := by decide +kernel
theorem dX14_codedOf_110 : decode cX14_codedOf 110 = .ok (.iaload, 1) := by decide +kernel
theorem dX14_codedOf_111 : decode cX14_codedOf 111 = .ok (.isub, 1) := by decide +kernel
theorem dX14_codedOf_112 : decode cX14_codedOf 112 = .ok (.ireturn, 1) := by decide +kernel
def s_X14_codedOf_32_b  (k32 : Nat → Int32 → Int32 → aH → aO) (l0 : Nat) (l2 : Int32) (l3 : Int32) (h : aH) : aO :=
  (gO h (.ref l0) 14 4).bind fun x34 => (gO h (.ref x34) 13 0).bind fun x37 => (ldI .int h (.ref x37) 0).bind fun x41 => if x41 ≤ l3 then (cI (s_X14_slotOf 1 h) fun x68 h68 => (gO h68 (.ref l0) 14 4).bind fun x73 => (gO h68 (.ref x73) 13 1).bind fun x76 => (ldI .int h68 (.ref x76) x68).bind fun x80 => (gO h68 (.ref l0) 14 4).bind fun x82 => (gO h68 (.ref x82) 13 2).bind fun x85 => (ldI .int h68 (.ref x85) x68).bind fun x89 => (gI h68 (.ref l0) 14 68).bind fun x92 => (gO h68 (.ref l0) 14 4).bind fun x103 => (gO h68 (.ref x103) 13 1).bind fun x106 => (ldI .int h68 (.ref x106) x68).bind fun x110 => some (.inl (some (.int ((jmax x80 (jmin x89 (l2 >>> (x92 &&& 31)))) - x110))), h68)) else ((gO h (.ref l0) 14 66).bind fun x47 => (ldI .int h (.ref x47) l3).bind fun x51 => (gO h (.ref l0) 14 29).bind fun x53 => (ldI .int h (.ref x53) l3).bind fun x57 => k32 l0 (l2 + (x51 * x57)) (l3 + 1) h)
def s_X14_codedOf_32  (n : Nat) : Nat → Int32 → Int32 → aH → aO := lpF (fun _ _ _ _ => none) (s_X14_codedOf_32_b ) n
def s_X14_codedOf_28  (l0 : Nat) (s0 : Int32) (s1 : Int32) (h : aH) : aO :=
  s_X14_codedOf_32 FU l0 (s1 + s0) 0 h
def s_X14_codedOf (o : Nat) (a1 : Int32) (h : aH) : aO :=
  kO h o 14 (cN (s_X14_lays o a1 h) fun h2 => (gI h2 (.ref o) 14 67).bind fun x6 => (gI h2 (.ref o) 14 68).bind fun x10 => if x10 = 0 then (s_X14_codedOf_28 o 0 x6 h2) else ((gI h2 (.ref o) 14 68).bind fun x22 => s_X14_codedOf_28 o (1 <<< ((x22 - 1) &&& 31)) x6 h2))
section
variable {p : Program} {l : Launch} {e : Env} {s : State} {m : MethodId} {args : Array Value} {below : List Frame} {meth : Method} {c : Code} {D : va_G} {B0 : Nat} {X : Nat → Nat} {ws0 : va_W} {r : aR} {h' : aH} {mc ms : Nat}
theorem t_X14_codedOf_32_b (C : Cx p l s m args meth c B0 X RX14 "codedOf" cX14_codedOf 4 (some .int) [])   {k32 : Nat → Int32 → Int32 → aH → aO} (K32 : ∀ (l0 : Nat) (l2 : Int32) (l3 : Int32) (h : aH), k32 l0 l2 l3 h = some (r, h') → Ev p l e { frames := 3, cells := mc, slots := ms, locals := 68 } s m args below meth c D B0 X ws0 r h' mc ms 4 mc ms 32 [some (.ref l0), none, some (.int l2), some (.int l3)] [] h) {l0 : Nat} {l2 : Int32} {l3 : Int32} {h : aH} (hs : s_X14_codedOf_32_b  k32 l0 l2 l3 h = some (r, h')) : Ev p l e { frames := 3, cells := mc, slots := ms, locals := 68 } s m args below meth c D B0 X ws0 r h' mc ms 4 mc ms 32 [some (.ref l0), none, some (.int l2), some (.int l3)] [] h := by
  unfold s_X14_codedOf_32_b at hs
  refine ev_iload_n C rfl dX14_codedOf_32 ?_
  refine ev_aload_n C (x := .ref l0) rfl trivial dX14_codedOf_33 ?_
  obtain ⟨x34, e34, hs⟩ := aB hs
  refine ev_get C (ci := 14) (k := 4) rfl wu_14 (by decide) wf_X14_376 (gO_F e34) dX14_codedOf_34 ?_
  obtain ⟨x37, e37, hs⟩ := aB hs
  refine ev_getN C (ci := 13) (k := 0) rfl wu_13 (by decide) wg_X14_252 (gO_F e37) dX14_codedOf_37 ?_
  refine ev_iconst C (v := 0) dX14_codedOf_40 (by decide) ?_
  obtain ⟨x41, e41, hs⟩ := aB hs
  refine ev_iald C e41 dX14_codedOf_41 ?_
  refine ev_icmp_ge C (tgt := 67) (by decide) dX14_codedOf_42 (fun q42 => ?_) (fun q42 => ?_)
  · replace hs := (if_pos q42).symm.trans hs
    refine ev_iconst C (v := 1) dX14_codedOf_67 (by decide) ?_
    obtain ⟨x68, h68, e68, hs⟩ := cI_at hs
    refine ev_callS C (T_X14_slotOf _ _ _ _ e68) wc_X14_slotOf wm_X14_246 wt_X14_slotOf wz_X14 hy_X14_slotOf ⟨(Nat.le_of_ble_eq_true rfl), (Nat.le_of_ble_eq_true rfl)⟩ ⟨(Nat.le_refl _), (Nat.le_refl _)⟩ (Nat.le_of_ble_eq_true rfl) rfl dX14_codedOf_68 ?_
    refine ev_istore_n C (by decide) dX14_codedOf_71 ?_
    refine ev_aload_n C (x := .ref l0) rfl trivial dX14_codedOf_72 ?_
    obtain ⟨x73, e73, hs⟩ := aB hs
    refine ev_get C (ci := 14) (k := 4) rfl wu_14 (by decide) wf_X14_376 (gO_F e73) dX14_codedOf_73 ?_
    obtain ⟨x76, e76, hs⟩ := aB hs
    refine ev_getN C (ci := 13) (k := 1) rfl wu_13 (by decide) wg_X14_307 (gO_F e76) dX14_codedOf_76 ?_
    refine ev_iload_n C rfl dX14_codedOf_79 ?_
    obtain ⟨x80, e80, hs⟩ := aB hs
    refine ev_iald C e80 dX14_codedOf_80 ?_
    refine ev_aload_n C (x := .ref l0) rfl trivial dX14_codedOf_81 ?_
    obtain ⟨x82, e82, hs⟩ := aB hs
    refine ev_get C (ci := 14) (k := 4) rfl wu_14 (by decide) wf_X14_376 (gO_F e82) dX14_codedOf_82 ?_
    obtain ⟨x85, e85, hs⟩ := aB hs
    refine ev_getN C (ci := 13) (k := 2) rfl wu_13 (by decide) wg_X14_317 (gO_F e85) dX14_codedOf_85 ?_
    refine ev_iload_n C rfl dX14_codedOf_88 ?_
    obtain ⟨x89, e89, hs⟩ := aB hs
    refine ev_iald C e89 dX14_codedOf_89 ?_
    refine ev_iload_n C rfl dX14_codedOf_90 ?_
    refine ev_aload_n C (x := .ref l0) rfl trivial dX14_codedOf_91 ?_
    obtain ⟨x92, e92, hs⟩ := aB hs
    refine ev_get C (ci := 14) (k := 68) rfl wu_14 (by decide) wf_X14_400 (gI_F e92) dX14_codedOf_92 ?_
    refine ev_ishr C dX14_codedOf_95 ?_
    refine ev_mmin C wm_X14_511 wt_mmin wz_J9 wc_mmin (Nat.le_of_ble_eq_true rfl) (Nat.le_of_ble_eq_true rfl) (Nat.le_refl _) (Nat.le_refl _) dX14_codedOf_96 ?_
    refine ev_mmax C wm_X14_513 wt_mmax wz_J9 wc_mmax (Nat.le_of_ble_eq_true rfl) (Nat.le_of_ble_eq_true rfl) (Nat.le_refl _) (Nat.le_refl _) dX14_codedOf_99 ?_
    refine ev_aload_n C (x := .ref l0) rfl trivial dX14_codedOf_102 ?_
    obtain ⟨x103, e103, hs⟩ := aB hs
    refine ev_get C (ci := 14) (k := 4) rfl wu_14 (by decide) wf_X14_376 (gO_F e103) dX14_codedOf_103 ?_
    obtain ⟨x106, e106, hs⟩ := aB hs
    refine ev_getN C (ci := 13) (k := 1) rfl wu_13 (by decide) wg_X14_307 (gO_F e106) dX14_codedOf_106 ?_
    refine ev_iload_n C rfl dX14_codedOf_109 ?_
    obtain ⟨x110, e110, hs⟩ := aB hs
    refine ev_iald C e110 dX14_codedOf_110 ?_
    refine ev_isub C dX14_codedOf_111 ?_
    cases hs
    exact ev_iret C rfl rfl (Nat.le_refl _) (Nat.le_refl _) rfl dX14_codedOf_112
  · replace hs := (if_neg q42).symm.trans hs
    refine ev_iload_n C rfl dX14_codedOf_45 ?_
    refine ev_aload_n C (x := .ref l0) rfl trivial dX14_codedOf_46 ?_
    obtain ⟨x47, e47, hs⟩ := aB hs
    refine ev_get C (ci := 14) (k := 66) rfl wu_14 (by decide) wf_X14_148 (gO_F e47) dX14_codedOf_47 ?_
    refine ev_iload_n C rfl dX14_codedOf_50 ?_
    obtain ⟨x51, e51, hs⟩ := aB hs
    refine ev_iald C e51 dX14_codedOf_51 ?_
    refine ev_aload_n C (x := .ref l0) rfl trivial dX14_codedOf_52 ?_
    obtain ⟨x53, e53, hs⟩ := aB hs
    refine ev_get C (ci := 14) (k := 29) rfl wu_14 (by decide) wf_X14_44 (gO_F e53) dX14_codedOf_53 ?_
    refine ev_iload_n C rfl dX14_codedOf_56 ?_
    obtain ⟨x57, e57, hs⟩ := aB hs
    refine ev_iald C e57 dX14_codedOf_57 ?_
    refine ev_imul C dX14_codedOf_58 ?_
    refine ev_iadd C dX14_codedOf_59 ?_
    refine ev_istore_n C (by decide) dX14_codedOf_60 ?_
    refine ev_iinc C (i := 3) (n := 1) (x := l3) (v := l3 + 1) rfl (congrArg (fun z => l3 + z) (show Int32.ofInt 1 = 1 by decide)) (by decide) dX14_codedOf_61 ?_
    refine ev_goto C (tgt := 32) (by decide) dX14_codedOf_64 ?_
    exact (K32 _ _ _ _ hs)
theorem t_X14_codedOf_32 (C : Cx p l s m args meth c B0 X RX14 "codedOf" cX14_codedOf 4 (some .int) [])   : ∀ (n : Nat) {l0 : Nat} {l2 : Int32} {l3 : Int32} {h : aH} (hs : s_X14_codedOf_32  n l0 l2 l3 h = some (r, h')), Ev p l e { frames := 3, cells := mc, slots := ms, locals := 68 } s m args below meth c D B0 X ws0 r h' mc ms 4 mc ms 32 [some (.ref l0), none, some (.int l2), some (.int l3)] [] h
  | 0, _, _, _, _, hs => nomatch hs
  | n + 1, _, _, _, _, hs => t_X14_codedOf_32_b C  (k32 := s_X14_codedOf_32  n) (fun _ _ _ _ hs => t_X14_codedOf_32 C  n hs) hs
theorem t_X14_codedOf_28 (C : Cx p l s m args meth c B0 X RX14 "codedOf" cX14_codedOf 4 (some .int) [])   {l0 : Nat} {s0 : Int32} {s1 : Int32} {h : aH} (hs : s_X14_codedOf_28  l0 s0 s1 h = some (r, h')) : Ev p l e { frames := 3, cells := mc, slots := ms, locals := 68 } s m args below meth c D B0 X ws0 r h' mc ms 4 mc ms 28 [some (.ref l0), none, none, none] [.int s0, .int s1] h := by
  unfold s_X14_codedOf_28 at hs
  refine ev_iadd C dX14_codedOf_28 ?_
  refine ev_istore_n C (by decide) dX14_codedOf_29 ?_
  refine ev_iconst C (v := 0) dX14_codedOf_30 (by decide) ?_
  refine ev_istore_n C (by decide) dX14_codedOf_31 ?_
  exact (t_X14_codedOf_32 C  FU hs)
theorem hy_X14_codedOf : yX14_codedOf.cls ≠ "java/lang/invoke/MethodHandle" ∧ yX14_codedOf.cls ≠ "java/lang/invoke/VarHandle" ∧ (parseMethodDescriptor yX14_codedOf.desc).map (fun d => d.parameters.length) = some 1 := by decide +kernel
theorem T_X14_codedOf (o : Nat) (a1 : Int32) (h : aH) (r : aR) (h' : aH) (hs : s_X14_codedOf o a1 h = some (r, h')) : Mt yX14_codedOf (Cond.code yX14_codedOf cX14_codedOf 4 (some .int) :: aTB) 3 68 0 0 [.ref o, .int a1] h r h' := by
  unfold s_X14_codedOf at hs
  refine Mt_of (k := 2) (by decide) rfl (fun p l e s m args below meth c D B0 X ws0 C => ?_)
  show Ev p l e { frames := 3, cells := 0, slots := 0, locals := 68 } s m args below meth c D B0 X ws0 r h' 0 0 4 0 0 0 [some (.ref o), some (.int a1), none, none] [] h
  refine ev_aload_n C (x := .ref o) rfl trivial dX14_codedOf_0 ?_
  refine ev_iload_n C rfl dX14_codedOf_1 ?_
  obtain ⟨eo2, hs⟩ := kO_at hs
  obtain ⟨h2, e2, hs⟩ := cN_at hs
  refine ev_callV C (T_X14_lays _ _ _ _ _ e2) (ci := 14) rfl eo2 wc_X14_lays wm_X14_416 wi_X14_lays ws_X14_lays wz_X14 hy_X14_lays ⟨(Nat.le_of_ble_eq_true rfl), (Nat.le_of_ble_eq_true rfl)⟩ ⟨(Nat.le_refl _), (Nat.le_refl _)⟩ (Nat.le_of_ble_eq_true rfl) rfl dX14_codedOf_2 ?_
  refine ev_aload_n C (x := .ref o) rfl trivial dX14_codedOf_5 ?_
  obtain ⟨x6, e6, hs⟩ := aB hs
  refine ev_get C (ci := 14) (k := 67) rfl wu_14 (by decide) wf_X14_397 (gI_F e6) dX14_codedOf_6 ?_
  refine ev_aload_n C (x := .ref o) rfl trivial dX14_codedOf_9 ?_
  obtain ⟨x10, e10, hs⟩ := aB hs
  refine ev_get C (ci := 14) (k := 68) rfl wu_14 (by decide) wf_X14_400 (gI_F e10) dX14_codedOf_10 ?_
  refine ev_if_ne C (tgt := 20) (by decide) dX14_codedOf_13 (fun q13 => ?_) (fun q13 => ?_)
  · replace hs := (if_neg q13).symm.trans hs
    refine ev_iconst C (v := 1) dX14_codedOf_20 (by decide) ?_
    refine ev_aload_n C (x := .ref o) rfl trivial dX14_codedOf_21 ?_
    obtain ⟨x22, e22, hs⟩ := aB hs
    refine ev_get C (ci := 14) (k := 68) rfl wu_14 (by decide) wf_X14_400 (gI_F e22) dX14_codedOf_22 ?_
    refine ev_iconst C (v := 1) dX14_codedOf_25 (by decide) ?_
    refine ev_isub C dX14_codedOf_26 ?_
    refine ev_ishl C dX14_codedOf_27 ?_
    exact Ev.keep [true, false, true, true] (t_X14_codedOf_28 C  hs)
  · replace hs := (if_pos q13).symm.trans hs
    refine ev_iconst C (v := 0) dX14_codedOf_16 (by decide) ?_
    refine ev_goto C (tgt := 28) (by decide) dX14_codedOf_17 ?_
    exact Ev.keep [true, false, true, true] (t_X14_codedOf_28 C  hs)
end
-- X14_coded
theorem dX14_coded_0 : decode cX14_coded 0 = .ok (.aload_n 0, 1) := by decide +kernel
theorem dX14_coded_1 : decode cX14_coded 1 = .ok (.iconst 0, 1) := by decide +kernel
theorem dX14_coded_2 : decode cX14_coded 2 = .ok (.putfield 154, 3) := by decide +kernel
theorem dX14_coded_5 : decode cX14_coded 5 = .ok (.aload_n 0, 1) := by decide +kernel
theorem dX14_coded_6 : decode cX14_coded 6 = .ok (.iload_n 1, 1) := by decide +kernel
theorem dX14_coded_7 : decode cX14_coded 7 = .ok (.invokevirtual 474, 3) := by decide +kernel
theorem dX14_coded_10 : decode cX14_coded 10 = .ok (.ifCond .ne 9, 3) := by decide +kernel
theorem dX14_coded_13 : decode cX14_coded 13 = .ok (.aload_n 0, 1) := by decide +kernel
theorem dX14_coded_14 : decode cX14_coded 14 = .ok (.iconst 1, 1) := by decide +kernel
theorem dX14_coded_15 : decode cX14_coded 15 = .ok (.invokevirtual 360, 3) := by decide +kernel
theorem dX14_coded_18 : decode cX14_coded 18 = .ok (.ireturn, 1) := by decide +kernel
theorem dX14_coded_19 : decode cX14_coded 19 = .ok (.aload_n 0, 1) := by decide +kernel
theorem dX14_coded_20 : decode cX14_coded 20 = .ok (.invokevirtual 629, 3) := by decide +kernel
theorem dX14_coded_23 : decode cX14_coded 23 = .ok (.ifCond .eq 15, 3) := by decide +kernel
theorem dX14_coded_26 : decode cX14_coded 26 = .ok (.aload_n 0, 1) := by decide +kernel
theorem dX14_coded_27 : decode cX14_coded 27 = .ok (.aload_n 0, 1) := by decide +kernel
theorem dX14_coded_28 : decode cX14_coded 28 = .ok (.iload_n 1, 1) := by decide +kernel
theorem dX14_coded_29 : decode cX14_coded 29 = .ok (.invokevirtual 632, 3) := by decide +kernel
theorem dX14_coded_32 : decode cX14_coded 32 = .ok (.invokevirtual 413, 3) := by decide +kernel
theorem dX14_coded_35 : decode cX14_coded 35 = .ok (.goto 8, 3) := by decide +kernel
theorem dX14_coded_38 : decode cX14_coded 38 = .ok (.aload_n 0, 1) := by decide +kernel
theorem dX14_coded_39 : decode cX14_coded 39 = .ok (.iconst 5, 1) := by decide +kernel
theorem dX14_coded_40 : decode cX14_coded 40 = .ok (.invokevirtual 360, 3) := by decide +kernel
theorem dX14_coded_43 : decode cX14_coded 43 = .ok (.ireturn, 1) := by decide +kernel
def s_X14_coded (o : Nat) (a1 : Int32) (h : aH) : aO :=
  (pF h (.ref o) 14 0 (.int 0)).bind fun h2 => kO h2 o 14 (cI (s_X14_isCell o a1 h2) fun x7 h7 => if x7 = 0 then (kO h7 o 14 (cI (s_X14_refused o 1 h7) fun x15 h15 => some (.inl (some (.int x15)), h15))) else (kO h7 o 14 (cI (s_X14_isOne o h7) fun x20 h20 => if x20 = 0 then (kO h20 o 14 (cI (s_X14_refused o 5 h20) fun x40 h40 => some (.inl (some (.int x40)), h40))) else (kO h20 o 14 (cI (s_X14_codedOf o a1 h20) fun x29 h29 => kO h29 o 14 (cI (s_X14_done o x29 h29) fun x32 h32 => some (.inl (some (.int x32)), h32)))))))
section
variable {p : Program} {l : Launch} {e : Env} {s : State} {m : MethodId} {args : Array Value} {below : List Frame} {meth : Method} {c : Code} {D : va_G} {B0 : Nat} {X : Nat → Nat} {ws0 : va_W} {r : aR} {h' : aH} {mc ms : Nat}
theorem hy_X14_coded : yX14_coded.cls ≠ "java/lang/invoke/MethodHandle" ∧ yX14_coded.cls ≠ "java/lang/invoke/VarHandle" ∧ (parseMethodDescriptor yX14_coded.desc).map (fun d => d.parameters.length) = some 1 := by decide +kernel
theorem T_X14_coded (o : Nat) (a1 : Int32) (h : aH) (r : aR) (h' : aH) (hs : s_X14_coded o a1 h = some (r, h')) : Mt yX14_coded (Cond.code yX14_coded cX14_coded 2 (some .int) :: aTB) 4 91 0 0 [.ref o, .int a1] h r h' := by
  unfold s_X14_coded at hs
  refine Mt_of (k := 0) (by decide) rfl (fun p l e s m args below meth c D B0 X ws0 C => ?_)
  show Ev p l e { frames := 4, cells := 0, slots := 0, locals := 91 } s m args below meth c D B0 X ws0 r h' 0 0 2 0 0 0 [some (.ref o), some (.int a1)] [] h
  refine ev_aload_n C (x := .ref o) rfl trivial dX14_coded_0 ?_
  refine ev_iconst C (v := 0) dX14_coded_1 (by decide) ?_
  obtain ⟨h2, e2, hs⟩ := aB hs
  refine ev_put C (ci := 14) (k := 0) rfl wu_14 (by decide) tyX14 tyX14_ok nmX14 wf_X14_154 rfl trivial e2 dX14_coded_2 ?_
  refine ev_aload_n C (x := .ref o) rfl trivial dX14_coded_5 ?_
  refine ev_iload_n C rfl dX14_coded_6 ?_
  obtain ⟨eo7, hs⟩ := kO_at hs
  obtain ⟨x7, h7, e7, hs⟩ := cI_at hs
  refine ev_callV C (T_X14_isCell _ _ _ _ _ e7) (ci := 14) rfl eo7 wc_X14_isCell wm_X14_474 wi_X14_isCell ws_X14_isCell wz_X14 hy_X14_isCell ⟨(Nat.le_of_ble_eq_true rfl), (Nat.le_of_ble_eq_true rfl)⟩ ⟨(Nat.le_refl _), (Nat.le_refl _)⟩ (Nat.le_of_ble_eq_true rfl) rfl dX14_coded_7 ?_
  refine ev_if_ne C (tgt := 19) (by decide) dX14_coded_10 (fun q10 => ?_) (fun q10 => ?_)
  · replace hs := (if_neg q10).symm.trans hs
    refine ev_aload_n C (x := .ref o) rfl trivial dX14_coded_19 ?_
    obtain ⟨eo20, hs⟩ := kO_at hs
    obtain ⟨x20, h20, e20, hs⟩ := cI_at hs
    refine ev_callV C (T_X14_isOne _ _ _ _ e20) (ci := 14) rfl eo20 wc_X14_isOne wm_X14_629 wi_X14_isOne ws_X14_isOne wz_X14 hy_X14_isOne ⟨(Nat.le_of_ble_eq_true rfl), (Nat.le_of_ble_eq_true rfl)⟩ ⟨(Nat.le_refl _), (Nat.le_refl _)⟩ (Nat.le_of_ble_eq_true rfl) rfl dX14_coded_20 ?_
    refine ev_if_eq C (tgt := 38) (by decide) dX14_coded_23 (fun q23 => ?_) (fun q23 => ?_)
    · replace hs := (if_pos q23).symm.trans hs
      refine ev_aload_n C (x := .ref o) rfl trivial dX14_coded_38 ?_
      refine ev_iconst C (v := 5) dX14_coded_39 (by decide) ?_
      obtain ⟨eo40, hs⟩ := kO_at hs
      obtain ⟨x40, h40, e40, hs⟩ := cI_at hs
      refine ev_callV C (T_X14_refused _ _ _ _ _ e40) (ci := 14) rfl eo40 wc_X14_refused wm_X14_360 wi_X14_refused ws_X14_refused wz_X14 hy_X14_refused ⟨(Nat.le_of_ble_eq_true rfl), (Nat.le_of_ble_eq_true rfl)⟩ ⟨(Nat.le_refl _), (Nat.le_refl _)⟩ (Nat.le_of_ble_eq_true rfl) rfl dX14_coded_40 ?_
      cases hs
      exact ev_iret C rfl rfl (Nat.le_refl _) (Nat.le_refl _) rfl dX14_coded_43
    · replace hs := (if_neg q23).symm.trans hs
      refine ev_aload_n C (x := .ref o) rfl trivial dX14_coded_26 ?_
      refine ev_aload_n C (x := .ref o) rfl trivial dX14_coded_27 ?_
      refine ev_iload_n C rfl dX14_coded_28 ?_
      obtain ⟨eo29, hs⟩ := kO_at hs
      obtain ⟨x29, h29, e29, hs⟩ := cI_at hs
      refine ev_callV C (T_X14_codedOf _ _ _ _ _ e29) (ci := 14) rfl eo29 wc_X14_codedOf wm_X14_632 wi_X14_codedOf ws_X14_codedOf wz_X14 hy_X14_codedOf ⟨(Nat.le_of_ble_eq_true rfl), (Nat.le_of_ble_eq_true rfl)⟩ ⟨(Nat.le_refl _), (Nat.le_refl _)⟩ (Nat.le_of_ble_eq_true rfl) rfl dX14_coded_29 ?_
      obtain ⟨eo32, hs⟩ := kO_at hs
      obtain ⟨x32, h32, e32, hs⟩ := cI_at hs
      refine ev_callV C (T_X14_done _ _ _ _ _ e32) (ci := 14) rfl eo32 wc_X14_done wm_X14_413 wi_X14_done ws_X14_done wz_X14 hy_X14_done ⟨(Nat.le_of_ble_eq_true rfl), (Nat.le_of_ble_eq_true rfl)⟩ ⟨(Nat.le_refl _), (Nat.le_refl _)⟩ (Nat.le_of_ble_eq_true rfl) rfl dX14_coded_32 ?_
      refine ev_goto C (tgt := 43) (by decide) dX14_coded_35 ?_
      cases hs
      exact ev_iret C rfl rfl (Nat.le_refl _) (Nat.le_refl _) rfl dX14_coded_43
  · replace hs := (if_pos q10).symm.trans hs
    refine ev_aload_n C (x := .ref o) rfl trivial dX14_coded_13 ?_
    refine ev_iconst C (v := 1) dX14_coded_14 (by decide) ?_
    obtain ⟨eo15, hs⟩ := kO_at hs
    obtain ⟨x15, h15, e15, hs⟩ := cI_at hs
    refine ev_callV C (T_X14_refused _ _ _ _ _ e15) (ci := 14) rfl eo15 wc_X14_refused wm_X14_360 wi_X14_refused ws_X14_refused wz_X14 hy_X14_refused ⟨(Nat.le_of_ble_eq_true rfl), (Nat.le_of_ble_eq_true rfl)⟩ ⟨(Nat.le_refl _), (Nat.le_refl _)⟩ (Nat.le_of_ble_eq_true rfl) rfl dX14_coded_15 ?_
    cases hs
    exact ev_iret C rfl rfl (Nat.le_refl _) (Nat.le_refl _) rfl dX14_coded_18
end
-- X14_strays
theorem dX14_strays_0 : decode cX14_strays 0 = .ok (.aload_n 0, 1) := by decide +kernel
theorem dX14_strays_1 : decode cX14_strays 1 = .ok (.iconst 0, 1) := by decide +kernel
theorem dX14_strays_2 : decode cX14_strays 2 = .ok (.putfield 154, 3) := by decide +kernel
theorem dX14_strays_5 : decode cX14_strays 5 = .ok (.aload_n 0, 1) := by decide +kernel
theorem dX14_strays_6 : decode cX14_strays 6 = .ok (.getfield 376, 3) := by decide +kernel
theorem dX14_strays_9 : decode cX14_strays 9 = .ok (.ifnonnull 9, 3) := by decide +kernel
theorem dX14_strays_12 : decode cX14_strays 12 = .ok (.aload_n 0, 1) := by decide +kernel
theorem dX14_strays_13 : decode cX14_strays 13 = .ok (.iconst 1, 1) := by decide +kernel
theorem dX14_strays_14 : decode cX14_strays 14 = .ok (.invokevirtual 360, 3) := by decide +kernel
theorem dX14_strays_17 : decode cX14_strays 17 = .ok (.ireturn, 1) := by decide +kernel
theorem dX14_strays_18 : decode cX14_strays 18 = .ok (.aload_n 0, 1) := by decide +kernel
theorem dX14_strays_19 : decode cX14_strays 19 = .ok (.invokevirtual 629, 3) := by decide +kernel
theorem dX14_strays_22 : decode cX14_strays 22 = .ok (.ifCond .ne 9, 3) := by decide +kernel
theorem dX14_strays_25 : decode cX14_strays 25 = .ok (.aload_n 0, 1) := by decide +kernel
theorem dX14_strays_26 : decode cX14_strays 26 = .ok (.iconst 5, 1) := by decide +kernel
theorem dX14_strays_27 : decode cX14_strays 27 = .ok (.invokevirtual 360, 3) := by decide +kernel
theorem dX14_strays_30 : decode cX14_strays 30 = .ok (.ireturn, 1) := by decide +kernel
theorem dX14_strays_31 : decode cX14_strays 31 = .ok (.aload_n 0, 1) := by decide +kernel
theorem dX14_strays_32 : decode cX14_strays 32 = .ok (.invokevirtual 534, 3) := by decide +kernel
theorem dX14_strays_35 : decode cX14_strays 35 = .ok (.iconst 0, 1) := by decide +kernel
theorem dX14_strays_36 : decode cX14_strays 36 = .ok (.istore_n 1, 1) := by decide +kernel
theorem dX14_strays_37 : decode cX14_strays 37 = .ok (.iconst 0, 1) := by decide +kernel
theorem dX14_strays_38 : decode cX14_strays 38 = .ok (.istore_n 2, 1) := by decide +kernel
theorem dX14_strays_39 : decode cX14_strays 39 = .ok (.iload_n 2, 1) := by decide +kernel
theorem dX14_strays_40 : decode cX14_strays 40 = .ok (.aload_n 0, 1) := by decide +kernel
theorem dX14_strays_41 : decode cX14_strays 41 = .ok (.getfield 379, 3) := by decide +kernel
theorem dX14_strays_44 : decode cX14_strays 44 = .ok (.if_icmp .ge 41, 3) := by decide +kernel
theorem dX14_strays_47 : decode cX14_strays 47 = .ok (.iload_n 1, 1) := by decide +kernel
theorem dX14_strays_48 : decode cX14_strays 48 = .ok (.aload_n 0, 1) := by decide +kernel
theorem dX14_strays_49 : decode cX14_strays 49 = .ok (.iload_n 2, 1) := by decide +kernel
theorem dX14_strays_50 : decode cX14_strays 50 = .ok (.invokevirtual 537, 3) := by decide +kernel
theorem dX14_strays_53 : decode cX14_strays 53 = .ok (.ifCond .eq 23, 3) := by decide +kernel
theorem dX14_strays_56 : decode cX14_strays 56 = .ok (.aload_n 0, 1) := by decide +kernel
theorem dX14_strays_57 : decode cX14_strays 57 = .ok (.iload_n 2, 1) := by decide +kernel
theorem dX14_strays_58 : decode cX14_strays 58 = .ok (.invokevirtual 540, 3) := by decide +kernel
theorem dX14_strays_61 : decode cX14_strays 61 = .ok (.aload_n 0, 1) := by decide +kernel
theorem dX14_strays_62 : decode cX14_strays 62 = .ok (.iload_n 2, 1) := by decide +kernel
theorem dX14_strays_63 : decode cX14_strays 63 = .ok (.invokevirtual 632, 3) := by decide +kernel
theorem dX14_strays_66 : decode cX14_strays 66 = .ok (.ishr, 1) := by decide +kernel
theorem dX14_strays_67 : decode cX14_strays 67 = .ok (.iconst 1, 1) := by decide +kernel
theorem dX14_strays_68 : decode cX14_strays 68 = .ok (.iand, 1) := by decide +kernel
theorem dX14_strays_69 : decode cX14_strays 69 = .ok (.ifCond .ne 7, 3) := by decide +kernel
theorem dX14_strays_72 : decode cX14_strays 72 = .ok (.iconst 1, 1) := by decide +kernel
theorem dX14_strays_73 : decode cX14_strays 73 = .ok (.goto 4, 3) := by decide +kernel
theorem dX14_strays_76 : decode cX14_strays 76 = .ok (.iconst 0, 1) := by decide +kernel
theorem dX14_strays_77 : decode cX14_strays 77 = .ok (.iadd, 1) := by decide +kernel
theorem dX14_strays_78 : decode cX14_strays 78 = .ok (.istore_n 1, 1) := by decide +kernel
theorem dX14_strays_79 : decode cX14_strays 79 = .ok (.iinc 2 1, 3) := by decide +kernel
theorem dX14_strays_82 : decode cX14_strays 82 = .ok (.goto (-43), 3) := by decide +kernel
theorem dX14_strays_85 : decode cX14_strays 85 = .ok (.aload_n 0, 1) := by decide +kernel
theorem dX14_strays_86 : decode cX14_strays 86 = .ok (.iload_n 1, 1) := by decide +kernel
theorem dX14_strays_87 : decode cX14_strays 87 = .ok (.invokevirtual 413, 3) := by decide +kernel
theorem dX14_strays_90 : decode cX14_strays 90 = .ok (.ireturn, 1) := by decide +kernel
def s_X14_strays_77 (k39 : Nat → Int32 → Int32 → aH → aO) (l0 : Nat) (l2 : Int32) (s0 : Int32) (s1 : Int32) (h : aH) : aO :=
  k39 l0 (s1 + s0) (l2 + 1) h
def s_X14_strays_76 (k39 : Nat → Int32 → Int32 → aH → aO) (l0 : Nat) (l2 : Int32) (s0 : Int32) (h : aH) : aO :=
  s_X14_strays_77 k39 l0 l2 0 s0 h
def s_X14_strays_39_b  (k39 : Nat → Int32 → Int32 → aH → aO) (l0 : Nat) (l1 : Int32) (l2 : Int32) (h : aH) : aO :=
  (gI h (.ref l0) 14 20).bind fun x41 => if x41 ≤ l2 then (kO h l0 14 (cI (s_X14_done l0 l1 h) fun x87 h87 => some (.inl (some (.int x87)), h87))) else (kO h l0 14 (cI (s_X14_isSafe l0 l2 h) fun x50 h50 => if x50 = 0 then (s_X14_strays_76 k39 l0 l2 l1 h50) else (kO h50 l0 14 (cI (s_X14_allowedOf l0 l2 h50) fun x58 h58 => kO h58 l0 14 (cI (s_X14_codedOf l0 l2 h58) fun x63 h63 => if ((x58 >>> (x63 &&& 31)) &&& 1) = 0 then (s_X14_strays_77 k39 l0 l2 1 l1 h63) else (s_X14_strays_76 k39 l0 l2 l1 h63))))))
def s_X14_strays_39  (n : Nat) : Nat → Int32 → Int32 → aH → aO := lpF (fun _ _ _ _ => none) (s_X14_strays_39_b ) n
def s_X14_strays (o : Nat) (h : aH) : aO :=
  (pF h (.ref o) 14 0 (.int 0)).bind fun h2 => (gW h2 (.ref o) 14 4).bind fun x6 => match x6 with | .null => (kO h2 o 14 (cI (s_X14_refused o 1 h2) fun x14 h14 => some (.inl (some (.int x14)), h14))) | .ref n9 => (kO h2 o 14 (cI (s_X14_isOne o h2) fun x19 h19 => if x19 = 0 then (kO h19 o 14 (cI (s_X14_refused o 5 h19) fun x27 h27 => some (.inl (some (.int x27)), h27))) else (kO h19 o 14 (cN (s_X14_finds o h19) fun h32 => s_X14_strays_39 FU o 0 0 h32)))) | _ => none
section
variable {p : Program} {l : Launch} {e : Env} {s : State} {m : MethodId} {args : Array Value} {below : List Frame} {meth : Method} {c : Code} {D : va_G} {B0 : Nat} {X : Nat → Nat} {ws0 : va_W} {r : aR} {h' : aH} {mc ms : Nat}
theorem t_X14_strays_77 (C : Cx p l s m args meth c B0 X RX14 "strays" cX14_strays 3 (some .int) []) {k39 : Nat → Int32 → Int32 → aH → aO} (K39 : ∀ (l0 : Nat) (l1 : Int32) (l2 : Int32) (h : aH), k39 l0 l1 l2 h = some (r, h') → Ev p l e { frames := 7, cells := mc, slots := ms, locals := 174 } s m args below meth c D B0 X ws0 r h' mc ms 3 mc ms 39 [some (.ref l0), some (.int l1), some (.int l2)] [] h) {l0 : Nat} {l2 : Int32} {s0 : Int32} {s1 : Int32} {h : aH} (hs : s_X14_strays_77 k39 l0 l2 s0 s1 h = some (r, h')) : Ev p l e { frames := 7, cells := mc, slots := ms, locals := 174 } s m args below meth c D B0 X ws0 r h' mc ms 3 mc ms 77 [some (.ref l0), none, some (.int l2)] [.int s0, .int s1] h := by
  unfold s_X14_strays_77 at hs
  refine ev_iadd C dX14_strays_77 ?_
  refine ev_istore_n C (by decide) dX14_strays_78 ?_
  refine ev_iinc C (i := 2) (n := 1) (x := l2) (v := l2 + 1) rfl (congrArg (fun z => l2 + z) (show Int32.ofInt 1 = 1 by decide)) (by decide) dX14_strays_79 ?_
  refine ev_goto C (tgt := 39) (by decide) dX14_strays_82 ?_
  exact (K39 _ _ _ _ hs)
theorem t_X14_strays_76 (C : Cx p l s m args meth c B0 X RX14 "strays" cX14_strays 3 (some .int) []) {k39 : Nat → Int32 → Int32 → aH → aO} (K39 : ∀ (l0 : Nat) (l1 : Int32) (l2 : Int32) (h : aH), k39 l0 l1 l2 h = some (r, h') → Ev p l e { frames := 7, cells := mc, slots := ms, locals := 174 } s m args below meth c D B0 X ws0 r h' mc ms 3 mc ms 39 [some (.ref l0), some (.int l1), some (.int l2)] [] h) {l0 : Nat} {l2 : Int32} {s0 : Int32} {h : aH} (hs : s_X14_strays_76 k39 l0 l2 s0 h = some (r, h')) : Ev p l e { frames := 7, cells := mc, slots := ms, locals := 174 } s m args below meth c D B0 X ws0 r h' mc ms 3 mc ms 76 [some (.ref l0), none, some (.int l2)] [.int s0] h := by
  unfold s_X14_strays_76 at hs
  refine ev_iconst C (v := 0) dX14_strays_76 (by decide) ?_
  exact (t_X14_strays_77 C K39 hs)
theorem t_X14_strays_39_b (C : Cx p l s m args meth c B0 X RX14 "strays" cX14_strays 3 (some .int) [])   {k39 : Nat → Int32 → Int32 → aH → aO} (K39 : ∀ (l0 : Nat) (l1 : Int32) (l2 : Int32) (h : aH), k39 l0 l1 l2 h = some (r, h') → Ev p l e { frames := 7, cells := mc, slots := ms, locals := 174 } s m args below meth c D B0 X ws0 r h' mc ms 3 mc ms 39 [some (.ref l0), some (.int l1), some (.int l2)] [] h) {l0 : Nat} {l1 : Int32} {l2 : Int32} {h : aH} (hs : s_X14_strays_39_b  k39 l0 l1 l2 h = some (r, h')) : Ev p l e { frames := 7, cells := mc, slots := ms, locals := 174 } s m args below meth c D B0 X ws0 r h' mc ms 3 mc ms 39 [some (.ref l0), some (.int l1), some (.int l2)] [] h := by
  unfold s_X14_strays_39_b at hs
  refine ev_iload_n C rfl dX14_strays_39 ?_
  refine ev_aload_n C (x := .ref l0) rfl trivial dX14_strays_40 ?_
  obtain ⟨x41, e41, hs⟩ := aB hs
  refine ev_get C (ci := 14) (k := 20) rfl wu_14 (by decide) wf_X14_379 (gI_F e41) dX14_strays_41 ?_
  refine ev_icmp_ge C (tgt := 85) (by decide) dX14_strays_44 (fun q44 => ?_) (fun q44 => ?_)
  · replace hs := (if_pos q44).symm.trans hs
    refine ev_aload_n C (x := .ref l0) rfl trivial dX14_strays_85 ?_
    refine ev_iload_n C rfl dX14_strays_86 ?_
    obtain ⟨eo87, hs⟩ := kO_at hs
    obtain ⟨x87, h87, e87, hs⟩ := cI_at hs
    refine ev_callV C (T_X14_done _ _ _ _ _ e87) (ci := 14) rfl eo87 wc_X14_done wm_X14_413 wi_X14_done ws_X14_done wz_X14 hy_X14_done ⟨(Nat.le_of_ble_eq_true rfl), (Nat.le_of_ble_eq_true rfl)⟩ ⟨(Nat.le_refl _), (Nat.le_refl _)⟩ (Nat.le_of_ble_eq_true rfl) rfl dX14_strays_87 ?_
    cases hs
    exact ev_iret C rfl rfl (Nat.le_refl _) (Nat.le_refl _) rfl dX14_strays_90
  · replace hs := (if_neg q44).symm.trans hs
    refine ev_iload_n C rfl dX14_strays_47 ?_
    refine ev_aload_n C (x := .ref l0) rfl trivial dX14_strays_48 ?_
    refine ev_iload_n C rfl dX14_strays_49 ?_
    obtain ⟨eo50, hs⟩ := kO_at hs
    obtain ⟨x50, h50, e50, hs⟩ := cI_at hs
    refine ev_callV C (T_X14_isSafe _ _ _ _ _ e50) (ci := 14) rfl eo50 wc_X14_isSafe wm_X14_537 wi_X14_isSafe ws_X14_isSafe wz_X14 hy_X14_isSafe ⟨(Nat.le_of_ble_eq_true rfl), (Nat.le_of_ble_eq_true rfl)⟩ ⟨(Nat.le_refl _), (Nat.le_refl _)⟩ (Nat.le_of_ble_eq_true rfl) rfl dX14_strays_50 ?_
    refine ev_if_eq C (tgt := 76) (by decide) dX14_strays_53 (fun q53 => ?_) (fun q53 => ?_)
    · replace hs := (if_pos q53).symm.trans hs
      exact Ev.keep [true, false, true] (t_X14_strays_76 C K39 hs)
    · replace hs := (if_neg q53).symm.trans hs
      refine ev_aload_n C (x := .ref l0) rfl trivial dX14_strays_56 ?_
      refine ev_iload_n C rfl dX14_strays_57 ?_
      obtain ⟨eo58, hs⟩ := kO_at hs
      obtain ⟨x58, h58, e58, hs⟩ := cI_at hs
      refine ev_callV C (T_X14_allowedOf _ _ _ _ _ e58) (ci := 14) rfl eo58 wc_X14_allowedOf wm_X14_540 wi_X14_allowedOf ws_X14_allowedOf wz_X14 hy_X14_allowedOf ⟨(Nat.le_of_ble_eq_true rfl), (Nat.le_of_ble_eq_true rfl)⟩ ⟨(Nat.le_refl _), (Nat.le_refl _)⟩ (Nat.le_of_ble_eq_true rfl) rfl dX14_strays_58 ?_
      refine ev_aload_n C (x := .ref l0) rfl trivial dX14_strays_61 ?_
      refine ev_iload_n C rfl dX14_strays_62 ?_
      obtain ⟨eo63, hs⟩ := kO_at hs
      obtain ⟨x63, h63, e63, hs⟩ := cI_at hs
      refine ev_callV C (T_X14_codedOf _ _ _ _ _ e63) (ci := 14) rfl eo63 wc_X14_codedOf wm_X14_632 wi_X14_codedOf ws_X14_codedOf wz_X14 hy_X14_codedOf ⟨(Nat.le_of_ble_eq_true rfl), (Nat.le_of_ble_eq_true rfl)⟩ ⟨(Nat.le_refl _), (Nat.le_refl _)⟩ (Nat.le_of_ble_eq_true rfl) rfl dX14_strays_63 ?_
      refine ev_ishr C dX14_strays_66 ?_
      refine ev_iconst C (v := 1) dX14_strays_67 (by decide) ?_
      refine ev_iand C dX14_strays_68 ?_
      refine ev_if_ne C (tgt := 76) (by decide) dX14_strays_69 (fun q69 => ?_) (fun q69 => ?_)
      · replace hs := (if_neg q69).symm.trans hs
        exact Ev.keep [true, false, true] (t_X14_strays_76 C K39 hs)
      · replace hs := (if_pos q69).symm.trans hs
        refine ev_iconst C (v := 1) dX14_strays_72 (by decide) ?_
        refine ev_goto C (tgt := 77) (by decide) dX14_strays_73 ?_
        exact Ev.keep [true, false, true] (t_X14_strays_77 C K39 hs)
theorem t_X14_strays_39 (C : Cx p l s m args meth c B0 X RX14 "strays" cX14_strays 3 (some .int) [])   : ∀ (n : Nat) {l0 : Nat} {l1 : Int32} {l2 : Int32} {h : aH} (hs : s_X14_strays_39  n l0 l1 l2 h = some (r, h')), Ev p l e { frames := 7, cells := mc, slots := ms, locals := 174 } s m args below meth c D B0 X ws0 r h' mc ms 3 mc ms 39 [some (.ref l0), some (.int l1), some (.int l2)] [] h
  | 0, _, _, _, _, hs => nomatch hs
  | n + 1, _, _, _, _, hs => t_X14_strays_39_b C  (k39 := s_X14_strays_39  n) (fun _ _ _ _ hs => t_X14_strays_39 C  n hs) hs
theorem hy_X14_strays : yX14_strays.cls ≠ "java/lang/invoke/MethodHandle" ∧ yX14_strays.cls ≠ "java/lang/invoke/VarHandle" ∧ (parseMethodDescriptor yX14_strays.desc).map (fun d => d.parameters.length) = some 0 := by decide +kernel
theorem T_X14_strays (o : Nat) (h : aH) (r : aR) (h' : aH) (hs : s_X14_strays o h = some (r, h')) : Mt yX14_strays (Cond.code yX14_strays cX14_strays 3 (some .int) :: aTB) 7 174 0 0 [.ref o] h r h' := by
  unfold s_X14_strays at hs
  refine Mt_of (k := 2) (by decide) rfl (fun p l e s m args below meth c D B0 X ws0 C => ?_)
  show Ev p l e { frames := 7, cells := 0, slots := 0, locals := 174 } s m args below meth c D B0 X ws0 r h' 0 0 3 0 0 0 [some (.ref o), none, none] [] h
  refine ev_aload_n C (x := .ref o) rfl trivial dX14_strays_0 ?_
  refine ev_iconst C (v := 0) dX14_strays_1 (by decide) ?_
  obtain ⟨h2, e2, hs⟩ := aB hs
  refine ev_put C (ci := 14) (k := 0) rfl wu_14 (by decide) tyX14 tyX14_ok nmX14 wf_X14_154 rfl trivial e2 dX14_strays_2 ?_
  refine ev_aload_n C (x := .ref o) rfl trivial dX14_strays_5 ?_
  obtain ⟨x6, e6, hs⟩ := aB hs
  refine ev_get C (ci := 14) (k := 4) rfl wu_14 (by decide) wf_X14_376 (gW_F e6).1 dX14_strays_6 ?_
  cases x6 with
  | null =>
    refine ev_ifnonnull_n C dX14_strays_9 ?_
    refine ev_aload_n C (x := .ref o) rfl trivial dX14_strays_12 ?_
    refine ev_iconst C (v := 1) dX14_strays_13 (by decide) ?_
    obtain ⟨eo14, hs⟩ := kO_at hs
    obtain ⟨x14, h14, e14, hs⟩ := cI_at hs
    refine ev_callV C (T_X14_refused _ _ _ _ _ e14) (ci := 14) rfl eo14 wc_X14_refused wm_X14_360 wi_X14_refused ws_X14_refused wz_X14 hy_X14_refused ⟨(Nat.le_of_ble_eq_true rfl), (Nat.le_of_ble_eq_true rfl)⟩ ⟨(Nat.le_refl _), (Nat.le_refl _)⟩ (Nat.le_of_ble_eq_true rfl) rfl dX14_strays_14 ?_
    cases hs
    exact ev_iret C rfl rfl (Nat.le_refl _) (Nat.le_refl _) rfl dX14_strays_17
  | ref n9 =>
    refine ev_ifnonnull_r C (tgt := 18) (by decide) dX14_strays_9 ?_
    refine ev_aload_n C (x := .ref o) rfl trivial dX14_strays_18 ?_
    obtain ⟨eo19, hs⟩ := kO_at hs
    obtain ⟨x19, h19, e19, hs⟩ := cI_at hs
    refine ev_callV C (T_X14_isOne _ _ _ _ e19) (ci := 14) rfl eo19 wc_X14_isOne wm_X14_629 wi_X14_isOne ws_X14_isOne wz_X14 hy_X14_isOne ⟨(Nat.le_of_ble_eq_true rfl), (Nat.le_of_ble_eq_true rfl)⟩ ⟨(Nat.le_refl _), (Nat.le_refl _)⟩ (Nat.le_of_ble_eq_true rfl) rfl dX14_strays_19 ?_
    refine ev_if_ne C (tgt := 31) (by decide) dX14_strays_22 (fun q22 => ?_) (fun q22 => ?_)
    · replace hs := (if_neg q22).symm.trans hs
      refine ev_aload_n C (x := .ref o) rfl trivial dX14_strays_31 ?_
      obtain ⟨eo32, hs⟩ := kO_at hs
      obtain ⟨h32, e32, hs⟩ := cN_at hs
      refine ev_callV C (T_X14_finds _ _ _ _ e32) (ci := 14) rfl eo32 wc_X14_finds wm_X14_534 wi_X14_finds ws_X14_finds wz_X14 hy_X14_finds ⟨(Nat.le_of_ble_eq_true rfl), (Nat.le_of_ble_eq_true rfl)⟩ ⟨(Nat.le_refl _), (Nat.le_refl _)⟩ (Nat.le_of_ble_eq_true rfl) rfl dX14_strays_32 ?_
      refine ev_iconst C (v := 0) dX14_strays_35 (by decide) ?_
      refine ev_istore_n C (by decide) dX14_strays_36 ?_
      refine ev_iconst C (v := 0) dX14_strays_37 (by decide) ?_
      refine ev_istore_n C (by decide) dX14_strays_38 ?_
      exact (t_X14_strays_39 C  FU hs)
    · replace hs := (if_pos q22).symm.trans hs
      refine ev_aload_n C (x := .ref o) rfl trivial dX14_strays_25 ?_
      refine ev_iconst C (v := 5) dX14_strays_26 (by decide) ?_
      obtain ⟨eo27, hs⟩ := kO_at hs
      obtain ⟨x27, h27, e27, hs⟩ := cI_at hs
      refine ev_callV C (T_X14_refused _ _ _ _ _ e27) (ci := 14) rfl eo27 wc_X14_refused wm_X14_360 wi_X14_refused ws_X14_refused wz_X14 hy_X14_refused ⟨(Nat.le_of_ble_eq_true rfl), (Nat.le_of_ble_eq_true rfl)⟩ ⟨(Nat.le_refl _), (Nat.le_refl _)⟩ (Nat.le_of_ble_eq_true rfl) rfl dX14_strays_27 ?_
      cases hs
      exact ev_iret C rfl rfl (Nat.le_refl _) (Nat.le_refl _) rfl dX14_strays_30
  | _ => cases hs
end
-- X14_walk
theorem dX14_walk_0 : decode cX14_walk 0 = .ok (.aload_n 0, 1) := by decide +kernel
theorem dX14_walk_1 : decode cX14_walk 1 = .ok (.iconst 0, 1) := by decide +kernel
theorem dX14_walk_2 : decode cX14_walk 2 = .ok (.putfield 154, 3) := by decide +kernel
theorem dX14_walk_5 : decode cX14_walk 5 = .ok (.aload_n 0, 1) := by decide +kernel
theorem dX14_walk_6 : decode cX14_walk 6 = .ok (.iload_n 1, 1) := by decide +kernel
theorem dX14_walk_7 : decode cX14_walk 7 = .ok (.invokevirtual 474, 3) := by decide +kernel
theorem dX14_walk_10 : decode cX14_walk 10 = .ok (.ifCond .ne 9, 3) := by decide +kernel
theorem dX14_walk_13 : decode cX14_walk 13 = .ok (.aload_n 0, 1) := by decide +kernel
theorem dX14_walk_14 : decode cX14_walk 14 = .ok (.iconst 1, 1) := by decide +kernel
theorem dX14_walk_15 : decode cX14_walk 15 = .ok (.invokevirtual 360, 3) := by decide +kernel
theorem dX14_walk_18 : decode cX14_walk 18 = .ok (.ireturn, 1) := by decide +kernel
theorem dX14_walk_19 : decode cX14_walk 19 = .ok (.aload_n 0, 1) := by decide +kernel
theorem dX14_walk_20 : decode cX14_walk 20 = .ok (.invokevirtual 629, 3) := by decide +kernel
theorem dX14_walk_23 : decode cX14_walk 23 = .ok (.ifCond .ne 9, 3) := by decide +kernel
theorem dX14_walk_26 : decode cX14_walk 26 = .ok (.aload_n 0, 1) := by decide +kernel
theorem dX14_walk_27 : decode cX14_walk 27 = .ok (.iconst 5, 1) := by decide +kernel
theorem dX14_walk_28 : decode cX14_walk 28 = .ok (.invokevirtual 360, 3) := by decide +kernel
theorem dX14_walk_31 : decode cX14_walk 31 = .ok (.ireturn, 1) := by decide +kernel
theorem dX14_walk_32 : decode cX14_walk 32 = .ok (.iconst 0, 1) := by decide +kernel
theorem dX14_walk_33 : decode cX14_walk 33 = .ok (.istore_n 2, 1) := by decide +kernel
theorem dX14_walk_34 : decode cX14_walk 34 = .ok (.iload_n 2, 1) := by decide +kernel
theorem dX14_walk_35 : decode cX14_walk 35 = .ok (.aload_n 0, 1) := by decide +kernel
theorem dX14_walk_36 : decode cX14_walk 36 = .ok (.getfield 379, 3) := by decide +kernel
theorem dX14_walk_39 : decode cX14_walk 39 = .ok (.if_icmp .ge 16, 3) := by decide +kernel
theorem dX14_walk_42 : decode cX14_walk 42 = .ok (.aload_n 0, 1) := by decide +kernel
theorem dX14_walk_43 : decode cX14_walk 43 = .ok (.getfield 151, 3) := by decide +kernel
theorem dX14_walk_46 : decode cX14_walk 46 = .ok (.iload_n 2, 1) := by decide +kernel
theorem dX14_walk_47 : decode cX14_walk 47 = .ok (.iconst (-1), 1) := by decide +kernel
theorem dX14_walk_48 : decode cX14_walk 48 = .ok (.iastore, 1) := by decide +kernel
theorem dX14_walk_49 : decode cX14_walk 49 = .ok (.iinc 2 1, 3) := by decide +kernel
theorem dX14_walk_52 : decode cX14_walk 52 = .ok (.goto (-18), 3) := by decide +kernel
theorem dX14_walk_55 : decode cX14_walk 55 = .ok (.iload_n 1, 1) := by decide +kernel
theorem dX14_walk_56 : decode cX14_walk 56 = .ok (.istore_n 2, 1) := by decide +kernel
theorem dX14_walk_57 : decode cX14_walk 57 = .ok (.iconst 0, 1) := by decide +kernel
theorem dX14_walk_58 : decode cX14_walk 58 = .ok (.istore_n 3, 1) := by decide +kernel
theorem dX14_walk_59 : decode cX14_walk 59 = .ok (.iload_n 3, 1) := by decide +kernel
theorem dX14_walk_60 : decode cX14_walk 60 = .ok (.aload_n 0, 1) := by decide +kernel
theorem dX14_walk_61 : decode cX14_walk 61 = .ok (.getfield 379, 3) := by decide +kernel
theorem dX14_walk_64 : decode cX14_walk 64 = .ok (.if_icmp .gt 64, 3) := by decide +kernel
theorem dX14_walk_67 : decode cX14_walk 67 = .ok (.iload_n 2, 1) := by decide +kernel
theorem dX14_walk_68 : decode cX14_walk 68 = .ok (.bipush (-2), 2) := by decide +kernel
theorem dX14_walk_70 : decode cX14_walk 70 = .ok (.if_icmp .ne 10, 3) := by decide +kernel
theorem dX14_walk_73 : decode cX14_walk 73 = .ok (.aload_n 0, 1) := by decide +kernel
theorem dX14_walk_74 : decode cX14_walk 74 = .ok (.bipush (-2), 2) := by decide +kernel
theorem dX14_walk_76 : decode cX14_walk 76 = .ok (.invokevirtual 413, 3) := by decide +kernel
theorem dX14_walk_79 : decode cX14_walk 79 = .ok (.ireturn, 1) := by decide +kernel
theorem dX14_walk_80 : decode cX14_walk 80 = .ok (.aload_n 0, 1) := by decide +kernel
theorem dX14_walk_81 : decode cX14_walk 81 = .ok (.getfield 151, 3) := by decide +kernel
theorem dX14_walk_84 : decode cX14_walk 84 = .ok (.iload_n 2, 1) := by decide +kernel
theorem dX14_walk_85 : decode cX14_walk 85 = .ok (.iaload, 1) := by decide +kernel
theorem dX14_walk_86 : decode cX14_walk 86 = .ok (.iconst (-1), 1) := by decide +kernel
theorem dX14_walk_87 : decode cX14_walk 87 = .ok (.if_icmp .eq 16, 3) := by decide +kernel
theorem dX14_walk_90 : decode cX14_walk 90 = .ok (.aload_n 0, 1) := by decide +kernel
theorem dX14_walk_91 : decode cX14_walk 91 = .ok (.iload_n 3, 1) := by decide +kernel
theorem dX14_walk_92 : decode cX14_walk 92 = .ok (.aload_n 0, 1) := by decide +kernel
theorem dX14_walk_93 : decode cX14_walk 93 = .ok (.getfield 151, 3) := by decide +kernel
theorem dX14_walk_96 : decode cX14_walk 96 = .ok (.iload_n 2, 1) := by decide +kernel
theorem dX14_walk_97 : decode cX14_walk 97 = .ok (.iaload, 1) := by decide +kernel
theorem dX14_walk_98 : decode cX14_walk 98 = .ok (.isub, 1) := by decide +kernel
theorem dX14_walk_99 : decode cX14_walk 99 = .ok (.invokevirtual 413, 3) := by decide +kernel
theorem dX14_walk_102 : decode cX14_walk 102 = .ok (.ireturn, 1) := by decide +kernel
theorem dX14_walk_103 : decode cX14_walk 103 = .ok (.aload_n 0, 1) := by decide +kernel
theorem dX14_walk_104 : decode cX14_walk 104 = .ok (.getfield 151, 3) := by decide +kernel
theorem dX14_walk_107 : decode cX14_walk 107 = .ok (.iload_n 2, 1) := by decide +kernel
theorem dX14_walk_108 : decode cX14_walk 108 = .ok (.iload_n 3, 1) := by decide +kernel
theorem dX14_walk_109 : decode cX14_walk 109 = .ok (.iastore, 1) := by decide +kernel
theorem dX14_walk_110 : decode cX14_walk 110 = .ok (.aload_n 0, 1) := by decide +kernel
theorem dX14_walk_111 : decode cX14_walk 111 = .ok (.iload_n 2, 1) := by decide +kernel
theorem dX14_walk_112 : decode cX14_walk 112 = .ok (.aload_n 0, 1) := by decide +kernel
theorem dX14_walk_113 : decode cX14_walk 113 = .ok (.iload_n 2, 1) := by decide +kernel
theorem dX14_walk_114 : decode cX14_walk 114 = .ok (.invokevirtual 632, 3) := by decide +kernel
theorem dX14_walk_117 : decode cX14_walk 117 = .ok (.iconst 0, 1) := by decide +kernel
theorem dX14_walk_118 : decode cX14_walk 118 = .ok (.invokevirtual 483, 3) := by decide +kernel
theorem dX14_walk_121 : decode cX14_walk 121 = .ok (.istore_n 2, 1) := by decide +kernel
theorem dX14_walk_122 : decode cX14_walk 122 = .ok (.iinc 3 1, 3) := by decide +kernel
theorem dX14_walk_125 : decode cX14_walk 125 = .ok (.goto (-66), 3) := by decide +kernel
theorem dX14_walk_128 : decode cX14_walk 128 = .ok (.aload_n 0, 1) := by decide +kernel
theorem dX14_walk_129 : decode cX14_walk 129 = .ok (.bipush (-2), 2) := by decide +kernel
theorem dX14_walk_131 : decode cX14_walk 131 = .ok (.invokevirtual 413, 3) := by decide +kernel
theorem dX14_walk_134 : decode cX14_walk 134 = .ok (.ireturn, 1) := by decide +kernel
def s_X14_walk_59_b  (k59 : Nat → Int32 → Int32 → aH → aO) (l0 : Nat) (l2 : Int32) (l3 : Int32) (h : aH) : aO :=
  (gI h (.ref l0) 14 20).bind fun x61 => if x61 < l3 then (kO h l0 14 (cI (s_X14_done l0 (-2) h) fun x131 h131 => some (.inl (some (.int x131)), h131))) else (if l2 = (-2) then (kO h l0 14 (cI (s_X14_done l0 (-2) h) fun x76 h76 => some (.inl (some (.int x76)), h76))) else ((gO h (.ref l0) 14 69).bind fun x81 => (ldI .int h (.ref x81) l2).bind fun x85 => if x85 = (-1) then ((gO h (.ref l0) 14 69).bind fun x104 => (stI h (.ref x104) l2 l3).bind fun h109 => kO h109 l0 14 (cI (s_X14_codedOf l0 l2 h109) fun x114 h114 => kO h114 l0 14 (cI (s_X14_to l0 l2 x114 0 h114) fun x118 h118 => k59 l0 x118 (l3 + 1) h118))) else ((gO h (.ref l0) 14 69).bind fun x93 => (ldI .int h (.ref x93) l2).bind fun x97 => kO h l0 14 (cI (s_X14_done l0 (l3 - x97) h) fun x99 h99 => some (.inl (some (.int x99)), h99)))))
def s_X14_walk_59  (n : Nat) : Nat → Int32 → Int32 → aH → aO := lpF (fun _ _ _ _ => none) (s_X14_walk_59_b ) n
def s_X14_walk_34_b  (k34 : Nat → Int32 → Int32 → aH → aO) (l0 : Nat) (l1 : Int32) (l2 : Int32) (h : aH) : aO :=
  (gI h (.ref l0) 14 20).bind fun x36 => if x36 ≤ l2 then (s_X14_walk_59 FU l0 l1 0 h) else ((gO h (.ref l0) 14 69).bind fun x43 => (stI h (.ref x43) l2 (-1)).bind fun h48 => k34 l0 l1 (l2 + 1) h48)
def s_X14_walk_34  (n : Nat) : Nat → Int32 → Int32 → aH → aO := lpF (fun _ _ _ _ => none) (s_X14_walk_34_b ) n
def s_X14_walk (o : Nat) (a1 : Int32) (h : aH) : aO :=
  (pF h (.ref o) 14 0 (.int 0)).bind fun h2 => kO h2 o 14 (cI (s_X14_isCell o a1 h2) fun x7 h7 => if x7 = 0 then (kO h7 o 14 (cI (s_X14_refused o 1 h7) fun x15 h15 => some (.inl (some (.int x15)), h15))) else (kO h7 o 14 (cI (s_X14_isOne o h7) fun x20 h20 => if x20 = 0 then (kO h20 o 14 (cI (s_X14_refused o 5 h20) fun x28 h28 => some (.inl (some (.int x28)), h28))) else (s_X14_walk_34 FU o a1 0 h20))))
section
variable {p : Program} {l : Launch} {e : Env} {s : State} {m : MethodId} {args : Array Value} {below : List Frame} {meth : Method} {c : Code} {D : va_G} {B0 : Nat} {X : Nat → Nat} {ws0 : va_W} {r : aR} {h' : aH} {mc ms : Nat}
theorem t_X14_walk_59_b (C : Cx p l s m args meth c B0 X RX14 "walk" cX14_walk 4 (some .int) [])   {k59 : Nat → Int32 → Int32 → aH → aO} (K59 : ∀ (l0 : Nat) (l2 : Int32) (l3 : Int32) (h : aH), k59 l0 l2 l3 h = some (r, h') → Ev p l e { frames := 4, cells := mc, slots := ms, locals := 91 } s m args below meth c D B0 X ws0 r h' mc ms 4 mc ms 59 [some (.ref l0), none, some (.int l2), some (.int l3)] [] h) {l0 : Nat} {l2 : Int32} {l3 : Int32} {h : aH} (hs : s_X14_walk_59_b  k59 l0 l2 l3 h = some (r, h')) : Ev p l e { frames := 4, cells := mc, slots := ms, locals := 91 } s m args below meth c D B0 X ws0 r h' mc ms 4 mc ms 59 [some (.ref l0), none, some (.int l2), some (.int l3)] [] h := by
  unfold s_X14_walk_59_b at hs
  refine ev_iload_n C rfl dX14_walk_59 ?_
  refine ev_aload_n C (x := .ref l0) rfl trivial dX14_walk_60 ?_
  obtain ⟨x61, e61, hs⟩ := aB hs
  refine ev_get C (ci := 14) (k := 20) rfl wu_14 (by decide) wf_X14_379 (gI_F e61) dX14_walk_61 ?_
  refine ev_icmp_gt C (tgt := 128) (by decide) dX14_walk_64 (fun q64 => ?_) (fun q64 => ?_)
  · replace hs := (if_pos q64).symm.trans hs
    refine ev_aload_n C (x := .ref l0) rfl trivial dX14_walk_128 ?_
    refine ev_bipush C (v := (-2)) dX14_walk_129 (by decide) ?_
    obtain ⟨eo131, hs⟩ := kO_at hs
    obtain ⟨x131, h131, e131, hs⟩ := cI_at hs
    refine ev_callV C (T_X14_done _ _ _ _ _ e131) (ci := 14) rfl eo131 wc_X14_done wm_X14_413 wi_X14_done ws_X14_done wz_X14 hy_X14_done ⟨(Nat.le_of_ble_eq_true rfl), (Nat.le_of_ble_eq_true rfl)⟩ ⟨(Nat.le_refl _), (Nat.le_refl _)⟩ (Nat.le_of_ble_eq_true rfl) rfl dX14_walk_131 ?_
    cases hs
    exact ev_iret C rfl rfl (Nat.le_refl _) (Nat.le_refl _) rfl dX14_walk_134
  · replace hs := (if_neg q64).symm.trans hs
    refine ev_iload_n C rfl dX14_walk_67 ?_
    refine ev_bipush C (v := (-2)) dX14_walk_68 (by decide) ?_
    refine ev_icmp_ne C (tgt := 80) (by decide) dX14_walk_70 (fun q70 => ?_) (fun q70 => ?_)
    · replace hs := (if_neg q70).symm.trans hs
      refine ev_aload_n C (x := .ref l0) rfl trivial dX14_walk_80 ?_
      obtain ⟨x81, e81, hs⟩ := aB hs
      refine ev_get C (ci := 14) (k := 69) rfl wu_14 (by decide) wf_X14_151 (gO_F e81) dX14_walk_81 ?_
      refine ev_iload_n C rfl dX14_walk_84 ?_
      obtain ⟨x85, e85, hs⟩ := aB hs
      refine ev_iald C e85 dX14_walk_85 ?_
      refine ev_iconst C (v := (-1)) dX14_walk_86 (by decide) ?_
      refine ev_icmp_eq C (tgt := 103) (by decide) dX14_walk_87 (fun q87 => ?_) (fun q87 => ?_)
      · replace hs := (if_pos q87).symm.trans hs
        refine ev_aload_n C (x := .ref l0) rfl trivial dX14_walk_103 ?_
        obtain ⟨x104, e104, hs⟩ := aB hs
        refine ev_get C (ci := 14) (k := 69) rfl wu_14 (by decide) wf_X14_151 (gO_F e104) dX14_walk_104 ?_
        refine ev_iload_n C rfl dX14_walk_107 ?_
        refine ev_iload_n C rfl dX14_walk_108 ?_
        obtain ⟨h109, e109, hs⟩ := aB hs
        refine ev_iast C e109 dX14_walk_109 ?_
        refine ev_aload_n C (x := .ref l0) rfl trivial dX14_walk_110 ?_
        refine ev_iload_n C rfl dX14_walk_111 ?_
        refine ev_aload_n C (x := .ref l0) rfl trivial dX14_walk_112 ?_
        refine ev_iload_n C rfl dX14_walk_113 ?_
        obtain ⟨eo114, hs⟩ := kO_at hs
        obtain ⟨x114, h114, e114, hs⟩ := cI_at hs
        refine ev_callV C (T_X14_codedOf _ _ _ _ _ e114) (ci := 14) rfl eo114 wc_X14_codedOf wm_X14_632 wi_X14_codedOf ws_X14_codedOf wz_X14 hy_X14_codedOf ⟨(Nat.le_of_ble_eq_true rfl), (Nat.le_of_ble_eq_true rfl)⟩ ⟨(Nat.le_refl _), (Nat.le_refl _)⟩ (Nat.le_of_ble_eq_true rfl) rfl dX14_walk_114 ?_
        refine ev_iconst C (v := 0) dX14_walk_117 (by decide) ?_
        obtain ⟨eo118, hs⟩ := kO_at hs
        obtain ⟨x118, h118, e118, hs⟩ := cI_at hs
        refine ev_callV C (T_X14_to _ _ _ _ _ _ _ e118) (ci := 14) rfl eo118 wc_X14_to wm_X14_483 wi_X14_to ws_X14_to wz_X14 hy_X14_to ⟨(Nat.le_of_ble_eq_true rfl), (Nat.le_of_ble_eq_true rfl)⟩ ⟨(Nat.le_refl _), (Nat.le_refl _)⟩ (Nat.le_of_ble_eq_true rfl) rfl dX14_walk_118 ?_
        refine ev_istore_n C (by decide) dX14_walk_121 ?_
        refine ev_iinc C (i := 3) (n := 1) (x := l3) (v := l3 + 1) rfl (congrArg (fun z => l3 + z) (show Int32.ofInt 1 = 1 by decide)) (by decide) dX14_walk_122 ?_
        refine ev_goto C (tgt := 59) (by decide) dX14_walk_125 ?_
        exact (K59 _ _ _ _ hs)
      · replace hs := (if_neg q87).symm.trans hs
        refine ev_aload_n C (x := .ref l0) rfl trivial dX14_walk_90 ?_
        refine ev_iload_n C rfl dX14_walk_91 ?_
        refine ev_aload_n C (x := .ref l0) rfl trivial dX14_walk_92 ?_
        obtain ⟨x93, e93, hs⟩ := aB hs
        refine ev_get C (ci := 14) (k := 69) rfl wu_14 (by decide) wf_X14_151 (gO_F e93) dX14_walk_93 ?_
        refine ev_iload_n C rfl dX14_walk_96 ?_
        obtain ⟨x97, e97, hs⟩ := aB hs
        refine ev_iald C e97 dX14_walk_97 ?_
        refine ev_isub C dX14_walk_98 ?_
        obtain ⟨eo99, hs⟩ := kO_at hs
        obtain ⟨x99, h99, e99, hs⟩ := cI_at hs
        refine ev_callV C (T_X14_done _ _ _ _ _ e99) (ci := 14) rfl eo99 wc_X14_done wm_X14_413 wi_X14_done ws_X14_done wz_X14 hy_X14_done ⟨(Nat.le_of_ble_eq_true rfl), (Nat.le_of_ble_eq_true rfl)⟩ ⟨(Nat.le_refl _), (Nat.le_refl _)⟩ (Nat.le_of_ble_eq_true rfl) rfl dX14_walk_99 ?_
        cases hs
        exact ev_iret C rfl rfl (Nat.le_refl _) (Nat.le_refl _) rfl dX14_walk_102
    · replace hs := (if_pos q70).symm.trans hs
      refine ev_aload_n C (x := .ref l0) rfl trivial dX14_walk_73 ?_
      refine ev_bipush C (v := (-2)) dX14_walk_74 (by decide) ?_
      obtain ⟨eo76, hs⟩ := kO_at hs
      obtain ⟨x76, h76, e76, hs⟩ := cI_at hs
      refine ev_callV C (T_X14_done _ _ _ _ _ e76) (ci := 14) rfl eo76 wc_X14_done wm_X14_413 wi_X14_done ws_X14_done wz_X14 hy_X14_done ⟨(Nat.le_of_ble_eq_true rfl), (Nat.le_of_ble_eq_true rfl)⟩ ⟨(Nat.le_refl _), (Nat.le_refl _)⟩ (Nat.le_of_ble_eq_true rfl) rfl dX14_walk_76 ?_
      cases hs
      exact ev_iret C rfl rfl (Nat.le_refl _) (Nat.le_refl _) rfl dX14_walk_79
theorem t_X14_walk_59 (C : Cx p l s m args meth c B0 X RX14 "walk" cX14_walk 4 (some .int) [])   : ∀ (n : Nat) {l0 : Nat} {l2 : Int32} {l3 : Int32} {h : aH} (hs : s_X14_walk_59  n l0 l2 l3 h = some (r, h')), Ev p l e { frames := 4, cells := mc, slots := ms, locals := 91 } s m args below meth c D B0 X ws0 r h' mc ms 4 mc ms 59 [some (.ref l0), none, some (.int l2), some (.int l3)] [] h
  | 0, _, _, _, _, hs => nomatch hs
  | n + 1, _, _, _, _, hs => t_X14_walk_59_b C  (k59 := s_X14_walk_59  n) (fun _ _ _ _ hs => t_X14_walk_59 C  n hs) hs
theorem t_X14_walk_34_b (C : Cx p l s m args meth c B0 X RX14 "walk" cX14_walk 4 (some .int) [])   {k34 : Nat → Int32 → Int32 → aH → aO} (K34 : ∀ (l0 : Nat) (l1 : Int32) (l2 : Int32) (h : aH), k34 l0 l1 l2 h = some (r, h') → Ev p l e { frames := 4, cells := mc, slots := ms, locals := 91 } s m args below meth c D B0 X ws0 r h' mc ms 4 mc ms 34 [some (.ref l0), some (.int l1), some (.int l2), none] [] h) {l0 : Nat} {l1 : Int32} {l2 : Int32} {h : aH} (hs : s_X14_walk_34_b  k34 l0 l1 l2 h = some (r, h')) : Ev p l e { frames := 4, cells := mc, slots := ms, locals := 91 } s m args below meth c D B0 X ws0 r h' mc ms 4 mc ms 34 [some (.ref l0), some (.int l1), some (.int l2), none] [] h := by
  unfold s_X14_walk_34_b at hs
  refine ev_iload_n C rfl dX14_walk_34 ?_
  refine ev_aload_n C (x := .ref l0) rfl trivial dX14_walk_35 ?_
  obtain ⟨x36, e36, hs⟩ := aB hs
  refine ev_get C (ci := 14) (k := 20) rfl wu_14 (by decide) wf_X14_379 (gI_F e36) dX14_walk_36 ?_
  refine ev_icmp_ge C (tgt := 55) (by decide) dX14_walk_39 (fun q39 => ?_) (fun q39 => ?_)
  · replace hs := (if_pos q39).symm.trans hs
    refine ev_iload_n C rfl dX14_walk_55 ?_
    refine ev_istore_n C (by decide) dX14_walk_56 ?_
    refine ev_iconst C (v := 0) dX14_walk_57 (by decide) ?_
    refine ev_istore_n C (by decide) dX14_walk_58 ?_
    exact Ev.keep [true, false, true, true] (t_X14_walk_59 C  FU hs)
  · replace hs := (if_neg q39).symm.trans hs
    refine ev_aload_n C (x := .ref l0) rfl trivial dX14_walk_42 ?_
    obtain ⟨x43, e43, hs⟩ := aB hs
    refine ev_get C (ci := 14) (k := 69) rfl wu_14 (by decide) wf_X14_151 (gO_F e43) dX14_walk_43 ?_
    refine ev_iload_n C rfl dX14_walk_46 ?_
    refine ev_iconst C (v := (-1)) dX14_walk_47 (by decide) ?_
    obtain ⟨h48, e48, hs⟩ := aB hs
    refine ev_iast C e48 dX14_walk_48 ?_
    refine ev_iinc C (i := 2) (n := 1) (x := l2) (v := l2 + 1) rfl (congrArg (fun z => l2 + z) (show Int32.ofInt 1 = 1 by decide)) (by decide) dX14_walk_49 ?_
    refine ev_goto C (tgt := 34) (by decide) dX14_walk_52 ?_
    exact (K34 _ _ _ _ hs)
theorem t_X14_walk_34 (C : Cx p l s m args meth c B0 X RX14 "walk" cX14_walk 4 (some .int) [])   : ∀ (n : Nat) {l0 : Nat} {l1 : Int32} {l2 : Int32} {h : aH} (hs : s_X14_walk_34  n l0 l1 l2 h = some (r, h')), Ev p l e { frames := 4, cells := mc, slots := ms, locals := 91 } s m args below meth c D B0 X ws0 r h' mc ms 4 mc ms 34 [some (.ref l0), some (.int l1), some (.int l2), none] [] h
  | 0, _, _, _, _, hs => nomatch hs
  | n + 1, _, _, _, _, hs => t_X14_walk_34_b C  (k34 := s_X14_walk_34  n) (fun _ _ _ _ hs => t_X14_walk_34 C  n hs) hs
theorem hy_X14_walk : yX14_walk.cls ≠ "java/lang/invoke/MethodHandle" ∧ yX14_walk.cls ≠ "java/lang/invoke/VarHandle" ∧ (parseMethodDescriptor yX14_walk.desc).map (fun d => d.parameters.length) = some 1 := by decide +kernel
theorem T_X14_walk (o : Nat) (a1 : Int32) (h : aH) (r : aR) (h' : aH) (hs : s_X14_walk o a1 h = some (r, h')) : Mt yX14_walk (Cond.code yX14_walk cX14_walk 4 (some .int) :: aTB) 4 91 0 0 [.ref o, .int a1] h r h' := by
  unfold s_X14_walk at hs
  refine Mt_of (k := 2) (by decide) rfl (fun p l e s m args below meth c D B0 X ws0 C => ?_)
  show Ev p l e { frames := 4, cells := 0, slots := 0, locals := 91 } s m args below meth c D B0 X ws0 r h' 0 0 4 0 0 0 [some (.ref o), some (.int a1), none, none] [] h
  refine ev_aload_n C (x := .ref o) rfl trivial dX14_walk_0 ?_
  refine ev_iconst C (v := 0) dX14_walk_1 (by decide) ?_
  obtain ⟨h2, e2, hs⟩ := aB hs
  refine ev_put C (ci := 14) (k := 0) rfl wu_14 (by decide) tyX14 tyX14_ok nmX14 wf_X14_154 rfl trivial e2 dX14_walk_2 ?_
  refine ev_aload_n C (x := .ref o) rfl trivial dX14_walk_5 ?_
  refine ev_iload_n C rfl dX14_walk_6 ?_
  obtain ⟨eo7, hs⟩ := kO_at hs
  obtain ⟨x7, h7, e7, hs⟩ := cI_at hs
  refine ev_callV C (T_X14_isCell _ _ _ _ _ e7) (ci := 14) rfl eo7 wc_X14_isCell wm_X14_474 wi_X14_isCell ws_X14_isCell wz_X14 hy_X14_isCell ⟨(Nat.le_of_ble_eq_true rfl), (Nat.le_of_ble_eq_true rfl)⟩ ⟨(Nat.le_refl _), (Nat.le_refl _)⟩ (Nat.le_of_ble_eq_true rfl) rfl dX14_walk_7 ?_
  refine ev_if_ne C (tgt := 19) (by decide) dX14_walk_10 (fun q10 => ?_) (fun q10 => ?_)
  · replace hs := (if_neg q10).symm.trans hs
    refine ev_aload_n C (x := .ref o) rfl trivial dX14_walk_19 ?_
    obtain ⟨eo20, hs⟩ := kO_at hs
    obtain ⟨x20, h20, e20, hs⟩ := cI_at hs
    refine ev_callV C (T_X14_isOne _ _ _ _ e20) (ci := 14) rfl eo20 wc_X14_isOne wm_X14_629 wi_X14_isOne ws_X14_isOne wz_X14 hy_X14_isOne ⟨(Nat.le_of_ble_eq_true rfl), (Nat.le_of_ble_eq_true rfl)⟩ ⟨(Nat.le_refl _), (Nat.le_refl _)⟩ (Nat.le_of_ble_eq_true rfl) rfl dX14_walk_20 ?_
    refine ev_if_ne C (tgt := 32) (by decide) dX14_walk_23 (fun q23 => ?_) (fun q23 => ?_)
    · replace hs := (if_neg q23).symm.trans hs
      refine ev_iconst C (v := 0) dX14_walk_32 (by decide) ?_
      refine ev_istore_n C (by decide) dX14_walk_33 ?_
      exact (t_X14_walk_34 C  FU hs)
    · replace hs := (if_pos q23).symm.trans hs
      refine ev_aload_n C (x := .ref o) rfl trivial dX14_walk_26 ?_
      refine ev_iconst C (v := 5) dX14_walk_27 (by decide) ?_
      obtain ⟨eo28, hs⟩ := kO_at hs
      obtain ⟨x28, h28, e28, hs⟩ := cI_at hs
      refine ev_callV C (T_X14_refused _ _ _ _ _ e28) (ci := 14) rfl eo28 wc_X14_refused wm_X14_360 wi_X14_refused ws_X14_refused wz_X14 hy_X14_refused ⟨(Nat.le_of_ble_eq_true rfl), (Nat.le_of_ble_eq_true rfl)⟩ ⟨(Nat.le_refl _), (Nat.le_refl _)⟩ (Nat.le_of_ble_eq_true rfl) rfl dX14_walk_28 ?_
      cases hs
      exact ev_iret C rfl rfl (Nat.le_refl _) (Nat.le_refl _) rfl dX14_walk_31
  · replace hs := (if_pos q10).symm.trans hs
    refine ev_aload_n C (x := .ref o) rfl trivial dX14_walk_13 ?_
    refine ev_iconst C (v := 1) dX14_walk_14 (by decide) ?_
    obtain ⟨eo15, hs⟩ := kO_at hs
    obtain ⟨x15, h15, e15, hs⟩ := cI_at hs
    refine ev_callV C (T_X14_refused _ _ _ _ _ e15) (ci := 14) rfl eo15 wc_X14_refused wm_X14_360 wi_X14_refused ws_X14_refused wz_X14 hy_X14_refused ⟨(Nat.le_of_ble_eq_true rfl), (Nat.le_of_ble_eq_true rfl)⟩ ⟨(Nat.le_refl _), (Nat.le_refl _)⟩ (Nat.le_of_ble_eq_true rfl) rfl dX14_walk_15 ?_
    cases hs
    exact ev_iret C rfl rfl (Nat.le_refl _) (Nat.le_refl _) rfl dX14_walk_18
end
-- X14_claim
theorem dX14_claim_0 : decode cX14_claim 0 = .ok (.aload_n 0, 1) := by decide +kernel
theorem dX14_claim_1 : decode cX14_claim 1 = .ok (.iconst 0, 1) := by decide +kernel
theorem dX14_claim_2 : decode cX14_claim 2 = .ok (.putfield 154, 3) := by decide +kernel
theorem dX14_claim_5 : decode cX14_claim 5 = .ok (.aload_n 0, 1) := by decide +kernel
theorem dX14_claim_6 : decode cX14_claim 6 = .ok (.iload_n 1, 1) := by decide +kernel
theorem dX14_claim_7 : decode cX14_claim 7 = .ok (.invokevirtual 474, 3) := by decide +kernel
theorem dX14_claim_10 : decode cX14_claim 10 = .ok (.ifCond .ne 9, 3) := by decide +kernel
theorem dX14_claim_13 : decode cX14_claim 13 = .ok (.aload_n 0, 1) := by decide +kernel
theorem dX14_claim_14 : decode cX14_claim 14 = .ok (.iconst 1, 1) := by decide +kernel
theorem dX14_claim_15 : decode cX14_claim 15 = .ok (.invokevirtual 604, 3) := by decide +kernel
theorem dX14_claim_18 : decode cX14_claim 18 = .ok (.ireturn, 1) := by decide +kernel
theorem dX14_claim_19 : decode cX14_claim 19 = .ok (.iload_n 2, 1) := by decide +kernel
theorem dX14_claim_20 : decode cX14_claim 20 = .ok (.iconst (-1), 1) := by decide +kernel
theorem dX14_claim_21 : decode cX14_claim 21 = .ok (.sipush 999, 3) := by decide +kernel
theorem dX14_claim_24 : decode cX14_claim 24 = .ok (.invokestatic 313, 3) := by decide +kernel
theorem dX14_claim_27 : decode cX14_claim 27 = .ok (.ifCond .ne 9, 3) := by decide +kernel
theorem dX14_claim_30 : decode cX14_claim 30 = .ok (.aload_n 0, 1) := by decide +kernel
theorem dX14_claim_31 : decode cX14_claim 31 = .ok (.iconst 2, 1) := by decide +kernel
theorem dX14_claim_32 : decode cX14_claim 32 = .ok (.invokevirtual 604, 3) := by decide +kernel
theorem dX14_claim_35 : decode cX14_claim 35 = .ok (.ireturn, 1) := by decide +kernel
theorem dX14_claim_36 : decode cX14_claim 36 = .ok (.aload_n 0, 1) := by decide +kernel
theorem dX14_claim_37 : decode cX14_claim 37 = .ok (.dup, 1) := by decide +kernel
theorem dX14_claim_38 : decode cX14_claim 38 = .ok (.getfield 394, 3) := by decide +kernel
theorem dX14_claim_41 : decode cX14_claim 41 = .ok (.iload_n 2, 1) := by decide +kernel
theorem dX14_claim_42 : decode cX14_claim 42 = .ok (.iconst (-1), 1) := by decide +kernel
theorem dX14_claim_43 : decode cX14_claim 43 = .ok (.if_icmp .ne 7, 3) := by decide +kernel
theorem dX14_claim_46 : decode cX14_claim 46 = .ok (.iconst 0, 1) := by decide +kernel
theorem dX14_claim_47 : decode cX14_claim 47 = .ok (.goto 4, 3) := by decide +kernel
theorem dX14_claim_50 : decode cX14_claim 50 = .ok (.iconst 1, 1) := by decide +kernel
theorem dX14_claim_51 : decode cX14_claim 51 = .ok (.aload_n 0, 1) := by decide +kernel
theorem dX14_claim_52 : decode cX14_claim 52 = .ok (.getfield 51, 3) := by decide +kernel
theorem dX14_claim_55 : decode cX14_claim 55 = .ok (.iload_n 1, 1) := by decide +kernel
theorem dX14_claim_56 : decode cX14_claim 56 = .ok (.iaload, 1) := by decide +kernel
theorem dX14_claim_57 : decode cX14_claim 57 = .ok (.iconst (-1), 1) := by decide +kernel
theorem dX14_claim_58 : decode cX14_claim 58 = .ok (.if_icmp .ne 7, 3) := by decide +kernel
theorem dX14_claim_61 : decode cX14_claim 61 = .ok (.iconst 0, 1) := by decide +kernel
theorem dX14_claim_62 : decode cX14_claim 62 = .ok (.goto 4, 3) := by decide +kernel
theorem dX14_claim_65 : decode cX14_claim 65 = .ok (.iconst 1, 1) := by decide +kernel
theorem dX14_claim_66 : decode cX14_claim 66 = .ok (.isub, 1) := by decide +kernel
theorem dX14_claim_67 : decode cX14_claim 67 = .ok (.iadd, 1) := by decide +kernel
theorem dX14_claim_68 : decode cX14_claim 68 = .ok (.putfield 394, 3) := by decide +kernel
theorem dX14_claim_71 : decode cX14_claim 71 = .ok (.aload_n 0, 1) := by decide +kernel
theorem dX14_claim_72 : decode cX14_claim 72 = .ok (.getfield 51, 3) := by decide +kernel
theorem dX14_claim_75 : decode cX14_claim 75 = .ok (.iload_n 1, 1) := by decide +kernel
theorem dX14_claim_76 : decode cX14_claim 76 = .ok (.iload_n 2, 1) := by decide +kernel
theorem dX14_claim_77 : decode cX14_claim 77 = .ok (.iastore, 1) := by decide +kernel
theorem dX14_claim_78 : decode cX14_claim 78 = .ok (.aload_n 0, 1) := by decide +kernel
theorem dX14_claim_79 : decode cX14_claim 79 = .ok (.invokevirtual 607, 3) := by decide +kernel
theorem dX14_claim_82 : decode cX14_claim 82 = .ok (.ireturn, 1) := by decide +kernel
def s_X14_claim_66  (l0 : Nat) (l1 : Int32) (l2 : Int32) (s0 : Int32) (s1 : Int32) (s2 : Int32) (s3 : Nat) (h : aH) : aO :=
  (pF h (.ref s3) 14 32 (.int (s2 + (s1 - s0)))).bind fun h68 => (gO h68 (.ref l0) 14 31).bind fun x72 => (stI h68 (.ref x72) l1 l2).bind fun h77 => kO h77 l0 14 (cI (s_X14_granted l0 h77) fun x79 h79 => rtZ x79 h79)
def s_X14_claim_51  (l0 : Nat) (l1 : Int32) (l2 : Int32) (s0 : Int32) (s1 : Int32) (s2 : Nat) (h : aH) : aO :=
  (gO h (.ref l0) 14 31).bind fun x52 => (ldI .int h (.ref x52) l1).bind fun x56 => if x56 = (-1) then (s_X14_claim_66 l0 l1 l2 0 s0 s1 s2 h) else (s_X14_claim_66 l0 l1 l2 1 s0 s1 s2 h)
def s_X14_claim (o : Nat) (a1 : Int32) (a2 : Int32) (h : aH) : aO :=
  (pF h (.ref o) 14 0 (.int 0)).bind fun h2 => kO h2 o 14 (cI (s_X14_isCell o a1 h2) fun x7 h7 => if x7 = 0 then (kO h7 o 14 (cI (s_X14_denied o 1 h7) fun x15 h15 => rtZ x15 h15)) else (cI (s_X14_in a2 (-1) 999 h7) fun x24 h24 => if x24 = 0 then (kO h24 o 14 (cI (s_X14_denied o 2 h24) fun x32 h32 => rtZ x32 h32)) else ((gI h24 (.ref o) 14 32).bind fun x38 => if a2 = (-1) then (s_X14_claim_51 o a1 a2 0 x38 o h24) else (s_X14_claim_51 o a1 a2 1 x38 o h24))))
section
variable {p : Program} {l : Launch} {e : Env} {s : State} {m : MethodId} {args : Array Value} {below : List Frame} {meth : Method} {c : Code} {D : va_G} {B0 : Nat} {X : Nat → Nat} {ws0 : va_W} {r : aR} {h' : aH} {mc ms : Nat}
theorem t_X14_claim_66 (C : Cx p l s m args meth c B0 X RX14 "claim" cX14_claim 3 (some .boolean) [])   {l0 : Nat} {l1 : Int32} {l2 : Int32} {s0 : Int32} {s1 : Int32} {s2 : Int32} {s3 : Nat} {h : aH} (hs : s_X14_claim_66  l0 l1 l2 s0 s1 s2 s3 h = some (r, h')) : Ev p l e { frames := 2, cells := mc, slots := ms, locals := 43 } s m args below meth c D B0 X ws0 r h' mc ms 3 mc ms 66 [some (.ref l0), some (.int l1), some (.int l2)] [.int s0, .int s1, .int s2, .ref s3] h := by
  unfold s_X14_claim_66 at hs
  refine ev_isub C dX14_claim_66 ?_
  refine ev_iadd C dX14_claim_67 ?_
  obtain ⟨h68, e68, hs⟩ := aB hs
  refine ev_put C (ci := 14) (k := 32) rfl wu_14 (by decide) tyX14 tyX14_ok nmX14 wf_X14_394 rfl trivial e68 dX14_claim_68 ?_
  refine ev_aload_n C (x := .ref l0) rfl trivial dX14_claim_71 ?_
  obtain ⟨x72, e72, hs⟩ := aB hs
  refine ev_get C (ci := 14) (k := 31) rfl wu_14 (by decide) wf_X14_51 (gO_F e72) dX14_claim_72 ?_
  refine ev_iload_n C rfl dX14_claim_75 ?_
  refine ev_iload_n C rfl dX14_claim_76 ?_
  obtain ⟨h77, e77, hs⟩ := aB hs
  refine ev_iast C e77 dX14_claim_77 ?_
  refine ev_aload_n C (x := .ref l0) rfl trivial dX14_claim_78 ?_
  obtain ⟨eo79, hs⟩ := kO_at hs
  obtain ⟨x79, h79, e79, hs⟩ := cI_at hs
  refine ev_callV C (T_X14_granted _ _ _ _ e79) (ci := 14) rfl eo79 wc_X14_granted wm_X14_607 wi_X14_granted ws_X14_granted wz_X14 hy_X14_granted ⟨(Nat.le_of_ble_eq_true rfl), (Nat.le_of_ble_eq_true rfl)⟩ ⟨(Nat.le_refl _), (Nat.le_refl _)⟩ (Nat.le_of_ble_eq_true rfl) rfl dX14_claim_79 ?_
  obtain ⟨hz, rfl, rfl⟩ := rtZ_at hs
  exact ev_zret C rfl hz rfl (Nat.le_refl _) (Nat.le_refl _) rfl dX14_claim_82
theorem t_X14_claim_51 (C : Cx p l s m args meth c B0 X RX14 "claim" cX14_claim 3 (some .boolean) [])   {l0 : Nat} {l1 : Int32} {l2 : Int32} {s0 : Int32} {s1 : Int32} {s2 : Nat} {h : aH} (hs : s_X14_claim_51  l0 l1 l2 s0 s1 s2 h = some (r, h')) : Ev p l e { frames := 2, cells := mc, slots := ms, locals := 43 } s m args below meth c D B0 X ws0 r h' mc ms 3 mc ms 51 [some (.ref l0), some (.int l1), some (.int l2)] [.int s0, .int s1, .ref s2] h := by
  unfold s_X14_claim_51 at hs
  refine ev_aload_n C (x := .ref l0) rfl trivial dX14_claim_51 ?_
  obtain ⟨x52, e52, hs⟩ := aB hs
  refine ev_get C (ci := 14) (k := 31) rfl wu_14 (by decide) wf_X14_51 (gO_F e52) dX14_claim_52 ?_
  refine ev_iload_n C rfl dX14_claim_55 ?_
  obtain ⟨x56, e56, hs⟩ := aB hs
  refine ev_iald C e56 dX14_claim_56 ?_
  refine ev_iconst C (v := (-1)) dX14_claim_57 (by decide) ?_
  refine ev_icmp_ne C (tgt := 65) (by decide) dX14_claim_58 (fun q58 => ?_) (fun q58 => ?_)
  · replace hs := (if_neg q58).symm.trans hs
    refine ev_iconst C (v := 1) dX14_claim_65 (by decide) ?_
    exact (t_X14_claim_66 C  hs)
  · replace hs := (if_pos q58).symm.trans hs
    refine ev_iconst C (v := 0) dX14_claim_61 (by decide) ?_
    refine ev_goto C (tgt := 66) (by decide) dX14_claim_62 ?_
    exact (t_X14_claim_66 C  hs)
theorem hy_X14_claim : yX14_claim.cls ≠ "java/lang/invoke/MethodHandle" ∧ yX14_claim.cls ≠ "java/lang/invoke/VarHandle" ∧ (parseMethodDescriptor yX14_claim.desc).map (fun d => d.parameters.length) = some 2 := by decide +kernel
theorem T_X14_claim (o : Nat) (a1 : Int32) (a2 : Int32) (h : aH) (r : aR) (h' : aH) (hs : s_X14_claim o a1 a2 h = some (r, h')) : Mt yX14_claim (Cond.code yX14_claim cX14_claim 3 (some .boolean) :: aTB) 2 43 0 0 [.ref o, .int a1, .int a2] h r h' := by
  unfold s_X14_claim at hs
  refine Mt_of (k := 0) (by decide) rfl (fun p l e s m args below meth c D B0 X ws0 C => ?_)
  show Ev p l e { frames := 2, cells := 0, slots := 0, locals := 43 } s m args below meth c D B0 X ws0 r h' 0 0 3 0 0 0 [some (.ref o), some (.int a1), some (.int a2)] [] h
  refine ev_aload_n C (x := .ref o) rfl trivial dX14_claim_0 ?_
  refine ev_iconst C (v := 0) dX14_claim_1 (by decide) ?_
  obtain ⟨h2, e2, hs⟩ := aB hs
  refine ev_put C (ci := 14) (k := 0) rfl wu_14 (by decide) tyX14 tyX14_ok nmX14 wf_X14_154 rfl trivial e2 dX14_claim_2 ?_
  refine ev_aload_n C (x := .ref o) rfl trivial dX14_claim_5 ?_
  refine ev_iload_n C rfl dX14_claim_6 ?_
  obtain ⟨eo7, hs⟩ := kO_at hs
  obtain ⟨x7, h7, e7, hs⟩ := cI_at hs
  refine ev_callV C (T_X14_isCell _ _ _ _ _ e7) (ci := 14) rfl eo7 wc_X14_isCell wm_X14_474 wi_X14_isCell ws_X14_isCell wz_X14 hy_X14_isCell ⟨(Nat.le_of_ble_eq_true rfl), (Nat.le_of_ble_eq_true rfl)⟩ ⟨(Nat.le_refl _), (Nat.le_refl _)⟩ (Nat.le_of_ble_eq_true rfl) rfl dX14_claim_7 ?_
  refine ev_if_ne C (tgt := 19) (by decide) dX14_claim_10 (fun q10 => ?_) (fun q10 => ?_)
  · replace hs := (if_neg q10).symm.trans hs
    refine ev_iload_n C rfl dX14_claim_19 ?_
    refine ev_iconst C (v := (-1)) dX14_claim_20 (by decide) ?_
    refine ev_sipush C (v := 999) dX14_claim_21 (by decide) ?_
    obtain ⟨x24, h24, e24, hs⟩ := cI_at hs
    refine ev_callS C (T_X14_in _ _ _ _ _ _ e24) wc_X14_in wm_X14_313 wt_X14_in wz_X14 hy_X14_in ⟨(Nat.le_of_ble_eq_true rfl), (Nat.le_of_ble_eq_true rfl)⟩ ⟨(Nat.le_refl _), (Nat.le_refl _)⟩ (Nat.le_of_ble_eq_true rfl) rfl dX14_claim_24 ?_
    refine ev_if_ne C (tgt := 36) (by decide) dX14_claim_27 (fun q27 => ?_) (fun q27 => ?_)
    · replace hs := (if_neg q27).symm.trans hs
      refine ev_aload_n C (x := .ref o) rfl trivial dX14_claim_36 ?_
      refine ev_dup C rfl dX14_claim_37 ?_
      obtain ⟨x38, e38, hs⟩ := aB hs
      refine ev_get C (ci := 14) (k := 32) rfl wu_14 (by decide) wf_X14_394 (gI_F e38) dX14_claim_38 ?_
      refine ev_iload_n C rfl dX14_claim_41 ?_
      refine ev_iconst C (v := (-1)) dX14_claim_42 (by decide) ?_
      refine ev_icmp_ne C (tgt := 50) (by decide) dX14_claim_43 (fun q43 => ?_) (fun q43 => ?_)
      · replace hs := (if_neg q43).symm.trans hs
        refine ev_iconst C (v := 1) dX14_claim_50 (by decide) ?_
        exact (t_X14_claim_51 C  hs)
      · replace hs := (if_pos q43).symm.trans hs
        refine ev_iconst C (v := 0) dX14_claim_46 (by decide) ?_
        refine ev_goto C (tgt := 51) (by decide) dX14_claim_47 ?_
        exact (t_X14_claim_51 C  hs)
    · replace hs := (if_pos q27).symm.trans hs
      refine ev_aload_n C (x := .ref o) rfl trivial dX14_claim_30 ?_
      refine ev_iconst C (v := 2) dX14_claim_31 (by decide) ?_
      obtain ⟨eo32, hs⟩ := kO_at hs
      obtain ⟨x32, h32, e32, hs⟩ := cI_at hs
      refine ev_callV C (T_X14_denied _ _ _ _ _ e32) (ci := 14) rfl eo32 wc_X14_denied wm_X14_604 wi_X14_denied ws_X14_denied wz_X14 hy_X14_denied ⟨(Nat.le_of_ble_eq_true rfl), (Nat.le_of_ble_eq_true rfl)⟩ ⟨(Nat.le_refl _), (Nat.le_refl _)⟩ (Nat.le_of_ble_eq_true rfl) rfl dX14_claim_32 ?_
      obtain ⟨hz, rfl, rfl⟩ := rtZ_at hs
      exact ev_zret C rfl hz rfl (Nat.le_refl _) (Nat.le_refl _) rfl dX14_claim_35
  · replace hs := (if_pos q10).symm.trans hs
    refine ev_aload_n C (x := .ref o) rfl trivial dX14_claim_13 ?_
    refine ev_iconst C (v := 1) dX14_claim_14 (by decide) ?_
    obtain ⟨eo15, hs⟩ := kO_at hs
    obtain ⟨x15, h15, e15, hs⟩ := cI_at hs
    refine ev_callV C (T_X14_denied _ _ _ _ _ e15) (ci := 14) rfl eo15 wc_X14_denied wm_X14_604 wi_X14_denied ws_X14_denied wz_X14 hy_X14_denied ⟨(Nat.le_of_ble_eq_true rfl), (Nat.le_of_ble_eq_true rfl)⟩ ⟨(Nat.le_refl _), (Nat.le_refl _)⟩ (Nat.le_of_ble_eq_true rfl) rfl dX14_claim_15 ?_
    obtain ⟨hz, rfl, rfl⟩ := rtZ_at hs
    exact ev_zret C rfl hz rfl (Nat.le_refl _) (Nat.le_refl _) rfl dX14_claim_18
end
-- X14_holds
theorem dX14_holds_0 : decode cX14_holds 0 = .ok (.aload_n 0, 1) := by decide +kernel
theorem dX14_holds_1 : decode cX14_holds 1 = .ok (.getfield 37, 3) := by decide +kernel
theorem dX14_holds_4 : decode cX14_holds 4 = .ok (.iload_n 1, 1) := by decide +kernel
theorem dX14_holds_5 : decode cX14_holds 5 = .ok (.baload, 1) := by decide +kernel
theorem dX14_holds_6 : decode cX14_holds 6 = .ok (.ifCond .ne 5, 3) := by decide +kernel
theorem dX14_holds_9 : decode cX14_holds 9 = .ok (.iconst 0, 1) := by decide +kernel
theorem dX14_holds_10 : decode cX14_holds 10 = .ok (.ireturn, 1) := by decide +kernel
theorem dX14_holds_11 : decode cX14_holds 11 = .ok (.aload_n 0, 1) := by decide +kernel
theorem dX14_holds_12 : decode cX14_holds 12 = .ok (.getfield 51, 3) := by decide +kernel
theorem dX14_holds_15 : decode cX14_holds 15 = .ok (.iload_n 1, 1) := by decide +kernel
theorem dX14_holds_16 : decode cX14_holds 16 = .ok (.iaload, 1) := by decide +kernel
theorem dX14_holds_17 : decode cX14_holds 17 = .ok (.ifCond .ne 10, 3) := by decide +kernel
theorem dX14_holds_20 : decode cX14_holds 20 = .ok (.aload_n 0, 1) := by decide +kernel
theorem dX14_holds_21 : decode cX14_holds 21 = .ok (.getfield 41, 3) := by decide +kernel
theorem dX14_holds_24 : decode cX14_holds 24 = .ok (.iload_n 1, 1) := by decide +kernel
theorem dX14_holds_25 : decode cX14_holds 25 = .ok (.baload, 1) := by decide +kernel
theorem dX14_holds_26 : decode cX14_holds 26 = .ok (.ireturn, 1) := by decide +kernel
theorem dX14_holds_27 : decode cX14_holds 27 = .ok (.iconst 0, 1) := by decide +kernel
theorem dX14_holds_28 : decode cX14_holds 28 = .ok (.istore_n 2, 1) := by decide +kernel
theorem dX14_holds_29 : decode cX14_holds 29 = .ok (.iconst 0, 1) := by decide +kernel
theorem dX14_holds_30 : decode cX14_holds 30 = .ok (.istore_n 3, 1) := by decide +kernel
theorem dX14_holds_31 : decode cX14_holds 31 = .ok (.iload_n 3, 1) := by decide +kernel
theorem dX14_holds_32 : decode cX14_holds 32 = .ok (.aload_n 0, 1) := by decide +kernel
theorem dX14_holds_33 : decode cX14_holds 33 = .ok (.getfield 382, 3) := by decide +kernel
theorem dX14_holds_36 : decode cX14_holds 36 = .ok (.if_icmp .ge 101, 3) := by decide +kernel
theorem dX14_holds_39 : decode cX14_holds 39 = .ok (.iconst 1, 1) := by decide +kernel
theorem dX14_holds_40 : decode cX14_holds 40 = .ok (.istore 4, 2) := by decide +kernel
theorem dX14_holds_42 : decode cX14_holds 42 = .ok (.iconst 0, 1) := by decide +kernel
theorem dX14_holds_43 : decode cX14_holds 43 = .ok (.istore 5, 2) := by decide +kernel
theorem dX14_holds_45 : decode cX14_holds 45 = .ok (.iload 5, 2) := by decide +kernel
theorem dX14_holds_47 : decode cX14_holds 47 = .ok (.aload_n 0, 1) := by decide +kernel
theorem dX14_holds_48 : decode cX14_holds 48 = .ok (.getfield 388, 3) := by decide +kernel
theorem dX14_holds_51 : decode cX14_holds 51 = .ok (.if_icmp .ge 65, 3) := by decide +kernel
theorem dX14_holds_54 : decode cX14_holds 54 = .ok (.aload_n 0, 1) := by decide +kernel
theorem dX14_holds_55 : decode cX14_holds 55 = .ok (.iload_n 1, 1) := by decide +kernel
theorem dX14_holds_56 : decode cX14_holds 56 = .ok (.iload_n 3, 1) := by decide +kernel
theorem dX14_holds_57 : decode cX14_holds 57 = .ok (.iload 5, 2) := by decide +kernel
theorem dX14_holds_59 : decode cX14_holds 59 = .ok (.invokevirtual 483, 3) := by decide +kernel
theorem dX14_holds_62 : decode cX14_holds 62 = .ok (.istore 6, 2) := by decide +kernel
theorem dX14_holds_64 : decode cX14_holds 64 = .ok (.iload 4, 2) := by decide +kernel
theorem dX14_holds_66 : decode cX14_holds 66 = .ok (.ifCond .eq 41, 3) := by decide +kernel
theorem dX14_holds_69 : decode cX14_holds 69 = .ok (.iload 6, 2) := by decide +kernel
theorem dX14_holds_71 : decode cX14_holds 71 = .ok (.bipush (-2), 2) := by decide +kernel
theorem dX14_holds_73 : decode cX14_holds 73 = .ok (.if_icmp .eq 34, 3) := by decide +kernel
theorem dX14_holds_76 : decode cX14_holds 76 = .ok (.aload_n 0, 1) := by decide +kernel
theorem dX14_holds_77 : decode cX14_holds 77 = .ok (.getfield 51, 3) := by decide +kernel
theorem dX14_holds_80 : decode cX14_holds 80 = .ok (.iload 6, 2) := by decide +kernel
theorem dX14_holds_82 : decode cX14_holds 82 = .ok (.iaload, 1) := by decide +kernel
theorem dX14_holds_83 : decode cX14_holds 83 = .ok (.iconst (-1), 1) := by decide +kernel
theorem dX14_holds_84 : decode cX14_holds 84 = .ok (.if_icmp .eq 23, 3) := by decide +kernel
theorem dX14_holds_87 : decode cX14_holds 87 = .ok (.aload_n 0, 1) := by decide +kernel
theorem dX14_holds_88 : decode cX14_holds 88 = .ok (.getfield 51, 3) := by decide +kernel
theorem dX14_holds_91 : decode cX14_holds 91 = .ok (.iload 6, 2) := by decide +kernel
theorem dX14_holds_93 : decode cX14_holds 93 = .ok (.iaload, 1) := by decide +kernel
theorem dX14_holds_94 : decode cX14_holds 94 = .ok (.aload_n 0, 1) := by decide +kernel
theorem dX14_holds_95 : decode cX14_holds 95 = .ok (.getfield 51, 3) := by decide +kernel
theorem dX14_holds_98 : decode cX14_holds 98 = .ok (.iload_n 1, 1) := by decide +kernel
theorem dX14_holds_99 : decode cX14_holds 99 = .ok (.iaload, 1) := by decide +kernel
theorem dX14_holds_100 : decode cX14_holds 100 = .ok (.if_icmp .ge 7, 3) := by decide +kernel
theorem dX14_holds_103 : decode cX14_holds 103 = .ok (.iconst 1, 1) := by decide +kernel
theorem dX14_holds_104 : decode cX14_holds 104 = .ok (.goto 4, 3) := by decide +kernel
theorem dX14_holds_107 : decode cX14_holds 107 = .ok (.iconst 0, 1) := by decide +kernel
theorem dX14_holds_108 : decode cX14_holds 108 = .ok (.istore 4, 2) := by decide +kernel
theorem dX14_holds_110 : decode cX14_holds 110 = .ok (.iinc 5 1, 3) := by decide +kernel
theorem dX14_holds_113 : decode cX14_holds 113 = .ok (.goto (-68), 3) := by decide +kernel
theorem dX14_holds_116 : decode cX14_holds 116 = .ok (.iload_n 2, 1) := by decide +kernel
theorem dX14_holds_117 : decode cX14_holds 117 = .ok (.ifCond .ne 8, 3) := by decide +kernel
theorem dX14_holds_120 : decode cX14_holds 120 = .ok (.iload 4, 2) := by decide +kernel
theorem dX14_holds_122 : decode cX14_holds 122 = .ok (.ifCond .eq 7, 3) := by decide +kernel
theorem dX14_holds_125 : decode cX14_holds 125 = .ok (.iconst 1, 1) := by decide +kernel
theorem dX14_holds_126 : decode cX14_holds 126 = .ok (.goto 4, 3) := by decide +kernel
theorem dX14_holds_129 : decode cX14_holds 129 = .ok (.iconst 0, 1) := by decide +kernel
theorem dX14_holds_130 : decode cX14_holds 130 = .ok (.istore_n 2, 1) := by decide +kernel
theorem dX14_holds_131 : decode cX14_holds 131 = .ok (.iinc 3 1, 3) := by decide +kernel
theorem dX14_holds_134 : decode cX14_holds 134 = .ok (.goto (-103), 3) := by decide +kernel
theorem dX14_holds_137 : decode cX14_holds 137 = .ok (.iload_n 2, 1) := by decide +kernel
theorem dX14_holds_138 : decode cX14_holds 138 = .ok (.ireturn, 1) := by decide +kernel
def s_X14_holds_130 (k31 : Nat → Int32 → Int32 → Int32 → aH → aO) (l0 : Nat) (l1 : Int32) (l3 : Int32) (s0 : Int32) (h : aH) : aO :=
  k31 l0 l1 s0 (l3 + 1) h
def s_X14_holds_125 (k31 : Nat → Int32 → Int32 → Int32 → aH → aO) (l0 : Nat) (l1 : Int32) (l3 : Int32) (h : aH) : aO :=
  s_X14_holds_130 k31 l0 l1 l3 1 h
def s_X14_holds_108 (k31 : Nat → Int32 → Int32 → Int32 → aH → aO) (k45 : Nat → Int32 → Int32 → Int32 → Int32 → Int32 → aH → aO) (l0 : Nat) (l1 : Int32) (l2 : Int32) (l3 : Int32) (l5 : Int32) (s0 : Int32) (h : aH) : aO :=
  k45 l0 l1 l2 l3 s0 (l5 + 1) h
def s_X14_holds_107 (k31 : Nat → Int32 → Int32 → Int32 → aH → aO) (k45 : Nat → Int32 → Int32 → Int32 → Int32 → Int32 → aH → aO) (l0 : Nat) (l1 : Int32) (l2 : Int32) (l3 : Int32) (l5 : Int32) (h : aH) : aO :=
  s_X14_holds_108 k31 k45 l0 l1 l2 l3 l5 0 h
def s_X14_holds_45_b (k31 : Nat → Int32 → Int32 → Int32 → aH → aO) (k45 : Nat → Int32 → Int32 → Int32 → Int32 → Int32 → aH → aO) (l0 : Nat) (l1 : Int32) (l2 : Int32) (l3 : Int32) (l4 : Int32) (l5 : Int32) (h : aH) : aO :=
  (gI h (.ref l0) 14 22).bind fun x48 => if x48 ≤ l5 then (if l2 = 0 then (if l4 = 0 then (s_X14_holds_130 k31 l0 l1 l3 0 h) else (s_X14_holds_125 k31 l0 l1 l3 h)) else (s_X14_holds_125 k31 l0 l1 l3 h)) else (kO h l0 14 (cI (s_X14_to l0 l1 l3 l5 h) fun x59 h59 => if l4 = 0 then (s_X14_holds_107 k31 k45 l0 l1 l2 l3 l5 h59) else (if x59 = (-2) then (s_X14_holds_107 k31 k45 l0 l1 l2 l3 l5 h59) else ((gO h59 (.ref l0) 14 31).bind fun x77 => (ldI .int h59 (.ref x77) x59).bind fun x82 => if x82 = (-1) then (s_X14_holds_107 k31 k45 l0 l1 l2 l3 l5 h59) else ((gO h59 (.ref l0) 14 31).bind fun x88 => (ldI .int h59 (.ref x88) x59).bind fun x93 => (gO h59 (.ref l0) 14 31).bind fun x95 => (ldI .int h59 (.ref x95) l1).bind fun x99 => if x99 ≤ x93 then (s_X14_holds_107 k31 k45 l0 l1 l2 l3 l5 h59) else (s_X14_holds_108 k31 k45 l0 l1 l2 l3 l5 1 h59))))))
def s_X14_holds_45 (k31 : Nat → Int32 → Int32 → Int32 → aH → aO) (n : Nat) : Nat → Int32 → Int32 → Int32 → Int32 → Int32 → aH → aO := lpF (fun _ _ _ _ _ _ _ => none) (s_X14_holds_45_b k31) n
def s_X14_holds_31_b  (k31 : Nat → Int32 → Int32 → Int32 → aH → aO) (l0 : Nat) (l1 : Int32) (l2 : Int32) (l3 : Int32) (h : aH) : aO :=
  (gI h (.ref l0) 14 21).bind fun x33 => if x33 ≤ l3 then (rtZ l2 h) else (s_X14_holds_45 k31 FU l0 l1 l2 l3 1 0 h)
def s_X14_holds_31  (n : Nat) : Nat → Int32 → Int32 → Int32 → aH → aO := lpF (fun _ _ _ _ _ => none) (s_X14_holds_31_b ) n
def s_X14_holds (o : Nat) (a1 : Int32) (h : aH) : aO :=
  (gO h (.ref o) 14 27).bind fun x1 => (ldI .boolean h (.ref x1) a1).bind fun x5 => if x5 = 0 then (rtZ 0 h) else ((gO h (.ref o) 14 31).bind fun x12 => (ldI .int h (.ref x12) a1).bind fun x16 => if x16 = 0 then ((gO h (.ref o) 14 28).bind fun x21 => (ldI .boolean h (.ref x21) a1).bind fun x25 => rtZ x25 h) else (s_X14_holds_31 FU o a1 0 0 h))
section
variable {p : Program} {l : Launch} {e : Env} {s : State} {m : MethodId} {args : Array Value} {below : List Frame} {meth : Method} {c : Code} {D : va_G} {B0 : Nat} {X : Nat → Nat} {ws0 : va_W} {r : aR} {h' : aH} {mc ms : Nat}
theorem t_X14_holds_130 (C : Cx p l s m args meth c B0 X RX14 "holds" cX14_holds 7 (some .boolean) []) {k31 : Nat → Int32 → Int32 → Int32 → aH → aO} (K31 : ∀ (l0 : Nat) (l1 : Int32) (l2 : Int32) (l3 : Int32) (h : aH), k31 l0 l1 l2 l3 h = some (r, h') → Ev p l e { frames := 1, cells := mc, slots := ms, locals := 23 } s m args below meth c D B0 X ws0 r h' mc ms 7 mc ms 31 [some (.ref l0), some (.int l1), some (.int l2), some (.int l3), none, none, none] [] h) {l0 : Nat} {l1 : Int32} {l3 : Int32} {s0 : Int32} {h : aH} (hs : s_X14_holds_130 k31 l0 l1 l3 s0 h = some (r, h')) : Ev p l e { frames := 1, cells := mc, slots := ms, locals := 23 } s m args below meth c D B0 X ws0 r h' mc ms 7 mc ms 130 [some (.ref l0), some (.int l1), none, some (.int l3), none, none, none] [.int s0] h := by
  unfold s_X14_holds_130 at hs
  refine ev_istore_n C (by decide) dX14_holds_130 ?_
  refine ev_iinc C (i := 3) (n := 1) (x := l3) (v := l3 + 1) rfl (congrArg (fun z => l3 + z) (show Int32.ofInt 1 = 1 by decide)) (by decide) dX14_holds_131 ?_
  refine ev_goto C (tgt := 31) (by decide) dX14_holds_134 ?_
  exact (K31 _ _ _ _ _ hs)
theorem t_X14_holds_125 (C : Cx p l s m args meth c B0 X RX14 "holds" cX14_holds 7 (some .boolean) []) {k31 : Nat → Int32 → Int32 → Int32 → aH → aO} (K31 : ∀ (l0 : Nat) (l1 : Int32) (l2 : Int32) (l3 : Int32) (h : aH), k31 l0 l1 l2 l3 h = some (r, h') → Ev p l e { frames := 1, cells := mc, slots := ms, locals := 23 } s m args below meth c D B0 X ws0 r h' mc ms 7 mc ms 31 [some (.ref l0), some (.int l1), some (.int l2), some (.int l3), none, none, none] [] h) {l0 : Nat} {l1 : Int32} {l3 : Int32} {h : aH} (hs : s_X14_holds_125 k31 l0 l1 l3 h = some (r, h')) : Ev p l e { frames := 1, cells := mc, slots := ms, locals := 23 } s m args below meth c D B0 X ws0 r h' mc ms 7 mc ms 125 [some (.ref l0), some (.int l1), none, some (.int l3), none, none, none] [] h := by
  unfold s_X14_holds_125 at hs
  refine ev_iconst C (v := 1) dX14_holds_125 (by decide) ?_
  refine ev_goto C (tgt := 130) (by decide) dX14_holds_126 ?_
  exact (t_X14_holds_130 C K31 hs)
theorem t_X14_holds_108 (C : Cx p l s m args meth c B0 X RX14 "holds" cX14_holds 7 (some .boolean) []) {k31 : Nat → Int32 → Int32 → Int32 → aH → aO} {k45 : Nat → Int32 → Int32 → Int32 → Int32 → Int32 → aH → aO} (K31 : ∀ (l0 : Nat) (l1 : Int32) (l2 : Int32) (l3 : Int32) (h : aH), k31 l0 l1 l2 l3 h = some (r, h') → Ev p l e { frames := 1, cells := mc, slots := ms, locals := 23 } s m args below meth c D B0 X ws0 r h' mc ms 7 mc ms 31 [some (.ref l0), some (.int l1), some (.int l2), some (.int l3), none, none, none] [] h) (K45 : ∀ (l0 : Nat) (l1 : Int32) (l2 : Int32) (l3 : Int32) (l4 : Int32) (l5 : Int32) (h : aH), k45 l0 l1 l2 l3 l4 l5 h = some (r, h') → Ev p l e { frames := 1, cells := mc, slots := ms, locals := 23 } s m args below meth c D B0 X ws0 r h' mc ms 7 mc ms 45 [some (.ref l0), some (.int l1), some (.int l2), some (.int l3), some (.int l4), some (.int l5), none] [] h) {l0 : Nat} {l1 : Int32} {l2 : Int32} {l3 : Int32} {l5 : Int32} {s0 : Int32} {h : aH} (hs : s_X14_holds_108 k31 k45 l0 l1 l2 l3 l5 s0 h = some (r, h')) : Ev p l e { frames := 1, cells := mc, slots := ms, locals := 23 } s m args below meth c D B0 X ws0 r h' mc ms 7 mc ms 108 [some (.ref l0), some (.int l1), some (.int l2), some (.int l3), none, some (.int l5), none] [.int s0] h := by
  unfold s_X14_holds_108 at hs
  refine ev_istore C (by decide) dX14_holds_108 ?_
  refine ev_iinc C (i := 5) (n := 1) (x := l5) (v := l5 + 1) rfl (congrArg (fun z => l5 + z) (show Int32.ofInt 1 = 1 by decide)) (by decide) dX14_holds_110 ?_
  refine ev_goto C (tgt := 45) (by decide) dX14_holds_113 ?_
  exact (K45 _ _ _ _ _ _ _ hs)
theorem t_X14_holds_107 (C : Cx p l s m args meth c B0 X RX14 "holds" cX14_holds 7 (some .boolean) []) {k31 : Nat → Int32 → Int32 → Int32 → aH → aO} {k45 : Nat → Int32 → Int32 → Int32 → Int32 → Int32 → aH → aO} (K31 : ∀ (l0 : Nat) (l1 : Int32) (l2 : Int32) (l3 : Int32) (h : aH), k31 l0 l1 l2 l3 h = some (r, h') → Ev p l e { frames := 1, cells := mc, slots := ms, locals := 23 } s m args below meth c D B0 X ws0 r h' mc ms 7 mc ms 31 [some (.ref l0), some (.int l1), some (.int l2), some (.int l3), none, none, none] [] h) (K45 : ∀ (l0 : Nat) (l1 : Int32) (l2 : Int32) (l3 : Int32) (l4 : Int32) (l5 : Int32) (h : aH), k45 l0 l1 l2 l3 l4 l5 h = some (r, h') → Ev p l e { frames := 1, cells := mc, slots := ms, locals := 23 } s m args below meth c D B0 X ws0 r h' mc ms 7 mc ms 45 [some (.ref l0), some (.int l1), some (.int l2), some (.int l3), some (.int l4), some (.int l5), none] [] h) {l0 : Nat} {l1 : Int32} {l2 : Int32} {l3 : Int32} {l5 : Int32} {h : aH} (hs : s_X14_holds_107 k31 k45 l0 l1 l2 l3 l5 h = some (r, h')) : Ev p l e { frames := 1, cells := mc, slots := ms, locals := 23 } s m args below meth c D B0 X ws0 r h' mc ms 7 mc ms 107 [some (.ref l0), some (.int l1), some (.int l2), some (.int l3), none, some (.int l5), none] [] h := by
  unfold s_X14_holds_107 at hs
  refine ev_iconst C (v := 0) dX14_holds_107 (by decide) ?_
  exact (t_X14_holds_108 C K31 K45 hs)
theorem t_X14_holds_45_b (C : Cx p l s m args meth c B0 X RX14 "holds" cX14_holds 7 (some .boolean) []) {k31 : Nat → Int32 → Int32 → Int32 → aH → aO} (K31 : ∀ (l0 : Nat) (l1 : Int32) (l2 : Int32) (l3 : Int32) (h : aH), k31 l0 l1 l2 l3 h = some (r, h') → Ev p l e { frames := 1, cells := mc, slots := ms, locals := 23 } s m args below meth c D B0 X ws0 r h' mc ms 7 mc ms 31 [some (.ref l0), some (.int l1), some (.int l2), some (.int l3), none, none, none] [] h) {k45 : Nat → Int32 → Int32 → Int32 → Int32 → Int32 → aH → aO} (K45 : ∀ (l0 : Nat) (l1 : Int32) (l2 : Int32) (l3 : Int32) (l4 : Int32) (l5 : Int32) (h : aH), k45 l0 l1 l2 l3 l4 l5 h = some (r, h') → Ev p l e { frames := 1, cells := mc, slots := ms, locals := 23 } s m args below meth c D B0 X ws0 r h' mc ms 7 mc ms 45 [some (.ref l0), some (.int l1), some (.int l2), some (.int l3), some (.int l4), some (.int l5), none] [] h) {l0 : Nat} {l1 : Int32} {l2 : Int32} {l3 : Int32} {l4 : Int32} {l5 : Int32} {h : aH} (hs : s_X14_holds_45_b k31 k45 l0 l1 l2 l3 l4 l5 h = some (r, h')) : Ev p l e { frames := 1, cells := mc, slots := ms, locals := 23 } s m args below meth c D B0 X ws0 r h' mc ms 7 mc ms 45 [some (.ref l0), some (.int l1), some (.int l2), some (.int l3), some (.int l4), some (.int l5), none] [] h := by
  unfold s_X14_holds_45_b at hs
  refine ev_iload C rfl dX14_holds_45 ?_
  refine ev_aload_n C (x := .ref l0) rfl trivial dX14_holds_47 ?_
  obtain ⟨x48, e48, hs⟩ := aB hs
  refine ev_get C (ci := 14) (k := 22) rfl wu_14 (by decide) wf_X14_388 (gI_F e48) dX14_holds_48 ?_
  refine ev_icmp_ge C (tgt := 116) (by decide) dX14_holds_51 (fun q51 => ?_) (fun q51 => ?_)
  · replace hs := (if_pos q51).symm.trans hs
    refine ev_iload_n C rfl dX14_holds_116 ?_
    refine ev_if_ne C (tgt := 125) (by decide) dX14_holds_117 (fun q117 => ?_) (fun q117 => ?_)
    · replace hs := (if_neg q117).symm.trans hs
      exact Ev.keep [true, true, false, true, false, false, true] (t_X14_holds_125 C K31 hs)
    · replace hs := (if_pos q117).symm.trans hs
      refine ev_iload C rfl dX14_holds_120 ?_
      refine ev_if_eq C (tgt := 129) (by decide) dX14_holds_122 (fun q122 => ?_) (fun q122 => ?_)
      · replace hs := (if_pos q122).symm.trans hs
        refine ev_iconst C (v := 0) dX14_holds_129 (by decide) ?_
        exact Ev.keep [true, true, false, true, false, false, true] (t_X14_holds_130 C K31 hs)
      · replace hs := (if_neg q122).symm.trans hs
        exact Ev.keep [true, true, false, true, false, false, true] (t_X14_holds_125 C K31 hs)
  · replace hs := (if_neg q51).symm.trans hs
    refine ev_aload_n C (x := .ref l0) rfl trivial dX14_holds_54 ?_
    refine ev_iload_n C rfl dX14_holds_55 ?_
    refine ev_iload_n C rfl dX14_holds_56 ?_
    refine ev_iload C rfl dX14_holds_57 ?_
    obtain ⟨eo59, hs⟩ := kO_at hs
    obtain ⟨x59, h59, e59, hs⟩ := cI_at hs
    refine ev_callV C (T_X14_to _ _ _ _ _ _ _ e59) (ci := 14) rfl eo59 wc_X14_to wm_X14_483 wi_X14_to ws_X14_to wz_X14 hy_X14_to ⟨(Nat.le_of_ble_eq_true rfl), (Nat.le_of_ble_eq_true rfl)⟩ ⟨(Nat.le_refl _), (Nat.le_refl _)⟩ (Nat.le_of_ble_eq_true rfl) rfl dX14_holds_59 ?_
    refine ev_istore C (by decide) dX14_holds_62 ?_
    refine ev_iload C rfl dX14_holds_64 ?_
    refine ev_if_eq C (tgt := 107) (by decide) dX14_holds_66 (fun q66 => ?_) (fun q66 => ?_)
    · replace hs := (if_pos q66).symm.trans hs
      exact Ev.keep [true, true, true, true, false, true, false] (t_X14_holds_107 C K31 K45 hs)
    · replace hs := (if_neg q66).symm.trans hs
      refine ev_iload C rfl dX14_holds_69 ?_
      refine ev_bipush C (v := (-2)) dX14_holds_71 (by decide) ?_
      refine ev_icmp_eq C (tgt := 107) (by decide) dX14_holds_73 (fun q73 => ?_) (fun q73 => ?_)
      · replace hs := (if_pos q73).symm.trans hs
        exact Ev.keep [true, true, true, true, false, true, false] (t_X14_holds_107 C K31 K45 hs)
      · replace hs := (if_neg q73).symm.trans hs
        refine ev_aload_n C (x := .ref l0) rfl trivial dX14_holds_76 ?_
        obtain ⟨x77, e77, hs⟩ := aB hs
        refine ev_get C (ci := 14) (k := 31) rfl wu_14 (by decide) wf_X14_51 (gO_F e77) dX14_holds_77 ?_
        refine ev_iload C rfl dX14_holds_80 ?_
        obtain ⟨x82, e82, hs⟩ := aB hs
        refine ev_iald C e82 dX14_holds_82 ?_
        refine ev_iconst C (v := (-1)) dX14_holds_83 (by decide) ?_
        refine ev_icmp_eq C (tgt := 107) (by decide) dX14_holds_84 (fun q84 => ?_) (fun q84 => ?_)
        · replace hs := (if_pos q84).symm.trans hs
          exact Ev.keep [true, true, true, true, false, true, false] (t_X14_holds_107 C K31 K45 hs)
        · replace hs := (if_neg q84).symm.trans hs
          refine ev_aload_n C (x := .ref l0) rfl trivial dX14_holds_87 ?_
          obtain ⟨x88, e88, hs⟩ := aB hs
          refine ev_get C (ci := 14) (k := 31) rfl wu_14 (by decide) wf_X14_51 (gO_F e88) dX14_holds_88 ?_
          refine ev_iload C rfl dX14_holds_91 ?_
          obtain ⟨x93, e93, hs⟩ := aB hs
          refine ev_iald C e93 dX14_holds_93 ?_
          refine ev_aload_n C (x := .ref l0) rfl trivial dX14_holds_94 ?_
          obtain ⟨x95, e95, hs⟩ := aB hs
          refine ev_get C (ci := 14) (k := 31) rfl wu_14 (by decide) wf_X14_51 (gO_F e95) dX14_holds_95 ?_
          refine ev_iload_n C rfl dX14_holds_98 ?_
          obtain ⟨x99, e99, hs⟩ := aB hs
          refine ev_iald C e99 dX14_holds_99 ?_
          refine ev_icmp_ge C (tgt := 107) (by decide) dX14_holds_100 (fun q100 => ?_) (fun q100 => ?_)
          · replace hs := (if_pos q100).symm.trans hs
            exact Ev.keep [true, true, true, true, false, true, false] (t_X14_holds_107 C K31 K45 hs)
          · replace hs := (if_neg q100).symm.trans hs
            refine ev_iconst C (v := 1) dX14_holds_103 (by decide) ?_
            refine ev_goto C (tgt := 108) (by decide) dX14_holds_104 ?_
            exact Ev.keep [true, true, true, true, false, true, false] (t_X14_holds_108 C K31 K45 hs)
theorem t_X14_holds_45 (C : Cx p l s m args meth c B0 X RX14 "holds" cX14_holds 7 (some .boolean) []) {k31 : Nat → Int32 → Int32 → Int32 → aH → aO} (K31 : ∀ (l0 : Nat) (l1 : Int32) (l2 : Int32) (l3 : Int32) (h : aH), k31 l0 l1 l2 l3 h = some (r, h') → Ev p l e { frames := 1, cells := mc, slots := ms, locals := 23 } s m args below meth c D B0 X ws0 r h' mc ms 7 mc ms 31 [some (.ref l0), some (.int l1), some (.int l2), some (.int l3), none, none, none] [] h) : ∀ (n : Nat) {l0 : Nat} {l1 : Int32} {l2 : Int32} {l3 : Int32} {l4 : Int32} {l5 : Int32} {h : aH} (hs : s_X14_holds_45 k31 n l0 l1 l2 l3 l4 l5 h = some (r, h')), Ev p l e { frames := 1, cells := mc, slots := ms, locals := 23 } s m args below meth c D B0 X ws0 r h' mc ms 7 mc ms 45 [some (.ref l0), some (.int l1), some (.int l2), some (.int l3), some (.int l4), some (.int l5), none] [] h
  | 0, _, _, _, _, _, _, _, hs => nomatch hs
  | n + 1, _, _, _, _, _, _, _, hs => t_X14_holds_45_b C K31 (k45 := s_X14_holds_45 k31 n) (fun _ _ _ _ _ _ _ hs => t_X14_holds_45 C K31 n hs) hs
theorem t_X14_holds_31_b (C : Cx p l s m args meth c B0 X RX14 "holds" cX14_holds 7 (some .boolean) [])   {k31 : Nat → Int32 → Int32 → Int32 → aH → aO} (K31 : ∀ (l0 : Nat) (l1 : Int32) (l2 : Int32) (l3 : Int32) (h : aH), k31 l0 l1 l2 l3 h = some (r, h') → Ev p l e { frames := 1, cells := mc, slots := ms, locals := 23 } s m args below meth c D B0 X ws0 r h' mc ms 7 mc ms 31 [some (.ref l0), some (.int l1), some (.int l2), some (.int l3), none, none, none] [] h) {l0 : Nat} {l1 : Int32} {l2 : Int32} {l3 : Int32} {h : aH} (hs : s_X14_holds_31_b  k31 l0 l1 l2 l3 h = some (r, h')) : Ev p l e { frames := 1, cells := mc, slots := ms, locals := 23 } s m args below meth c D B0 X ws0 r h' mc ms 7 mc ms 31 [some (.ref l0), some (.int l1), some (.int l2), some (.int l3), none, none, none] [] h := by
  unfold s_X14_holds_31_b at hs
  refine ev_iload_n C rfl dX14_holds_31 ?_
  refine ev_aload_n C (x := .ref l0) rfl trivial dX14_holds_32 ?_
  obtain ⟨x33, e33, hs⟩ := aB hs
  refine ev_get C (ci := 14) (k := 21) rfl wu_14 (by decide) wf_X14_382 (gI_F e33) dX14_holds_33 ?_
  refine ev_icmp_ge C (tgt := 137) (by decide) dX14_holds_36 (fun q36 => ?_) (fun q36 => ?_)
  · replace hs := (if_pos q36).symm.trans hs
    refine ev_iload_n C rfl dX14_holds_137 ?_
    obtain ⟨hz, rfl, rfl⟩ := rtZ_at hs
    exact ev_zret C rfl hz rfl (Nat.le_refl _) (Nat.le_refl _) rfl dX14_holds_138
  · replace hs := (if_neg q36).symm.trans hs
    refine ev_iconst C (v := 1) dX14_holds_39 (by decide) ?_
    refine ev_istore C (by decide) dX14_holds_40 ?_
    refine ev_iconst C (v := 0) dX14_holds_42 (by decide) ?_
    refine ev_istore C (by decide) dX14_holds_43 ?_
    exact (t_X14_holds_45 C K31 FU hs)
theorem t_X14_holds_31 (C : Cx p l s m args meth c B0 X RX14 "holds" cX14_holds 7 (some .boolean) [])   : ∀ (n : Nat) {l0 : Nat} {l1 : Int32} {l2 : Int32} {l3 : Int32} {h : aH} (hs : s_X14_holds_31  n l0 l1 l2 l3 h = some (r, h')), Ev p l e { frames := 1, cells := mc, slots := ms, locals := 23 } s m args below meth c D B0 X ws0 r h' mc ms 7 mc ms 31 [some (.ref l0), some (.int l1), some (.int l2), some (.int l3), none, none, none] [] h
  | 0, _, _, _, _, _, hs => nomatch hs
  | n + 1, _, _, _, _, _, hs => t_X14_holds_31_b C  (k31 := s_X14_holds_31  n) (fun _ _ _ _ _ hs => t_X14_holds_31 C  n hs) hs
theorem hy_X14_holds : yX14_holds.cls ≠ "java/lang/invoke/MethodHandle" ∧ yX14_holds.cls ≠ "java/lang/invoke/VarHandle" ∧ (parseMethodDescriptor yX14_holds.desc).map (fun d => d.parameters.length) = some 1 := by decide +kernel
theorem T_X14_holds (o : Nat) (a1 : Int32) (h : aH) (r : aR) (h' : aH) (hs : s_X14_holds o a1 h = some (r, h')) : Mt yX14_holds (Cond.code yX14_holds cX14_holds 7 (some .boolean) :: aTB) 1 23 0 0 [.ref o, .int a1] h r h' := by
  unfold s_X14_holds at hs
  refine Mt_of (k := 5) (by decide) rfl (fun p l e s m args below meth c D B0 X ws0 C => ?_)
  show Ev p l e { frames := 1, cells := 0, slots := 0, locals := 23 } s m args below meth c D B0 X ws0 r h' 0 0 7 0 0 0 [some (.ref o), some (.int a1), none, none, none, none, none] [] h
  refine ev_aload_n C (x := .ref o) rfl trivial dX14_holds_0 ?_
  obtain ⟨x1, e1, hs⟩ := aB hs
  refine ev_get C (ci := 14) (k := 27) rfl wu_14 (by decide) wf_X14_37 (gO_F e1) dX14_holds_1 ?_
  refine ev_iload_n C rfl dX14_holds_4 ?_
  obtain ⟨x5, e5, hs⟩ := aB hs
  refine ev_zald C e5 dX14_holds_5 ?_
  refine ev_if_ne C (tgt := 11) (by decide) dX14_holds_6 (fun q6 => ?_) (fun q6 => ?_)
  · replace hs := (if_neg q6).symm.trans hs
    refine ev_aload_n C (x := .ref o) rfl trivial dX14_holds_11 ?_
    obtain ⟨x12, e12, hs⟩ := aB hs
    refine ev_get C (ci := 14) (k := 31) rfl wu_14 (by decide) wf_X14_51 (gO_F e12) dX14_holds_12 ?_
    refine ev_iload_n C rfl dX14_holds_15 ?_
    obtain ⟨x16, e16, hs⟩ := aB hs
    refine ev_iald C e16 dX14_holds_16 ?_
    refine ev_if_ne C (tgt := 27) (by decide) dX14_holds_17 (fun q17 => ?_) (fun q17 => ?_)
    · replace hs := (if_neg q17).symm.trans hs
      refine ev_iconst C (v := 0) dX14_holds_27 (by decide) ?_
      refine ev_istore_n C (by decide) dX14_holds_28 ?_
      refine ev_iconst C (v := 0) dX14_holds_29 (by decide) ?_
      refine ev_istore_n C (by decide) dX14_holds_30 ?_
      exact (t_X14_holds_31 C  FU hs)
    · replace hs := (if_pos q17).symm.trans hs
      refine ev_aload_n C (x := .ref o) rfl trivial dX14_holds_20 ?_
      obtain ⟨x21, e21, hs⟩ := aB hs
      refine ev_get C (ci := 14) (k := 28) rfl wu_14 (by decide) wf_X14_41 (gO_F e21) dX14_holds_21 ?_
      refine ev_iload_n C rfl dX14_holds_24 ?_
      obtain ⟨x25, e25, hs⟩ := aB hs
      refine ev_zald C e25 dX14_holds_25 ?_
      obtain ⟨hz, rfl, rfl⟩ := rtZ_at hs
      exact ev_zret C rfl hz rfl (Nat.le_refl _) (Nat.le_refl _) rfl dX14_holds_26
  · replace hs := (if_pos q6).symm.trans hs
    refine ev_iconst C (v := 0) dX14_holds_9 (by decide) ?_
    obtain ⟨hz, rfl, rfl⟩ := rtZ_at hs
    exact ev_zret C rfl hz rfl (Nat.le_refl _) (Nat.le_refl _) rfl dX14_holds_10
end
-- X14_firstBreak
theorem dX14_firstBreak_0 : decode cX14_firstBreak 0 = .ok (.iconst 0, 1) := by decide +kernel
theorem dX14_firstBreak_1 : decode cX14_firstBreak 1 = .ok (.istore_n 1, 1) := by decide +kernel
theorem dX14_firstBreak_2 : decode cX14_firstBreak 2 = .ok (.iload_n 1, 1) := by decide +kernel
theorem dX14_firstBreak_3 : decode cX14_firstBreak 3 = .ok (.aload_n 0, 1) := by decide +kernel
theorem dX14_firstBreak_4 : decode cX14_firstBreak 4 = .ok (.getfield 379, 3) := by decide +kernel
theorem dX14_firstBreak_7 : decode cX14_firstBreak 7 = .ok (.if_icmp .ge 29, 3) := by decide +kernel
theorem dX14_firstBreak_10 : decode cX14_firstBreak 10 = .ok (.aload_n 0, 1) := by decide +kernel
theorem dX14_firstBreak_11 : decode cX14_firstBreak 11 = .ok (.getfield 51, 3) := by decide +kernel
theorem dX14_firstBreak_14 : decode cX14_firstBreak 14 = .ok (.iload_n 1, 1) := by decide +kernel
theorem dX14_firstBreak_15 : decode cX14_firstBreak 15 = .ok (.iaload, 1) := by decide +kernel
theorem dX14_firstBreak_16 : decode cX14_firstBreak 16 = .ok (.iconst (-1), 1) := by decide +kernel
theorem dX14_firstBreak_17 : decode cX14_firstBreak 17 = .ok (.if_icmp .eq 13, 3) := by decide +kernel
theorem dX14_firstBreak_20 : decode cX14_firstBreak 20 = .ok (.aload_n 0, 1) := by decide +kernel
theorem dX14_firstBreak_21 : decode cX14_firstBreak 21 = .ok (.iload_n 1, 1) := by decide +kernel
theorem dX14_firstBreak_22 : decode cX14_firstBreak 22 = .ok (.invokevirtual 635, 3) := by decide +kernel
theorem dX14_firstBreak_25 : decode cX14_firstBreak 25 = .ok (.ifCond .ne 5, 3) := by decide +kernel
theorem dX14_firstBreak_28 : decode cX14_firstBreak 28 = .ok (.iload_n 1, 1) := by decide +kernel
theorem dX14_firstBreak_29 : decode cX14_firstBreak 29 = .ok (.ireturn, 1) := by decide +kernel
theorem dX14_firstBreak_30 : decode cX14_firstBreak 30 = .ok (.iinc 1 1, 3) := by decide +kernel
theorem dX14_firstBreak_33 : decode cX14_firstBreak 33 = .ok (.goto (-31), 3) := by decide +kernel
theorem dX14_firstBreak_36 : decode cX14_firstBreak 36 = .ok (.bipush (-2), 2) := by decide +kernel
theorem dX14_firstBreak_38 : decode cX14_firstBreak 38 = .ok (.ireturn, 1) := by decide +kernel
def s_X14_firstBreak_2_b  (k2 : Nat → Int32 → aH → aO) (l0 : Nat) (l1 : Int32) (h : aH) : aO :=
  (gI h (.ref l0) 14 20).bind fun x4 => if x4 ≤ l1 then (some (.inl (some (.int (-2))), h)) else ((gO h (.ref l0) 14 31).bind fun x11 => (ldI .int h (.ref x11) l1).bind fun x15 => if x15 = (-1) then (k2 l0 (l1 + 1) h) else (kO h l0 14 (cI (s_X14_holds l0 l1 h) fun x22 h22 => if x22 = 0 then (some (.inl (some (.int l1)), h22)) else (k2 l0 (l1 + 1) h22))))
def s_X14_firstBreak_2  (n : Nat) : Nat → Int32 → aH → aO := lpF (fun _ _ _ => none) (s_X14_firstBreak_2_b ) n
def s_X14_firstBreak (o : Nat) (h : aH) : aO :=
  s_X14_firstBreak_2 FU o 0 h
section
variable {p : Program} {l : Launch} {e : Env} {s : State} {m : MethodId} {args : Array Value} {below : List Frame} {meth : Method} {c : Code} {D : va_G} {B0 : Nat} {X : Nat → Nat} {ws0 : va_W} {r : aR} {h' : aH} {mc ms : Nat}
theorem t_X14_firstBreak_2_b (C : Cx p l s m args meth c B0 X RX14 "firstBreak" cX14_firstBreak 2 (some .int) [])   {k2 : Nat → Int32 → aH → aO} (K2 : ∀ (l0 : Nat) (l1 : Int32) (h : aH), k2 l0 l1 h = some (r, h') → Ev p l e { frames := 2, cells := mc, slots := ms, locals := 49 } s m args below meth c D B0 X ws0 r h' mc ms 2 mc ms 2 [some (.ref l0), some (.int l1)] [] h) {l0 : Nat} {l1 : Int32} {h : aH} (hs : s_X14_firstBreak_2_b  k2 l0 l1 h = some (r, h')) : Ev p l e { frames := 2, cells := mc, slots := ms, locals := 49 } s m args below meth c D B0 X ws0 r h' mc ms 2 mc ms 2 [some (.ref l0), some (.int l1)] [] h := by
  unfold s_X14_firstBreak_2_b at hs
  refine ev_iload_n C rfl dX14_firstBreak_2 ?_
  refine ev_aload_n C (x := .ref l0) rfl trivial dX14_firstBreak_3 ?_
  obtain ⟨x4, e4, hs⟩ := aB hs
  refine ev_get C (ci := 14) (k := 20) rfl wu_14 (by decide) wf_X14_379 (gI_F e4) dX14_firstBreak_4 ?_
  refine ev_icmp_ge C (tgt := 36) (by decide) dX14_firstBreak_7 (fun q7 => ?_) (fun q7 => ?_)
  · replace hs := (if_pos q7).symm.trans hs
    refine ev_bipush C (v := (-2)) dX14_firstBreak_36 (by decide) ?_
    cases hs
    exact ev_iret C rfl rfl (Nat.le_refl _) (Nat.le_refl _) rfl dX14_firstBreak_38
  · replace hs := (if_neg q7).symm.trans hs
    refine ev_aload_n C (x := .ref l0) rfl trivial dX14_firstBreak_10 ?_
    obtain ⟨x11, e11, hs⟩ := aB hs
    refine ev_get C (ci := 14) (k := 31) rfl wu_14 (by decide) wf_X14_51 (gO_F e11) dX14_firstBreak_11 ?_
    refine ev_iload_n C rfl dX14_firstBreak_14 ?_
    obtain ⟨x15, e15, hs⟩ := aB hs
    refine ev_iald C e15 dX14_firstBreak_15 ?_
    refine ev_iconst C (v := (-1)) dX14_firstBreak_16 (by decide) ?_
    refine ev_icmp_eq C (tgt := 30) (by decide) dX14_firstBreak_17 (fun q17 => ?_) (fun q17 => ?_)
    · replace hs := (if_pos q17).symm.trans hs
      refine ev_iinc C (i := 1) (n := 1) (x := l1) (v := l1 + 1) rfl (congrArg (fun z => l1 + z) (show Int32.ofInt 1 = 1 by decide)) (by decide) dX14_firstBreak_30 ?_
      refine ev_goto C (tgt := 2) (by decide) dX14_firstBreak_33 ?_
      exact (K2 _ _ _ hs)
    · replace hs := (if_neg q17).symm.trans hs
      refine ev_aload_n C (x := .ref l0) rfl trivial dX14_firstBreak_20 ?_
      refine ev_iload_n C rfl dX14_firstBreak_21 ?_
      obtain ⟨eo22, hs⟩ := kO_at hs
      obtain ⟨x22, h22, e22, hs⟩ := cI_at hs
      refine ev_callV C (T_X14_holds _ _ _ _ _ e22) (ci := 14) rfl eo22 wc_X14_holds wm_X14_635 wi_X14_holds ws_X14_holds wz_X14 hy_X14_holds ⟨(Nat.le_of_ble_eq_true rfl), (Nat.le_of_ble_eq_true rfl)⟩ ⟨(Nat.le_refl _), (Nat.le_refl _)⟩ (Nat.le_of_ble_eq_true rfl) rfl dX14_firstBreak_22 ?_
      refine ev_if_ne C (tgt := 30) (by decide) dX14_firstBreak_25 (fun q25 => ?_) (fun q25 => ?_)
      · replace hs := (if_neg q25).symm.trans hs
        refine ev_iinc C (i := 1) (n := 1) (x := l1) (v := l1 + 1) rfl (congrArg (fun z => l1 + z) (show Int32.ofInt 1 = 1 by decide)) (by decide) dX14_firstBreak_30 ?_
        refine ev_goto C (tgt := 2) (by decide) dX14_firstBreak_33 ?_
        exact (K2 _ _ _ hs)
      · replace hs := (if_pos q25).symm.trans hs
        refine ev_iload_n C rfl dX14_firstBreak_28 ?_
        cases hs
        exact ev_iret C rfl rfl (Nat.le_refl _) (Nat.le_refl _) rfl dX14_firstBreak_29
theorem t_X14_firstBreak_2 (C : Cx p l s m args meth c B0 X RX14 "firstBreak" cX14_firstBreak 2 (some .int) [])   : ∀ (n : Nat) {l0 : Nat} {l1 : Int32} {h : aH} (hs : s_X14_firstBreak_2  n l0 l1 h = some (r, h')), Ev p l e { frames := 2, cells := mc, slots := ms, locals := 49 } s m args below meth c D B0 X ws0 r h' mc ms 2 mc ms 2 [some (.ref l0), some (.int l1)] [] h
  | 0, _, _, _, hs => nomatch hs
  | n + 1, _, _, _, hs => t_X14_firstBreak_2_b C  (k2 := s_X14_firstBreak_2  n) (fun _ _ _ hs => t_X14_firstBreak_2 C  n hs) hs
theorem hy_X14_firstBreak : yX14_firstBreak.cls ≠ "java/lang/invoke/MethodHandle" ∧ yX14_firstBreak.cls ≠ "java/lang/invoke/VarHandle" ∧ (parseMethodDescriptor yX14_firstBreak.desc).map (fun d => d.parameters.length) = some 0 := by decide +kernel
theorem T_X14_firstBreak (o : Nat) (h : aH) (r : aR) (h' : aH) (hs : s_X14_firstBreak o h = some (r, h')) : Mt yX14_firstBreak (Cond.code yX14_firstBreak cX14_firstBreak 2 (some .int) :: aTB) 2 49 0 0 [.ref o] h r h' := by
  unfold s_X14_firstBreak at hs
  refine Mt_of (k := 1) (by decide) rfl (fun p l e s m args below meth c D B0 X ws0 C => ?_)
  show Ev p l e { frames := 2, cells := 0, slots := 0, locals := 49 } s m args below meth c D B0 X ws0 r h' 0 0 2 0 0 0 [some (.ref o), none] [] h
  refine ev_iconst C (v := 0) dX14_firstBreak_0 (by decide) ?_
  refine ev_istore_n C (by decide) dX14_firstBreak_1 ?_
  exact (t_X14_firstBreak_2 C  FU hs)
end
