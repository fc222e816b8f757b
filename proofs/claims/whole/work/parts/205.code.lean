-- X7_widen
theorem dX7_widen_0 : decode cX7_widen 0 = .ok (.iconst 0, 1) := by decide +kernel
theorem dX7_widen_1 : decode cX7_widen 1 = .ok (.istore_n 2, 1) := by decide +kernel
theorem dX7_widen_2 : decode cX7_widen 2 = .ok (.iload_n 2, 1) := by decide +kernel
theorem dX7_widen_3 : decode cX7_widen 3 = .ok (.aload_n 0, 1) := by decide +kernel
theorem dX7_widen_4 : decode cX7_widen 4 = .ok (.getfield 36, 3) := by decide +kernel
theorem dX7_widen_7 : decode cX7_widen 7 = .ok (.getfield 64, 3) := by decide +kernel
theorem dX7_widen_10 : decode cX7_widen 10 = .ok (.if_icmp .ge 65, 3) := by decide +kernel
theorem dX7_widen_13 : decode cX7_widen 13 = .ok (.iconst 0, 1) := by decide +kernel
theorem dX7_widen_14 : decode cX7_widen 14 = .ok (.istore_n 3, 1) := by decide +kernel
theorem dX7_widen_15 : decode cX7_widen 15 = .ok (.iload_n 3, 1) := by decide +kernel
theorem dX7_widen_16 : decode cX7_widen 16 = .ok (.aload_n 0, 1) := by decide +kernel
theorem dX7_widen_17 : decode cX7_widen 17 = .ok (.getfield 36, 3) := by decide +kernel
theorem dX7_widen_20 : decode cX7_widen 20 = .ok (.getfield 73, 3) := by decide +kernel
theorem dX7_widen_23 : decode cX7_widen 23 = .ok (.if_icmp .ge 46, 3) := by decide +kernel
theorem dX7_widen_26 : decode cX7_widen 26 = .ok (.aload_n 0, 1) := by decide +kernel
theorem dX7_widen_27 : decode cX7_widen 27 = .ok (.getfield 24, 3) := by decide +kernel
theorem dX7_widen_30 : decode cX7_widen 30 = .ok (.iload_n 2, 1) := by decide +kernel
theorem dX7_widen_31 : decode cX7_widen 31 = .ok (.iaload, 1) := by decide +kernel
theorem dX7_widen_32 : decode cX7_widen 32 = .ok (.iload_n 3, 1) := by decide +kernel
theorem dX7_widen_33 : decode cX7_widen 33 = .ok (.ishr, 1) := by decide +kernel
theorem dX7_widen_34 : decode cX7_widen 34 = .ok (.iconst 1, 1) := by decide +kernel
theorem dX7_widen_35 : decode cX7_widen 35 = .ok (.iand, 1) := by decide +kernel
theorem dX7_widen_36 : decode cX7_widen 36 = .ok (.ifCond .eq 27, 3) := by decide +kernel
theorem dX7_widen_39 : decode cX7_widen 39 = .ok (.aload_n 0, 1) := by decide +kernel
theorem dX7_widen_40 : decode cX7_widen 40 = .ok (.iload_n 2, 1) := by decide +kernel
theorem dX7_widen_41 : decode cX7_widen 41 = .ok (.iload_n 3, 1) := by decide +kernel
theorem dX7_widen_42 : decode cX7_widen 42 = .ok (.iload_n 1, 1) := by decide +kernel
theorem dX7_widen_43 : decode cX7_widen 43 = .ok (.invokevirtual 118, 3) := by decide +kernel
theorem dX7_widen_46 : decode cX7_widen 46 = .ok (.ifCond .ne 17, 3) := by decide +kernel
theorem dX7_widen_49 : decode cX7_widen 49 = .ok (.aload_n 0, 1) := by decide +kernel
theorem dX7_widen_50 : decode cX7_widen 50 = .ok (.getfield 24, 3) := by decide +kernel
theorem dX7_widen_53 : decode cX7_widen 53 = .ok (.iload_n 2, 1) := by decide +kernel
theorem dX7_widen_54 : decode cX7_widen 54 = .ok (.dup2, 1) := by decide +kernel
theorem dX7_widen_55 : decode cX7_widen 55 = .ok (.iaload, 1) := by decide +kernel
theorem dX7_widen_56 : decode cX7_widen 56 = .ok (.iconst 1, 1) := by decide +kernel
theorem dX7_widen_57 : decode cX7_widen 57 = .ok (.iload_n 3, 1) := by decide +kernel
theorem dX7_widen_58 : decode cX7_widen 58 = .ok (.ishl, 1) := by decide +kernel
theorem dX7_widen_59 : decode cX7_widen 59 = .ok (.iconst (-1), 1) := by decide +kernel
theorem dX7_widen_60 : decode cX7_widen 60 = .ok (.ixor, 1) := by decide +kernel
theorem dX7_widen_61 : decode cX7_widen 61 = .ok (.iand, 1) := by decide +kernel
theorem dX7_widen_62 : decode cX7_widen 62 = .ok (.iastore, 1) := by decide +kernel
theorem dX7_widen_63 : decode cX7_widen 63 = .ok (.iinc 3 1, 3) := by decide +kernel
theorem dX7_widen_66 : decode cX7_widen 66 = .ok (.goto (-51), 3) := by decide +kernel
theorem dX7_widen_69 : decode cX7_widen 69 = .ok (.iinc 2 1, 3) := by decide +kernel
theorem dX7_widen_72 : decode cX7_widen 72 = .ok (.goto (-70), 3) := by decide +kernel
theorem dX7_widen_75 : decode cX7_widen 75 = .ok (.aload_n 0, 1) := by decide +kernel
theorem dX7_widen_76 : decode cX7_widen 76 = .ok (.getfield 30, 3) := by decide +kernel
theorem dX7_widen_79 : decode cX7_widen 79 = .ok (.iconst (-1), 1) := by decide +kernel
theorem dX7_widen_80 : decode cX7_widen 80 = .ok (.invokestatic 92, 3) := by decide +kernel
theorem dX7_widen_83 : decode cX7_widen 83 = .ok (.iconst 0, 1) := by decide +kernel
theorem dX7_widen_84 : decode cX7_widen 84 = .ok (.istore_n 2, 1) := by decide +kernel
theorem dX7_widen_85 : decode cX7_widen 85 = .ok (.iload_n 2, 1) := by decide +kernel
theorem dX7_widen_86 : decode cX7_widen 86 = .ok (.aload_n 0, 1) := by decide +kernel
theorem dX7_widen_87 : decode cX7_widen 87 = .ok (.getfield 36, 3) := by decide +kernel
theorem dX7_widen_90 : decode cX7_widen 90 = .ok (.getfield 64, 3) := by decide +kernel
theorem dX7_widen_93 : decode cX7_widen 93 = .ok (.if_icmp .ge 37, 3) := by decide +kernel
theorem dX7_widen_96 : decode cX7_widen 96 = .ok (.aload_n 0, 1) := by decide +kernel
theorem dX7_widen_97 : decode cX7_widen 97 = .ok (.getfield 24, 3) := by decide +kernel
theorem dX7_widen_100 : decode cX7_widen 100 = .ok (.iload_n 2, 1) := by decide +kernel
theorem dX7_widen_101 : decode cX7_widen 101 = .ok (.iaload, 1) := by decide +kernel
theorem dX7_widen_102 : decode cX7_widen 102 = .ok (.ifCond .eq 22, 3) := by decide +kernel
theorem dX7_widen_105 : decode cX7_widen 105 = .ok (.aload_n 0, 1) := by decide +kernel
theorem dX7_widen_106 : decode cX7_widen 106 = .ok (.getfield 30, 3) := by decide +kernel
theorem dX7_widen_109 : decode cX7_widen 109 = .ok (.iload_n 2, 1) := by decide +kernel
theorem dX7_widen_110 : decode cX7_widen 110 = .ok (.iconst 5, 1) := by decide +kernel
theorem dX7_widen_111 : decode cX7_widen 111 = .ok (.ishr, 1) := by decide +kernel
theorem dX7_widen_112 : decode cX7_widen 112 = .ok (.dup2, 1) := by decide +kernel
theorem dX7_widen_113 : decode cX7_widen 113 = .ok (.iaload, 1) := by decide +kernel
theorem dX7_widen_114 : decode cX7_widen 114 = .ok (.iconst 1, 1) := by decide +kernel
theorem dX7_widen_115 : decode cX7_widen 115 = .ok (.iload_n 2, 1) := by decide +kernel
theorem dX7_widen_116 : decode cX7_widen 116 = .ok (.bipush 31, 2) := by decide +kernel
theorem dX7_widen_118 : decode cX7_widen 118 = .ok (.iand, 1) := by decide +kernel
theorem dX7_widen_119 : decode cX7_widen 119 = .ok (.ishl, 1) := by decide +kernel
theorem dX7_widen_120 : decode cX7_widen 120 = .ok (.iconst (-1), 1) := by decide +kernel
theorem dX7_widen_121 : decode cX7_widen 121 = .ok (.ixor, 1) := by decide +kernel
theorem dX7_widen_122 : decode cX7_widen 122 = .ok (.iand, 1) := by decide +kernel
theorem dX7_widen_123 : decode cX7_widen 123 = .ok (.iastore, 1) := by decide +kernel
theorem dX7_widen_124 : decode cX7_widen 124 = .ok (.iinc 2 1, 3) := by decide +kernel
theorem dX7_widen_127 : decode cX7_widen 127 = .ok (.goto (-42), 3) := by decide +kernel
theorem dX7_widen_130 : decode cX7_widen 130 = .ok (.iconst 1, 1) := by decide +kernel
theorem dX7_widen_131 : decode cX7_widen 131 = .ok (.istore_n 2, 1) := by decide +kernel
theorem dX7_widen_132 : decode cX7_widen 132 = .ok (.iconst 0, 1) := by decide +kernel
theorem dX7_widen_133 : decode cX7_widen 133 = .ok (.istore_n 3, 1) := by decide +kernel
theorem dX7_widen_134 : decode cX7_widen 134 = .ok (.iload_n 2, 1) := by decide +kernel
theorem dX7_widen_135 : decode cX7_widen 135 = .ok (.ifCond .le 33, 3) := by decide +kernel
theorem dX7_widen_138 : decode cX7_widen 138 = .ok (.iload_n 3, 1) := by decide +kernel
theorem dX7_widen_139 : decode cX7_widen 139 = .ok (.aload_n 0, 1) := by decide +kernel
theorem dX7_widen_140 : decode cX7_widen 140 = .ok (.getfield 36, 3) := by decide +kernel
theorem dX7_widen_143 : decode cX7_widen 143 = .ok (.getfield 64, 3) := by decide +kernel
theorem dX7_widen_146 : decode cX7_widen 146 = .ok (.if_icmp .gt 22, 3) := by decide +kernel
theorem dX7_widen_149 : decode cX7_widen 149 = .ok (.aload_n 0, 1) := by decide +kernel
theorem dX7_widen_150 : decode cX7_widen 150 = .ok (.aload_n 0, 1) := by decide +kernel
theorem dX7_widen_151 : decode cX7_widen 151 = .ok (.getfield 27, 3) := by decide +kernel
theorem dX7_widen_154 : decode cX7_widen 154 = .ok (.aload_n 0, 1) := by decide +kernel
theorem dX7_widen_155 : decode cX7_widen 155 = .ok (.getfield 24, 3) := by decide +kernel
theorem dX7_widen_158 : decode cX7_widen 158 = .ok (.invokevirtual 84, 3) := by decide +kernel
theorem dX7_widen_161 : decode cX7_widen 161 = .ok (.istore_n 2, 1) := by decide +kernel
theorem dX7_widen_162 : decode cX7_widen 162 = .ok (.iinc 3 1, 3) := by decide +kernel
theorem dX7_widen_165 : decode cX7_widen 165 = .ok (.goto (-31), 3) := by decide +kernel
theorem dX7_widen_168 : decode cX7_widen 168 = .ok (.return_, 1) := by decide +kernel
def s_X7_widen_134_b  (k134 : Nat → Int32 → Int32 → aH → aO) (l0 : Nat) (l2 : Int32) (l3 : Int32) (h : aH) : aO :=
  if l2 ≤ 0 then (some (.inl none, h)) else ((gO h (.ref l0) 7 0).bind fun x140 => (gI h (.ref x140) 2 12).bind fun x143 => if x143 < l3 then (some (.inl none, h)) else ((gO h (.ref l0) 7 11).bind fun x151 => (gO h (.ref l0) 7 10).bind fun x155 => kO h l0 7 (cI (s_X7_shrink l0 x151 x155 h) fun x158 h158 => k134 l0 x158 (l3 + 1) h158)))
def s_X7_widen_134  (n : Nat) : Nat → Int32 → Int32 → aH → aO := lpF (fun _ _ _ _ => none) (s_X7_widen_134_b ) n
def s_X7_widen_85_b  (k85 : Nat → Int32 → aH → aO) (l0 : Nat) (l2 : Int32) (h : aH) : aO :=
  (gO h (.ref l0) 7 0).bind fun x87 => (gI h (.ref x87) 2 12).bind fun x90 => if x90 ≤ l2 then (s_X7_widen_134 FU l0 1 0 h) else ((gO h (.ref l0) 7 10).bind fun x97 => (ldI .int h (.ref x97) l2).bind fun x101 => if x101 = 0 then (k85 l0 (l2 + 1) h) else ((gO h (.ref l0) 7 12).bind fun x106 => (ldI .int h (.ref x106) (l2 >>> (5 &&& 31))).bind fun x113 => (stI h (.ref x106) (l2 >>> (5 &&& 31)) (x113 &&& ((1 <<< ((l2 &&& 31) &&& 31)) ^^^ (-1)))).bind fun h123 => k85 l0 (l2 + 1) h123))
def s_X7_widen_85  (n : Nat) : Nat → Int32 → aH → aO := lpF (fun _ _ _ => none) (s_X7_widen_85_b ) n
def s_X7_widen_15_b (k2 : Nat → Int32 → Int32 → aH → aO) (k15 : Nat → Int32 → Int32 → Int32 → aH → aO) (l0 : Nat) (l1 : Int32) (l2 : Int32) (l3 : Int32) (h : aH) : aO :=
  (gO h (.ref l0) 7 0).bind fun x17 => (gI h (.ref x17) 2 13).bind fun x20 => if x20 ≤ l3 then (k2 l0 l1 (l2 + 1) h) else ((gO h (.ref l0) 7 10).bind fun x27 => (ldI .int h (.ref x27) l2).bind fun x31 => if ((x31 >>> (l3 &&& 31)) &&& 1) = 0 then (k15 l0 l1 l2 (l3 + 1) h) else (kO h l0 7 (cI (s_X7_staysByWider l0 l2 l3 l1 h) fun x43 h43 => if x43 = 0 then ((gO h43 (.ref l0) 7 10).bind fun x50 => (ldI .int h43 (.ref x50) l2).bind fun x55 => (stI h43 (.ref x50) l2 (x55 &&& ((1 <<< (l3 &&& 31)) ^^^ (-1)))).bind fun h62 => k15 l0 l1 l2 (l3 + 1) h62) else (k15 l0 l1 l2 (l3 + 1) h43))))
def s_X7_widen_15 (k2 : Nat → Int32 → Int32 → aH → aO) (n : Nat) : Nat → Int32 → Int32 → Int32 → aH → aO := lpF (fun _ _ _ _ _ => none) (s_X7_widen_15_b k2) n
def s_X7_widen_2_b  (k2 : Nat → Int32 → Int32 → aH → aO) (l0 : Nat) (l1 : Int32) (l2 : Int32) (h : aH) : aO :=
  (gO h (.ref l0) 7 0).bind fun x4 => (gI h (.ref x4) 2 12).bind fun x7 => if x7 ≤ l2 then ((gO h (.ref l0) 7 12).bind fun x76 => cN (s_J7_fill_53178 x76 (-1) h) fun h80 => s_X7_widen_85 FU l0 0 h80) else (s_X7_widen_15 k2 FU l0 l1 l2 0 h)
def s_X7_widen_2  (n : Nat) : Nat → Int32 → Int32 → aH → aO := lpF (fun _ _ _ _ => none) (s_X7_widen_2_b ) n
def s_X7_widen (o : Nat) (a1 : Int32) (h : aH) : aO :=
  s_X7_widen_2 FU o a1 0 h
section
variable {p : Program} {l : Launch} {e : Env} {s : State} {m : MethodId} {args : Array Value} {below : List Frame} {meth : Method} {c : Code} {D : va_G} {B0 : Nat} {X : Nat → Nat} {ws0 : va_W} {r : aR} {h' : aH} {mc ms : Nat}
theorem t_X7_widen_134_b (C : Cx p l s m args meth c B0 X RX7 "widen" cX7_widen 4 none [])   {k134 : Nat → Int32 → Int32 → aH → aO} (K134 : ∀ (l0 : Nat) (l2 : Int32) (l3 : Int32) (h : aH), k134 l0 l2 l3 h = some (r, h') → Ev p l e { frames := 5, cells := mc, slots := ms, locals := 128 } s m args below meth c D B0 X ws0 r h' mc ms 4 mc ms 134 [some (.ref l0), none, some (.int l2), some (.int l3)] [] h) {l0 : Nat} {l2 : Int32} {l3 : Int32} {h : aH} (hs : s_X7_widen_134_b  k134 l0 l2 l3 h = some (r, h')) : Ev p l e { frames := 5, cells := mc, slots := ms, locals := 128 } s m args below meth c D B0 X ws0 r h' mc ms 4 mc ms 134 [some (.ref l0), none, some (.int l2), some (.int l3)] [] h := by
  unfold s_X7_widen_134_b at hs
  refine ev_iload_n C rfl dX7_widen_134 ?_
  refine ev_if_le C (tgt := 168) (by decide) dX7_widen_135 (fun q135 => ?_) (fun q135 => ?_)
  · replace hs := (if_pos q135).symm.trans hs
    cases hs
    exact ev_vret C rfl rfl (Nat.le_refl _) (Nat.le_refl _) rfl dX7_widen_168
  · replace hs := (if_neg q135).symm.trans hs
    refine ev_iload_n C rfl dX7_widen_138 ?_
    refine ev_aload_n C (x := .ref l0) rfl trivial dX7_widen_139 ?_
    obtain ⟨x140, e140, hs⟩ := aB hs
    refine ev_get C (ci := 7) (k := 0) rfl wu_7 (by decide) wf_X7_36 (gO_F e140) dX7_widen_140 ?_
    obtain ⟨x143, e143, hs⟩ := aB hs
    refine ev_getN C (ci := 2) (k := 12) rfl wu_2 (by decide) wg_X7_64 (gI_F e143) dX7_widen_143 ?_
    refine ev_icmp_gt C (tgt := 168) (by decide) dX7_widen_146 (fun q146 => ?_) (fun q146 => ?_)
    · replace hs := (if_pos q146).symm.trans hs
      cases hs
      exact ev_vret C rfl rfl (Nat.le_refl _) (Nat.le_refl _) rfl dX7_widen_168
    · replace hs := (if_neg q146).symm.trans hs
      refine ev_aload_n C (x := .ref l0) rfl trivial dX7_widen_149 ?_
      refine ev_aload_n C (x := .ref l0) rfl trivial dX7_widen_150 ?_
      obtain ⟨x151, e151, hs⟩ := aB hs
      refine ev_get C (ci := 7) (k := 11) rfl wu_7 (by decide) wf_X7_27 (gO_F e151) dX7_widen_151 ?_
      refine ev_aload_n C (x := .ref l0) rfl trivial dX7_widen_154 ?_
      obtain ⟨x155, e155, hs⟩ := aB hs
      refine ev_get C (ci := 7) (k := 10) rfl wu_7 (by decide) wf_X7_24 (gO_F e155) dX7_widen_155 ?_
      obtain ⟨eo158, hs⟩ := kO_at hs
      obtain ⟨x158, h158, e158, hs⟩ := cI_at hs
      refine ev_callV C (T_X7_shrink _ _ _ _ _ _ e158) (ci := 7) rfl eo158 wc_X7_shrink wm_X7_84 wi_X7_shrink ws_X7_shrink wz_X7 hy_X7_shrink ⟨(Nat.le_of_ble_eq_true rfl), (Nat.le_of_ble_eq_true rfl)⟩ ⟨(Nat.le_refl _), (Nat.le_refl _)⟩ (Nat.le_of_ble_eq_true rfl) rfl dX7_widen_158 ?_
      refine ev_istore_n C (by decide) dX7_widen_161 ?_
      refine ev_iinc C (i := 3) (n := 1) (x := l3) (v := l3 + 1) rfl (congrArg (fun z => l3 + z) (show Int32.ofInt 1 = 1 by decide)) (by decide) dX7_widen_162 ?_
      refine ev_goto C (tgt := 134) (by decide) dX7_widen_165 ?_
      exact (K134 _ _ _ _ hs)
theorem t_X7_widen_134 (C : Cx p l s m args meth c B0 X RX7 "widen" cX7_widen 4 none [])   : ∀ (n : Nat) {l0 : Nat} {l2 : Int32} {l3 : Int32} {h : aH} (hs : s_X7_widen_134  n l0 l2 l3 h = some (r, h')), Ev p l e { frames := 5, cells := mc, slots := ms, locals := 128 } s m args below meth c D B0 X ws0 r h' mc ms 4 mc ms 134 [some (.ref l0), none, some (.int l2), some (.int l3)] [] h
  | 0, _, _, _, _, hs => nomatch hs
  | n + 1, _, _, _, _, hs => t_X7_widen_134_b C  (k134 := s_X7_widen_134  n) (fun _ _ _ _ hs => t_X7_widen_134 C  n hs) hs
theorem t_X7_widen_85_b (C : Cx p l s m args meth c B0 X RX7 "widen" cX7_widen 4 none [])   {k85 : Nat → Int32 → aH → aO} (K85 : ∀ (l0 : Nat) (l2 : Int32) (h : aH), k85 l0 l2 h = some (r, h') → Ev p l e { frames := 5, cells := mc, slots := ms, locals := 128 } s m args below meth c D B0 X ws0 r h' mc ms 4 mc ms 85 [some (.ref l0), none, some (.int l2), none] [] h) {l0 : Nat} {l2 : Int32} {h : aH} (hs : s_X7_widen_85_b  k85 l0 l2 h = some (r, h')) : Ev p l e { frames := 5, cells := mc, slots := ms, locals := 128 } s m args below meth c D B0 X ws0 r h' mc ms 4 mc ms 85 [some (.ref l0), none, some (.int l2), none] [] h := by
  unfold s_X7_widen_85_b at hs
  refine ev_iload_n C rfl dX7_widen_85 ?_
  refine ev_aload_n C (x := .ref l0) rfl trivial dX7_widen_86 ?_
  obtain ⟨x87, e87, hs⟩ := aB hs
  refine ev_get C (ci := 7) (k := 0) rfl wu_7 (by decide) wf_X7_36 (gO_F e87) dX7_widen_87 ?_
  obtain ⟨x90, e90, hs⟩ := aB hs
  refine ev_getN C (ci := 2) (k := 12) rfl wu_2 (by decide) wg_X7_64 (gI_F e90) dX7_widen_90 ?_
  refine ev_icmp_ge C (tgt := 130) (by decide) dX7_widen_93 (fun q93 => ?_) (fun q93 => ?_)
  · replace hs := (if_pos q93).symm.trans hs
    refine ev_iconst C (v := 1) dX7_widen_130 (by decide) ?_
    refine ev_istore_n C (by decide) dX7_widen_131 ?_
    refine ev_iconst C (v := 0) dX7_widen_132 (by decide) ?_
    refine ev_istore_n C (by decide) dX7_widen_133 ?_
    exact (t_X7_widen_134 C  FU hs)
  · replace hs := (if_neg q93).symm.trans hs
    refine ev_aload_n C (x := .ref l0) rfl trivial dX7_widen_96 ?_
    obtain ⟨x97, e97, hs⟩ := aB hs
    refine ev_get C (ci := 7) (k := 10) rfl wu_7 (by decide) wf_X7_24 (gO_F e97) dX7_widen_97 ?_
    refine ev_iload_n C rfl dX7_widen_100 ?_
    obtain ⟨x101, e101, hs⟩ := aB hs
    refine ev_iald C e101 dX7_widen_101 ?_
    refine ev_if_eq C (tgt := 124) (by decide) dX7_widen_102 (fun q102 => ?_) (fun q102 => ?_)
    · replace hs := (if_pos q102).symm.trans hs
      refine ev_iinc C (i := 2) (n := 1) (x := l2) (v := l2 + 1) rfl (congrArg (fun z => l2 + z) (show Int32.ofInt 1 = 1 by decide)) (by decide) dX7_widen_124 ?_
      refine ev_goto C (tgt := 85) (by decide) dX7_widen_127 ?_
      exact (K85 _ _ _ hs)
    · replace hs := (if_neg q102).symm.trans hs
      refine ev_aload_n C (x := .ref l0) rfl trivial dX7_widen_105 ?_
      obtain ⟨x106, e106, hs⟩ := aB hs
      refine ev_get C (ci := 7) (k := 12) rfl wu_7 (by decide) wf_X7_30 (gO_F e106) dX7_widen_106 ?_
      refine ev_iload_n C rfl dX7_widen_109 ?_
      refine ev_iconst C (v := 5) dX7_widen_110 (by decide) ?_
      refine ev_ishr C dX7_widen_111 ?_
      refine ev_dup2 C rfl rfl dX7_widen_112 ?_
      obtain ⟨x113, e113, hs⟩ := aB hs
      refine ev_iald C e113 dX7_widen_113 ?_
      refine ev_iconst C (v := 1) dX7_widen_114 (by decide) ?_
      refine ev_iload_n C rfl dX7_widen_115 ?_
      refine ev_bipush C (v := 31) dX7_widen_116 (by decide) ?_
      refine ev_iand C dX7_widen_118 ?_
      refine ev_ishl C dX7_widen_119 ?_
      refine ev_iconst C (v := (-1)) dX7_widen_120 (by decide) ?_
      refine ev_ixor C dX7_widen_121 ?_
      refine ev_iand C dX7_widen_122 ?_
      obtain ⟨h123, e123, hs⟩ := aB hs
      refine ev_iast C e123 dX7_widen_123 ?_
      refine ev_iinc C (i := 2) (n := 1) (x := l2) (v := l2 + 1) rfl (congrArg (fun z => l2 + z) (show Int32.ofInt 1 = 1 by decide)) (by decide) dX7_widen_124 ?_
      refine ev_goto C (tgt := 85) (by decide) dX7_widen_127 ?_
      exact (K85 _ _ _ hs)
theorem t_X7_widen_85 (C : Cx p l s m args meth c B0 X RX7 "widen" cX7_widen 4 none [])   : ∀ (n : Nat) {l0 : Nat} {l2 : Int32} {h : aH} (hs : s_X7_widen_85  n l0 l2 h = some (r, h')), Ev p l e { frames := 5, cells := mc, slots := ms, locals := 128 } s m args below meth c D B0 X ws0 r h' mc ms 4 mc ms 85 [some (.ref l0), none, some (.int l2), none] [] h
  | 0, _, _, _, hs => nomatch hs
  | n + 1, _, _, _, hs => t_X7_widen_85_b C  (k85 := s_X7_widen_85  n) (fun _ _ _ hs => t_X7_widen_85 C  n hs) hs
theorem t_X7_widen_15_b (C : Cx p l s m args meth c B0 X RX7 "widen" cX7_widen 4 none []) {k2 : Nat → Int32 → Int32 → aH → aO} (K2 : ∀ (l0 : Nat) (l1 : Int32) (l2 : Int32) (h : aH), k2 l0 l1 l2 h = some (r, h') → Ev p l e { frames := 5, cells := mc, slots := ms, locals := 128 } s m args below meth c D B0 X ws0 r h' mc ms 4 mc ms 2 [some (.ref l0), some (.int l1), some (.int l2), none] [] h) {k15 : Nat → Int32 → Int32 → Int32 → aH → aO} (K15 : ∀ (l0 : Nat) (l1 : Int32) (l2 : Int32) (l3 : Int32) (h : aH), k15 l0 l1 l2 l3 h = some (r, h') → Ev p l e { frames := 5, cells := mc, slots := ms, locals := 128 } s m args below meth c D B0 X ws0 r h' mc ms 4 mc ms 15 [some (.ref l0), some (.int l1), some (.int l2), some (.int l3)] [] h) {l0 : Nat} {l1 : Int32} {l2 : Int32} {l3 : Int32} {h : aH} (hs : s_X7_widen_15_b k2 k15 l0 l1 l2 l3 h = some (r, h')) : Ev p l e { frames := 5, cells := mc, slots := ms, locals := 128 } s m args below meth c D B0 X ws0 r h' mc ms 4 mc ms 15 [some (.ref l0), some (.int l1), some (.int l2), some (.int l3)] [] h := by
  unfold s_X7_widen_15_b at hs
  refine ev_iload_n C rfl dX7_widen_15 ?_
  refine ev_aload_n C (x := .ref l0) rfl trivial dX7_widen_16 ?_
  obtain ⟨x17, e17, hs⟩ := aB hs
  refine ev_get C (ci := 7) (k := 0) rfl wu_7 (by decide) wf_X7_36 (gO_F e17) dX7_widen_17 ?_
  obtain ⟨x20, e20, hs⟩ := aB hs
  refine ev_getN C (ci := 2) (k := 13) rfl wu_2 (by decide) wg_X7_73 (gI_F e20) dX7_widen_20 ?_
  refine ev_icmp_ge C (tgt := 69) (by decide) dX7_widen_23 (fun q23 => ?_) (fun q23 => ?_)
  · replace hs := (if_pos q23).symm.trans hs
    refine ev_iinc C (i := 2) (n := 1) (x := l2) (v := l2 + 1) rfl (congrArg (fun z => l2 + z) (show Int32.ofInt 1 = 1 by decide)) (by decide) dX7_widen_69 ?_
    refine ev_goto C (tgt := 2) (by decide) dX7_widen_72 ?_
    exact Ev.keep [true, true, true, false] (K2 _ _ _ _ hs)
  · replace hs := (if_neg q23).symm.trans hs
    refine ev_aload_n C (x := .ref l0) rfl trivial dX7_widen_26 ?_
    obtain ⟨x27, e27, hs⟩ := aB hs
    refine ev_get C (ci := 7) (k := 10) rfl wu_7 (by decide) wf_X7_24 (gO_F e27) dX7_widen_27 ?_
    refine ev_iload_n C rfl dX7_widen_30 ?_
    obtain ⟨x31, e31, hs⟩ := aB hs
    refine ev_iald C e31 dX7_widen_31 ?_
    refine ev_iload_n C rfl dX7_widen_32 ?_
    refine ev_ishr C dX7_widen_33 ?_
    refine ev_iconst C (v := 1) dX7_widen_34 (by decide) ?_
    refine ev_iand C dX7_widen_35 ?_
    refine ev_if_eq C (tgt := 63) (by decide) dX7_widen_36 (fun q36 => ?_) (fun q36 => ?_)
    · replace hs := (if_pos q36).symm.trans hs
      refine ev_iinc C (i := 3) (n := 1) (x := l3) (v := l3 + 1) rfl (congrArg (fun z => l3 + z) (show Int32.ofInt 1 = 1 by decide)) (by decide) dX7_widen_63 ?_
      refine ev_goto C (tgt := 15) (by decide) dX7_widen_66 ?_
      exact (K15 _ _ _ _ _ hs)
    · replace hs := (if_neg q36).symm.trans hs
      refine ev_aload_n C (x := .ref l0) rfl trivial dX7_widen_39 ?_
      refine ev_iload_n C rfl dX7_widen_40 ?_
      refine ev_iload_n C rfl dX7_widen_41 ?_
      refine ev_iload_n C rfl dX7_widen_42 ?_
      obtain ⟨eo43, hs⟩ := kO_at hs
      obtain ⟨x43, h43, e43, hs⟩ := cI_at hs
      refine ev_callV C (T_X7_staysByWider _ _ _ _ _ _ _ e43) (ci := 7) rfl eo43 wc_X7_staysByWider wm_X7_118 wi_X7_staysByWider ws_X7_staysByWider wz_X7 hy_X7_staysByWider ⟨(Nat.le_of_ble_eq_true rfl), (Nat.le_of_ble_eq_true rfl)⟩ ⟨(Nat.le_refl _), (Nat.le_refl _)⟩ (Nat.le_of_ble_eq_true rfl) rfl dX7_widen_43 ?_
      refine ev_if_ne C (tgt := 63) (by decide) dX7_widen_46 (fun q46 => ?_) (fun q46 => ?_)
      · replace hs := (if_neg q46).symm.trans hs
        refine ev_iinc C (i := 3) (n := 1) (x := l3) (v := l3 + 1) rfl (congrArg (fun z => l3 + z) (show Int32.ofInt 1 = 1 by decide)) (by decide) dX7_widen_63 ?_
        refine ev_goto C (tgt := 15) (by decide) dX7_widen_66 ?_
        exact (K15 _ _ _ _ _ hs)
      · replace hs := (if_pos q46).symm.trans hs
        refine ev_aload_n C (x := .ref l0) rfl trivial dX7_widen_49 ?_
        obtain ⟨x50, e50, hs⟩ := aB hs
        refine ev_get C (ci := 7) (k := 10) rfl wu_7 (by decide) wf_X7_24 (gO_F e50) dX7_widen_50 ?_
        refine ev_iload_n C rfl dX7_widen_53 ?_
        refine ev_dup2 C rfl rfl dX7_widen_54 ?_
        obtain ⟨x55, e55, hs⟩ := aB hs
        refine ev_iald C e55 dX7_widen_55 ?_
        refine ev_iconst C (v := 1) dX7_widen_56 (by decide) ?_
        refine ev_iload_n C rfl dX7_widen_57 ?_
        refine ev_ishl C dX7_widen_58 ?_
        refine ev_iconst C (v := (-1)) dX7_widen_59 (by decide) ?_
        refine ev_ixor C dX7_widen_60 ?_
        refine ev_iand C dX7_widen_61 ?_
        obtain ⟨h62, e62, hs⟩ := aB hs
        refine ev_iast C e62 dX7_widen_62 ?_
        refine ev_iinc C (i := 3) (n := 1) (x := l3) (v := l3 + 1) rfl (congrArg (fun z => l3 + z) (show Int32.ofInt 1 = 1 by decide)) (by decide) dX7_widen_63 ?_
        refine ev_goto C (tgt := 15) (by decide) dX7_widen_66 ?_
        exact (K15 _ _ _ _ _ hs)
theorem t_X7_widen_15 (C : Cx p l s m args meth c B0 X RX7 "widen" cX7_widen 4 none []) {k2 : Nat → Int32 → Int32 → aH → aO} (K2 : ∀ (l0 : Nat) (l1 : Int32) (l2 : Int32) (h : aH), k2 l0 l1 l2 h = some (r, h') → Ev p l e { frames := 5, cells := mc, slots := ms, locals := 128 } s m args below meth c D B0 X ws0 r h' mc ms 4 mc ms 2 [some (.ref l0), some (.int l1), some (.int l2), none] [] h) : ∀ (n : Nat) {l0 : Nat} {l1 : Int32} {l2 : Int32} {l3 : Int32} {h : aH} (hs : s_X7_widen_15 k2 n l0 l1 l2 l3 h = some (r, h')), Ev p l e { frames := 5, cells := mc, slots := ms, locals := 128 } s m args below meth c D B0 X ws0 r h' mc ms 4 mc ms 15 [some (.ref l0), some (.int l1), some (.int l2), some (.int l3)] [] h
  | 0, _, _, _, _, _, hs => nomatch hs
  | n + 1, _, _, _, _, _, hs => t_X7_widen_15_b C K2 (k15 := s_X7_widen_15 k2 n) (fun _ _ _ _ _ hs => t_X7_widen_15 C K2 n hs) hs
theorem t_X7_widen_2_b (C : Cx p l s m args meth c B0 X RX7 "widen" cX7_widen 4 none [])   {k2 : Nat → Int32 → Int32 → aH → aO} (K2 : ∀ (l0 : Nat) (l1 : Int32) (l2 : Int32) (h : aH), k2 l0 l1 l2 h = some (r, h') → Ev p l e { frames := 5, cells := mc, slots := ms, locals := 128 } s m args below meth c D B0 X ws0 r h' mc ms 4 mc ms 2 [some (.ref l0), some (.int l1), some (.int l2), none] [] h) {l0 : Nat} {l1 : Int32} {l2 : Int32} {h : aH} (hs : s_X7_widen_2_b  k2 l0 l1 l2 h = some (r, h')) : Ev p l e { frames := 5, cells := mc, slots := ms, locals := 128 } s m args below meth c D B0 X ws0 r h' mc ms 4 mc ms 2 [some (.ref l0), some (.int l1), some (.int l2), none] [] h := by
  unfold s_X7_widen_2_b at hs
  refine ev_iload_n C rfl dX7_widen_2 ?_
  refine ev_aload_n C (x := .ref l0) rfl trivial dX7_widen_3 ?_
  obtain ⟨x4, e4, hs⟩ := aB hs
  refine ev_get C (ci := 7) (k := 0) rfl wu_7 (by decide) wf_X7_36 (gO_F e4) dX7_widen_4 ?_
  obtain ⟨x7, e7, hs⟩ := aB hs
  refine ev_getN C (ci := 2) (k := 12) rfl wu_2 (by decide) wg_X7_64 (gI_F e7) dX7_widen_7 ?_
  refine ev_icmp_ge C (tgt := 75) (by decide) dX7_widen_10 (fun q10 => ?_) (fun q10 => ?_)
  · replace hs := (if_pos q10).symm.trans hs
    refine ev_aload_n C (x := .ref l0) rfl trivial dX7_widen_75 ?_
    obtain ⟨x76, e76, hs⟩ := aB hs
    refine ev_get C (ci := 7) (k := 12) rfl wu_7 (by decide) wf_X7_30 (gO_F e76) dX7_widen_76 ?_
    refine ev_iconst C (v := (-1)) dX7_widen_79 (by decide) ?_
    obtain ⟨h80, e80, hs⟩ := cN_at hs
    refine ev_callS C (T_J7_fill_53178 _ _ _ _ _ e80) wc_J7_fill_53178 wm_X7_92 wt_J7_fill_53178 wz_J7 hy_J7_fill_53178 ⟨(Nat.le_of_ble_eq_true rfl), (Nat.le_of_ble_eq_true rfl)⟩ ⟨(Nat.le_refl _), (Nat.le_refl _)⟩ (Nat.le_of_ble_eq_true rfl) rfl dX7_widen_80 ?_
    refine ev_iconst C (v := 0) dX7_widen_83 (by decide) ?_
    refine ev_istore_n C (by decide) dX7_widen_84 ?_
    exact Ev.keep [true, false, true, true] (t_X7_widen_85 C  FU hs)
  · replace hs := (if_neg q10).symm.trans hs
    refine ev_iconst C (v := 0) dX7_widen_13 (by decide) ?_
    refine ev_istore_n C (by decide) dX7_widen_14 ?_
    exact (t_X7_widen_15 C K2 FU hs)
theorem t_X7_widen_2 (C : Cx p l s m args meth c B0 X RX7 "widen" cX7_widen 4 none [])   : ∀ (n : Nat) {l0 : Nat} {l1 : Int32} {l2 : Int32} {h : aH} (hs : s_X7_widen_2  n l0 l1 l2 h = some (r, h')), Ev p l e { frames := 5, cells := mc, slots := ms, locals := 128 } s m args below meth c D B0 X ws0 r h' mc ms 4 mc ms 2 [some (.ref l0), some (.int l1), some (.int l2), none] [] h
  | 0, _, _, _, _, hs => nomatch hs
  | n + 1, _, _, _, _, hs => t_X7_widen_2_b C  (k2 := s_X7_widen_2  n) (fun _ _ _ _ hs => t_X7_widen_2 C  n hs) hs
theorem hy_X7_widen : yX7_widen.cls ≠ "java/lang/invoke/MethodHandle" ∧ yX7_widen.cls ≠ "java/lang/invoke/VarHandle" ∧ (parseMethodDescriptor yX7_widen.desc).map (fun d => d.parameters.length) = some 1 := by decide +kernel
theorem T_X7_widen (o : Nat) (a1 : Int32) (h : aH) (r : aR) (h' : aH) (hs : s_X7_widen o a1 h = some (r, h')) : Mt yX7_widen (Cond.code yX7_widen cX7_widen 4 none :: aTB) 5 128 0 0 [.ref o, .int a1] h r h' := by
  unfold s_X7_widen at hs
  refine Mt_of (k := 2) (by decide) rfl (fun p l e s m args below meth c D B0 X ws0 C => ?_)
  show Ev p l e { frames := 5, cells := 0, slots := 0, locals := 128 } s m args below meth c D B0 X ws0 r h' 0 0 4 0 0 0 [some (.ref o), some (.int a1), none, none] [] h
  refine ev_iconst C (v := 0) dX7_widen_0 (by decide) ?_
  refine ev_istore_n C (by decide) dX7_widen_1 ?_
  exact (t_X7_widen_2 C  FU hs)
end
-- X7_settleMargins
theorem dX7_settleMargins_0 : decode cX7_settleMargins 0 = .ok (.aload_n 0, 1) := by decide +kernel
theorem dX7_settleMargins_1 : decode cX7_settleMargins 1 = .ok (.getfield 52, 3) := by decide +kernel
theorem dX7_settleMargins_4 : decode cX7_settleMargins 4 = .ok (.ifCond .eq 4, 3) := by decide +kernel
theorem dX7_settleMargins_7 : decode cX7_settleMargins 7 = .ok (.return_, 1) := by decide +kernel
theorem dX7_settleMargins_8 : decode cX7_settleMargins 8 = .ok (.aload_n 0, 1) := by decide +kernel
theorem dX7_settleMargins_9 : decode cX7_settleMargins 9 = .ok (.iconst 1, 1) := by decide +kernel
theorem dX7_settleMargins_10 : decode cX7_settleMargins 10 = .ok (.putfield 52, 3) := by decide +kernel
theorem dX7_settleMargins_13 : decode cX7_settleMargins 13 = .ok (.aload_n 0, 1) := by decide +kernel
theorem dX7_settleMargins_14 : decode cX7_settleMargins 14 = .ok (.getfield 18, 3) := by decide +kernel
theorem dX7_settleMargins_17 : decode cX7_settleMargins 17 = .ok (.iconst 0, 1) := by decide +kernel
theorem dX7_settleMargins_18 : decode cX7_settleMargins 18 = .ok (.aload_n 0, 1) := by decide +kernel
theorem dX7_settleMargins_19 : decode cX7_settleMargins 19 = .ok (.getfield 24, 3) := by decide +kernel
theorem dX7_settleMargins_22 : decode cX7_settleMargins 22 = .ok (.iconst 0, 1) := by decide +kernel
theorem dX7_settleMargins_23 : decode cX7_settleMargins 23 = .ok (.aload_n 0, 1) := by decide +kernel
theorem dX7_settleMargins_24 : decode cX7_settleMargins 24 = .ok (.getfield 36, 3) := by decide +kernel
theorem dX7_settleMargins_27 : decode cX7_settleMargins 27 = .ok (.getfield 64, 3) := by decide +kernel
theorem dX7_settleMargins_30 : decode cX7_settleMargins 30 = .ok (.invokestatic 105, 3) := by decide +kernel
theorem dX7_settleMargins_33 : decode cX7_settleMargins 33 = .ok (.aload_n 0, 1) := by decide +kernel
theorem dX7_settleMargins_34 : decode cX7_settleMargins 34 = .ok (.getfield 36, 3) := by decide +kernel
theorem dX7_settleMargins_37 : decode cX7_settleMargins 37 = .ok (.getfield 64, 3) := by decide +kernel
theorem dX7_settleMargins_40 : decode cX7_settleMargins 40 = .ok (.aload_n 0, 1) := by decide +kernel
theorem dX7_settleMargins_41 : decode cX7_settleMargins 41 = .ok (.getfield 36, 3) := by decide +kernel
theorem dX7_settleMargins_44 : decode cX7_settleMargins 44 = .ok (.getfield 73, 3) := by decide +kernel
theorem dX7_settleMargins_47 : decode cX7_settleMargins 47 = .ok (.imul, 1) := by decide +kernel
theorem dX7_settleMargins_48 : decode cX7_settleMargins 48 = .ok (.aload_n 0, 1) := by decide +kernel
theorem dX7_settleMargins_49 : decode cX7_settleMargins 49 = .ok (.getfield 40, 3) := by decide +kernel
theorem dX7_settleMargins_52 : decode cX7_settleMargins 52 = .ok (.getfield 98, 3) := by decide +kernel
theorem dX7_settleMargins_55 : decode cX7_settleMargins 55 = .ok (.imul, 1) := by decide +kernel
theorem dX7_settleMargins_56 : decode cX7_settleMargins 56 = .ok (.istore_n 1, 1) := by decide +kernel
theorem dX7_settleMargins_57 : decode cX7_settleMargins 57 = .ok (.aload_n 0, 1) := by decide +kernel
theorem dX7_settleMargins_58 : decode cX7_settleMargins 58 = .ok (.aload_n 0, 1) := by decide +kernel
theorem dX7_settleMargins_59 : decode cX7_settleMargins 59 = .ok (.getfield 27, 3) := by decide +kernel
theorem dX7_settleMargins_62 : decode cX7_settleMargins 62 = .ok (.iload_n 1, 1) := by decide +kernel
theorem dX7_settleMargins_63 : decode cX7_settleMargins 63 = .ok (.invokestatic 111, 3) := by decide +kernel
theorem dX7_settleMargins_66 : decode cX7_settleMargins 66 = .ok (.putfield 27, 3) := by decide +kernel
theorem dX7_settleMargins_69 : decode cX7_settleMargins 69 = .ok (.aload_n 0, 1) := by decide +kernel
theorem dX7_settleMargins_70 : decode cX7_settleMargins 70 = .ok (.getfield 40, 3) := by decide +kernel
theorem dX7_settleMargins_73 : decode cX7_settleMargins 73 = .ok (.getfield 79, 3) := by decide +kernel
theorem dX7_settleMargins_76 : decode cX7_settleMargins 76 = .ok (.iconst 0, 1) := by decide +kernel
theorem dX7_settleMargins_77 : decode cX7_settleMargins 77 = .ok (.aload_n 0, 1) := by decide +kernel
theorem dX7_settleMargins_78 : decode cX7_settleMargins 78 = .ok (.getfield 27, 3) := by decide +kernel
theorem dX7_settleMargins_81 : decode cX7_settleMargins 81 = .ok (.iconst 0, 1) := by decide +kernel
theorem dX7_settleMargins_82 : decode cX7_settleMargins 82 = .ok (.iload_n 1, 1) := by decide +kernel
theorem dX7_settleMargins_83 : decode cX7_settleMargins 83 = .ok (.invokestatic 105, 3) := by decide +kernel
theorem dX7_settleMargins_86 : decode cX7_settleMargins 86 = .ok (.iconst 0, 1) := by decide +kernel
theorem dX7_settleMargins_87 : decode cX7_settleMargins 87 = .ok (.istore_n 2, 1) := by decide +kernel
theorem dX7_settleMargins_88 : decode cX7_settleMargins 88 = .ok (.iload_n 2, 1) := by decide +kernel
theorem dX7_settleMargins_89 : decode cX7_settleMargins 89 = .ok (.aload_n 0, 1) := by decide +kernel
theorem dX7_settleMargins_90 : decode cX7_settleMargins 90 = .ok (.getfield 36, 3) := by decide +kernel
theorem dX7_settleMargins_93 : decode cX7_settleMargins 93 = .ok (.getfield 64, 3) := by decide +kernel
theorem dX7_settleMargins_96 : decode cX7_settleMargins 96 = .ok (.if_icmp .ge 30, 3) := by decide +kernel
theorem dX7_settleMargins_99 : decode cX7_settleMargins 99 = .ok (.aload_n 0, 1) := by decide +kernel
theorem dX7_settleMargins_100 : decode cX7_settleMargins 100 = .ok (.getfield 21, 3) := by decide +kernel
theorem dX7_settleMargins_103 : decode cX7_settleMargins 103 = .ok (.iload_n 2, 1) := by decide +kernel
theorem dX7_settleMargins_104 : decode cX7_settleMargins 104 = .ok (.aload_n 0, 1) := by decide +kernel
theorem dX7_settleMargins_105 : decode cX7_settleMargins 105 = .ok (.getfield 18, 3) := by decide +kernel
theorem dX7_settleMargins_108 : decode cX7_settleMargins 108 = .ok (.iload_n 2, 1) := by decide +kernel
theorem dX7_settleMargins_109 : decode cX7_settleMargins 109 = .ok (.iaload, 1) := by decide +kernel
theorem dX7_settleMargins_110 : decode cX7_settleMargins 110 = .ok (.ifCond .ne 8, 3) := by decide +kernel
theorem dX7_settleMargins_113 : decode cX7_settleMargins 113 = .ok (.bipush (-2), 2) := by decide +kernel
theorem dX7_settleMargins_115 : decode cX7_settleMargins 115 = .ok (.goto 4, 3) := by decide +kernel
theorem dX7_settleMargins_118 : decode cX7_settleMargins 118 = .ok (.iconst 0, 1) := by decide +kernel
theorem dX7_settleMargins_119 : decode cX7_settleMargins 119 = .ok (.iastore, 1) := by decide +kernel
theorem dX7_settleMargins_120 : decode cX7_settleMargins 120 = .ok (.iinc 2 1, 3) := by decide +kernel
theorem dX7_settleMargins_123 : decode cX7_settleMargins 123 = .ok (.goto (-35), 3) := by decide +kernel
theorem dX7_settleMargins_126 : decode cX7_settleMargins 126 = .ok (.iconst 1, 1) := by decide +kernel
theorem dX7_settleMargins_127 : decode cX7_settleMargins 127 = .ok (.istore_n 2, 1) := by decide +kernel
theorem dX7_settleMargins_128 : decode cX7_settleMargins 128 = .ok (.iload_n 2, 1) := by decide +kernel
theorem dX7_settleMargins_129 : decode cX7_settleMargins 129 = .ok (.iconst 2, 1) := by decide +kernel
theorem dX7_settleMargins_130 : decode cX7_settleMargins 130 = .ok (.if_icmp .gt 49, 3) := by decide +kernel
theorem dX7_settleMargins_133 : decode cX7_settleMargins 133 = .ok (.aload_n 0, 1) := by decide +kernel
theorem dX7_settleMargins_134 : decode cX7_settleMargins 134 = .ok (.iload_n 2, 1) := by decide +kernel
theorem dX7_settleMargins_135 : decode cX7_settleMargins 135 = .ok (.invokevirtual 115, 3) := by decide +kernel
theorem dX7_settleMargins_138 : decode cX7_settleMargins 138 = .ok (.iconst 0, 1) := by decide +kernel
theorem dX7_settleMargins_139 : decode cX7_settleMargins 139 = .ok (.istore_n 3, 1) := by decide +kernel
theorem dX7_settleMargins_140 : decode cX7_settleMargins 140 = .ok (.iload_n 3, 1) := by decide +kernel
theorem dX7_settleMargins_141 : decode cX7_settleMargins 141 = .ok (.aload_n 0, 1) := by decide +kernel
theorem dX7_settleMargins_142 : decode cX7_settleMargins 142 = .ok (.getfield 36, 3) := by decide +kernel
theorem dX7_settleMargins_145 : decode cX7_settleMargins 145 = .ok (.getfield 64, 3) := by decide +kernel
theorem dX7_settleMargins_148 : decode cX7_settleMargins 148 = .ok (.if_icmp .ge 25, 3) := by decide +kernel
theorem dX7_settleMargins_151 : decode cX7_settleMargins 151 = .ok (.aload_n 0, 1) := by decide +kernel
theorem dX7_settleMargins_152 : decode cX7_settleMargins 152 = .ok (.getfield 24, 3) := by decide +kernel
theorem dX7_settleMargins_155 : decode cX7_settleMargins 155 = .ok (.iload_n 3, 1) := by decide +kernel
theorem dX7_settleMargins_156 : decode cX7_settleMargins 156 = .ok (.iaload, 1) := by decide +kernel
theorem dX7_settleMargins_157 : decode cX7_settleMargins 157 = .ok (.ifCond .eq 10, 3) := by decide +kernel
theorem dX7_settleMargins_160 : decode cX7_settleMargins 160 = .ok (.aload_n 0, 1) := by decide +kernel
theorem dX7_settleMargins_161 : decode cX7_settleMargins 161 = .ok (.getfield 21, 3) := by decide +kernel
theorem dX7_settleMargins_164 : decode cX7_settleMargins 164 = .ok (.iload_n 3, 1) := by decide +kernel
theorem dX7_settleMargins_165 : decode cX7_settleMargins 165 = .ok (.iload_n 2, 1) := by decide +kernel
theorem dX7_settleMargins_166 : decode cX7_settleMargins 166 = .ok (.iastore, 1) := by decide +kernel
theorem dX7_settleMargins_167 : decode cX7_settleMargins 167 = .ok (.iinc 3 1, 3) := by decide +kernel
theorem dX7_settleMargins_170 : decode cX7_settleMargins 170 = .ok (.goto (-30), 3) := by decide +kernel
theorem dX7_settleMargins_173 : decode cX7_settleMargins 173 = .ok (.iinc 2 1, 3) := by decide +kernel
theorem dX7_settleMargins_176 : decode cX7_settleMargins 176 = .ok (.goto (-48), 3) := by decide +kernel
theorem dX7_settleMargins_179 : decode cX7_settleMargins 179 = .ok (.return_, 1) := by decide +kernel
def s_X7_settleMargins_140_b (k128 : Nat → Int32 → aH → aO) (k140 : Nat → Int32 → Int32 → aH → aO) (l0 : Nat) (l2 : Int32) (l3 : Int32) (h : aH) : aO :=
  (gO h (.ref l0) 7 0).bind fun x142 => (gI h (.ref x142) 2 12).bind fun x145 => if x145 ≤ l3 then (k128 l0 (l2 + 1) h) else ((gO h (.ref l0) 7 10).bind fun x152 => (ldI .int h (.ref x152) l3).bind fun x156 => if x156 = 0 then (k140 l0 l2 (l3 + 1) h) else ((gO h (.ref l0) 7 9).bind fun x161 => (stI h (.ref x161) l3 l2).bind fun h166 => k140 l0 l2 (l3 + 1) h166))
def s_X7_settleMargins_140 (k128 : Nat → Int32 → aH → aO) (n : Nat) : Nat → Int32 → Int32 → aH → aO := lpF (fun _ _ _ _ => none) (s_X7_settleMargins_140_b k128) n
def s_X7_settleMargins_128_b  (k128 : Nat → Int32 → aH → aO) (l0 : Nat) (l2 : Int32) (h : aH) : aO :=
  if 2 < l2 then (some (.inl none, h)) else (kO h l0 7 (cN (s_X7_widen l0 l2 h) fun h135 => s_X7_settleMargins_140 k128 FU l0 l2 0 h135))
def s_X7_settleMargins_128  (n : Nat) : Nat → Int32 → aH → aO := lpF (fun _ _ _ => none) (s_X7_settleMargins_128_b ) n
def s_X7_settleMargins_119 (k88 : Nat → Int32 → aH → aO) (l0 : Nat) (l2 : Int32) (s0 : Int32) (s1 : Int32) (s2 : Nat) (h : aH) : aO :=
  (stI h (.ref s2) s1 s0).bind fun h119 => k88 l0 (l2 + 1) h119
def s_X7_settleMargins_88_b  (k88 : Nat → Int32 → aH → aO) (l0 : Nat) (l2 : Int32) (h : aH) : aO :=
  (gO h (.ref l0) 7 0).bind fun x90 => (gI h (.ref x90) 2 12).bind fun x93 => if x93 ≤ l2 then (s_X7_settleMargins_128 FU l0 1 h) else ((gO h (.ref l0) 7 9).bind fun x100 => (gO h (.ref l0) 7 8).bind fun x105 => (ldI .int h (.ref x105) l2).bind fun x109 => if x109 = 0 then (s_X7_settleMargins_119 k88 l0 l2 (-2) l2 x100 h) else (s_X7_settleMargins_119 k88 l0 l2 0 l2 x100 h))
def s_X7_settleMargins_88  (n : Nat) : Nat → Int32 → aH → aO := lpF (fun _ _ _ => none) (s_X7_settleMargins_88_b ) n
def s_X7_settleMargins (o : Nat) (h : aH) : aP :=
  (gI h (.ref o) 7 5).bind fun x1 => if x1 = 0 then ((pZ h (.ref o) 7 5 1).bind fun h10 => (gO h10 (.ref o) 7 8).bind fun x14 => (gO h10 (.ref o) 7 10).bind fun x19 => (gO h10 (.ref o) 7 0).bind fun x24 => (gI h10 (.ref x24) 2 12).bind fun x27 => (cpI h10 (.ref x14) 0 (.ref x19) 0 x27).bind fun h30 => (gO h30 (.ref o) 7 0).bind fun x34 => (gI h30 (.ref x34) 2 12).bind fun x37 => (gO h30 (.ref o) 7 0).bind fun x41 => (gI h30 (.ref x41) 2 13).bind fun x44 => (gO h30 (.ref o) 7 1).bind fun x49 => (gI h30 (.ref x49) 3 3).bind fun x52 => (gO h30 (.ref o) 7 11).bind fun x59 => dR (s_X11_longEnough x59 ((x37 * x44) * x52) h30) fun x63 h63 n63 y63 => ck (0 + n63) (0 + y63) (wC (0 + n63) (0 + y63) ((pF h63 (.ref o) 7 11 (.ref x63)).bind fun h66 => (gO h66 (.ref o) 7 1).bind fun x70 => (gO h66 (.ref x70) 3 5).bind fun x73 => (gO h66 (.ref o) 7 11).bind fun x78 => (cpI h66 (.ref x73) 0 (.ref x78) 0 ((x37 * x44) * x52)).bind fun h83 => s_X7_settleMargins_88 FU o 0 h83))) else (wC 0 0 (some (.inl none, h)))
section
variable {p : Program} {l : Launch} {e : Env} {s : State} {m : MethodId} {args : Array Value} {below : List Frame} {meth : Method} {c : Code} {D : va_G} {B0 : Nat} {X : Nat → Nat} {ws0 : va_W} {r : aR} {h' : aH} {mc ms : Nat}
theorem t_X7_settleMargins_140_b (C : Cx p l s m args meth c B0 X RX7 "settleMargins" cX7_settleMargins 4 none []) {k128 : Nat → Int32 → aH → aO} (K128 : ∀ (l0 : Nat) (l2 : Int32) (h : aH), k128 l0 l2 h = some (r, h') → Ev p l e { frames := 6, cells := mc, slots := ms, locals := 151 } s m args below meth c D B0 X ws0 r h' mc ms 4 mc ms 128 [some (.ref l0), none, some (.int l2), none] [] h) {k140 : Nat → Int32 → Int32 → aH → aO} (K140 : ∀ (l0 : Nat) (l2 : Int32) (l3 : Int32) (h : aH), k140 l0 l2 l3 h = some (r, h') → Ev p l e { frames := 6, cells := mc, slots := ms, locals := 151 } s m args below meth c D B0 X ws0 r h' mc ms 4 mc ms 140 [some (.ref l0), none, some (.int l2), some (.int l3)] [] h) {l0 : Nat} {l2 : Int32} {l3 : Int32} {h : aH} (hs : s_X7_settleMargins_140_b k128 k140 l0 l2 l3 h = some (r, h')) : Ev p l e { frames := 6, cells := mc, slots := ms, locals := 151 } s m args below meth c D B0 X ws0 r h' mc ms 4 mc ms 140 [some (.ref l0), none, some (.int l2), some (.int l3)] [] h := by
  unfold s_X7_settleMargins_140_b at hs
  refine ev_iload_n C rfl dX7_settleMargins_140 ?_
  refine ev_aload_n C (x := .ref l0) rfl trivial dX7_settleMargins_141 ?_
  obtain ⟨x142, e142, hs⟩ := aB hs
  refine ev_get C (ci := 7) (k := 0) rfl wu_7 (by decide) wf_X7_36 (gO_F e142) dX7_settleMargins_142 ?_
  obtain ⟨x145, e145, hs⟩ := aB hs
  refine ev_getN C (ci := 2) (k := 12) rfl wu_2 (by decide) wg_X7_64 (gI_F e145) dX7_settleMargins_145 ?_
  refine ev_icmp_ge C (tgt := 173) (by decide) dX7_settleMargins_148 (fun q148 => ?_) (fun q148 => ?_)
  · replace hs := (if_pos q148).symm.trans hs
    refine ev_iinc C (i := 2) (n := 1) (x := l2) (v := l2 + 1) rfl (congrArg (fun z => l2 + z) (show Int32.ofInt 1 = 1 by decide)) (by decide) dX7_settleMargins_173 ?_
    refine ev_goto C (tgt := 128) (by decide) dX7_settleMargins_176 ?_
    exact Ev.keep [true, true, true, false] (K128 _ _ _ hs)
  · replace hs := (if_neg q148).symm.trans hs
    refine ev_aload_n C (x := .ref l0) rfl trivial dX7_settleMargins_151 ?_
    obtain ⟨x152, e152, hs⟩ := aB hs
    refine ev_get C (ci := 7) (k := 10) rfl wu_7 (by decide) wf_X7_24 (gO_F e152) dX7_settleMargins_152 ?_
    refine ev_iload_n C rfl dX7_settleMargins_155 ?_
    obtain ⟨x156, e156, hs⟩ := aB hs
    refine ev_iald C e156 dX7_settleMargins_156 ?_
    refine ev_if_eq C (tgt := 167) (by decide) dX7_settleMargins_157 (fun q157 => ?_) (fun q157 => ?_)
    · replace hs := (if_pos q157).symm.trans hs
      refine ev_iinc C (i := 3) (n := 1) (x := l3) (v := l3 + 1) rfl (congrArg (fun z => l3 + z) (show Int32.ofInt 1 = 1 by decide)) (by decide) dX7_settleMargins_167 ?_
      refine ev_goto C (tgt := 140) (by decide) dX7_settleMargins_170 ?_
      exact (K140 _ _ _ _ hs)
    · replace hs := (if_neg q157).symm.trans hs
      refine ev_aload_n C (x := .ref l0) rfl trivial dX7_settleMargins_160 ?_
      obtain ⟨x161, e161, hs⟩ := aB hs
      refine ev_get C (ci := 7) (k := 9) rfl wu_7 (by decide) wf_X7_21 (gO_F e161) dX7_settleMargins_161 ?_
      refine ev_iload_n C rfl dX7_settleMargins_164 ?_
      refine ev_iload_n C rfl dX7_settleMargins_165 ?_
      obtain ⟨h166, e166, hs⟩ := aB hs
      refine ev_iast C e166 dX7_settleMargins_166 ?_
      refine ev_iinc C (i := 3) (n := 1) (x := l3) (v := l3 + 1) rfl (congrArg (fun z => l3 + z) (show Int32.ofInt 1 = 1 by decide)) (by decide) dX7_settleMargins_167 ?_
      refine ev_goto C (tgt := 140) (by decide) dX7_settleMargins_170 ?_
      exact (K140 _ _ _ _ hs)
theorem t_X7_settleMargins_140 (C : Cx p l s m args meth c B0 X RX7 "settleMargins" cX7_settleMargins 4 none []) {k128 : Nat → Int32 → aH → aO} (K128 : ∀ (l0 : Nat) (l2 : Int32) (h : aH), k128 l0 l2 h = some (r, h') → Ev p l e { frames := 6, cells := mc, slots := ms, locals := 151 } s m args below meth c D B0 X ws0 r h' mc ms 4 mc ms 128 [some (.ref l0), none, some (.int l2), none] [] h) : ∀ (n : Nat) {l0 : Nat} {l2 : Int32} {l3 : Int32} {h : aH} (hs : s_X7_settleMargins_140 k128 n l0 l2 l3 h = some (r, h')), Ev p l e { frames := 6, cells := mc, slots := ms, locals := 151 } s m args below meth c D B0 X ws0 r h' mc ms 4 mc ms 140 [some (.ref l0), none, some (.int l2), some (.int l3)] [] h
  | 0, _, _, _, _, hs => nomatch hs
  | n + 1, _, _, _, _, hs => t_X7_settleMargins_140_b C K128 (k140 := s_X7_settleMargins_140 k128 n) (fun _ _ _ _ hs => t_X7_settleMargins_140 C K128 n hs) hs
theorem t_X7_settleMargins_128_b (C : Cx p l s m args meth c B0 X RX7 "settleMargins" cX7_settleMargins 4 none [])   {k128 : Nat → Int32 → aH → aO} (K128 : ∀ (l0 : Nat) (l2 : Int32) (h : aH), k128 l0 l2 h = some (r, h') → Ev p l e { frames := 6, cells := mc, slots := ms, locals := 151 } s m args below meth c D B0 X ws0 r h' mc ms 4 mc ms 128 [some (.ref l0), none, some (.int l2), none] [] h) {l0 : Nat} {l2 : Int32} {h : aH} (hs : s_X7_settleMargins_128_b  k128 l0 l2 h = some (r, h')) : Ev p l e { frames := 6, cells := mc, slots := ms, locals := 151 } s m args below meth c D B0 X ws0 r h' mc ms 4 mc ms 128 [some (.ref l0), none, some (.int l2), none] [] h := by
  unfold s_X7_settleMargins_128_b at hs
  refine ev_iload_n C rfl dX7_settleMargins_128 ?_
  refine ev_iconst C (v := 2) dX7_settleMargins_129 (by decide) ?_
  refine ev_icmp_gt C (tgt := 179) (by decide) dX7_settleMargins_130 (fun q130 => ?_) (fun q130 => ?_)
  · replace hs := (if_pos q130).symm.trans hs
    cases hs
    exact ev_vret C rfl rfl (Nat.le_refl _) (Nat.le_refl _) rfl dX7_settleMargins_179
  · replace hs := (if_neg q130).symm.trans hs
    refine ev_aload_n C (x := .ref l0) rfl trivial dX7_settleMargins_133 ?_
    refine ev_iload_n C rfl dX7_settleMargins_134 ?_
    obtain ⟨eo135, hs⟩ := kO_at hs
    obtain ⟨h135, e135, hs⟩ := cN_at hs
    refine ev_callV C (T_X7_widen _ _ _ _ _ e135) (ci := 7) rfl eo135 wc_X7_widen wm_X7_115 wi_X7_widen ws_X7_widen wz_X7 hy_X7_widen ⟨(Nat.le_of_ble_eq_true rfl), (Nat.le_of_ble_eq_true rfl)⟩ ⟨(Nat.le_refl _), (Nat.le_refl _)⟩ (Nat.le_of_ble_eq_true rfl) rfl dX7_settleMargins_135 ?_
    refine ev_iconst C (v := 0) dX7_settleMargins_138 (by decide) ?_
    refine ev_istore_n C (by decide) dX7_settleMargins_139 ?_
    exact (t_X7_settleMargins_140 C K128 FU hs)
theorem t_X7_settleMargins_128 (C : Cx p l s m args meth c B0 X RX7 "settleMargins" cX7_settleMargins 4 none [])   : ∀ (n : Nat) {l0 : Nat} {l2 : Int32} {h : aH} (hs : s_X7_settleMargins_128  n l0 l2 h = some (r, h')), Ev p l e { frames := 6, cells := mc, slots := ms, locals := 151 } s m args below meth c D B0 X ws0 r h' mc ms 4 mc ms 128 [some (.ref l0), none, some (.int l2), none] [] h
  | 0, _, _, _, hs => nomatch hs
  | n + 1, _, _, _, hs => t_X7_settleMargins_128_b C  (k128 := s_X7_settleMargins_128  n) (fun _ _ _ hs => t_X7_settleMargins_128 C  n hs) hs
theorem t_X7_settleMargins_119 (C : Cx p l s m args meth c B0 X RX7 "settleMargins" cX7_settleMargins 4 none []) {k88 : Nat → Int32 → aH → aO} (K88 : ∀ (l0 : Nat) (l2 : Int32) (h : aH), k88 l0 l2 h = some (r, h') → Ev p l e { frames := 6, cells := mc, slots := ms, locals := 151 } s m args below meth c D B0 X ws0 r h' mc ms 4 mc ms 88 [some (.ref l0), none, some (.int l2), none] [] h) {l0 : Nat} {l2 : Int32} {s0 : Int32} {s1 : Int32} {s2 : Nat} {h : aH} (hs : s_X7_settleMargins_119 k88 l0 l2 s0 s1 s2 h = some (r, h')) : Ev p l e { frames := 6, cells := mc, slots := ms, locals := 151 } s m args below meth c D B0 X ws0 r h' mc ms 4 mc ms 119 [some (.ref l0), none, some (.int l2), none] [.int s0, .int s1, .ref s2] h := by
  unfold s_X7_settleMargins_119 at hs
  obtain ⟨h119, e119, hs⟩ := aB hs
  refine ev_iast C e119 dX7_settleMargins_119 ?_
  refine ev_iinc C (i := 2) (n := 1) (x := l2) (v := l2 + 1) rfl (congrArg (fun z => l2 + z) (show Int32.ofInt 1 = 1 by decide)) (by decide) dX7_settleMargins_120 ?_
  refine ev_goto C (tgt := 88) (by decide) dX7_settleMargins_123 ?_
  exact (K88 _ _ _ hs)
theorem t_X7_settleMargins_88_b (C : Cx p l s m args meth c B0 X RX7 "settleMargins" cX7_settleMargins 4 none [])   {k88 : Nat → Int32 → aH → aO} (K88 : ∀ (l0 : Nat) (l2 : Int32) (h : aH), k88 l0 l2 h = some (r, h') → Ev p l e { frames := 6, cells := mc, slots := ms, locals := 151 } s m args below meth c D B0 X ws0 r h' mc ms 4 mc ms 88 [some (.ref l0), none, some (.int l2), none] [] h) {l0 : Nat} {l2 : Int32} {h : aH} (hs : s_X7_settleMargins_88_b  k88 l0 l2 h = some (r, h')) : Ev p l e { frames := 6, cells := mc, slots := ms, locals := 151 } s m args below meth c D B0 X ws0 r h' mc ms 4 mc ms 88 [some (.ref l0), none, some (.int l2), none] [] h := by
  unfold s_X7_settleMargins_88_b at hs
  refine ev_iload_n C rfl dX7_settleMargins_88 ?_
  refine ev_aload_n C (x := .ref l0) rfl trivial dX7_settleMargins_89 ?_
  obtain ⟨x90, e90, hs⟩ := aB hs
  refine ev_get C (ci := 7) (k := 0) rfl wu_7 (by decide) wf_X7_36 (gO_F e90) dX7_settleMargins_90 ?_
  obtain ⟨x93, e93, hs⟩ := aB hs
  refine ev_getN C (ci := 2) (k := 12) rfl wu_2 (by decide) wg_X7_64 (gI_F e93) dX7_settleMargins_93 ?_
  refine ev_icmp_ge C (tgt := 126) (by decide) dX7_settleMargins_96 (fun q96 => ?_) (fun q96 => ?_)
  · replace hs := (if_pos q96).symm.trans hs
    refine ev_iconst C (v := 1) dX7_settleMargins_126 (by decide) ?_
    refine ev_istore_n C (by decide) dX7_settleMargins_127 ?_
    exact (t_X7_settleMargins_128 C  FU hs)
  · replace hs := (if_neg q96).symm.trans hs
    refine ev_aload_n C (x := .ref l0) rfl trivial dX7_settleMargins_99 ?_
    obtain ⟨x100, e100, hs⟩ := aB hs
    refine ev_get C (ci := 7) (k := 9) rfl wu_7 (by decide) wf_X7_21 (gO_F e100) dX7_settleMargins_100 ?_
    refine ev_iload_n C rfl dX7_settleMargins_103 ?_
    refine ev_aload_n C (x := .ref l0) rfl trivial dX7_settleMargins_104 ?_
    obtain ⟨x105, e105, hs⟩ := aB hs
    refine ev_get C (ci := 7) (k := 8) rfl wu_7 (by decide) wf_X7_18 (gO_F e105) dX7_settleMargins_105 ?_
    refine ev_iload_n C rfl dX7_settleMargins_108 ?_
    obtain ⟨x109, e109, hs⟩ := aB hs
    refine ev_iald C e109 dX7_settleMargins_109 ?_
    refine ev_if_ne C (tgt := 118) (by decide) dX7_settleMargins_110 (fun q110 => ?_) (fun q110 => ?_)
    · replace hs := (if_neg q110).symm.trans hs
      refine ev_iconst C (v := 0) dX7_settleMargins_118 (by decide) ?_
      exact (t_X7_settleMargins_119 C K88 hs)
    · replace hs := (if_pos q110).symm.trans hs
      refine ev_bipush C (v := (-2)) dX7_settleMargins_113 (by decide) ?_
      refine ev_goto C (tgt := 119) (by decide) dX7_settleMargins_115 ?_
      exact (t_X7_settleMargins_119 C K88 hs)
theorem t_X7_settleMargins_88 (C : Cx p l s m args meth c B0 X RX7 "settleMargins" cX7_settleMargins 4 none [])   : ∀ (n : Nat) {l0 : Nat} {l2 : Int32} {h : aH} (hs : s_X7_settleMargins_88  n l0 l2 h = some (r, h')), Ev p l e { frames := 6, cells := mc, slots := ms, locals := 151 } s m args below meth c D B0 X ws0 r h' mc ms 4 mc ms 88 [some (.ref l0), none, some (.int l2), none] [] h
  | 0, _, _, _, hs => nomatch hs
  | n + 1, _, _, _, hs => t_X7_settleMargins_88_b C  (k88 := s_X7_settleMargins_88  n) (fun _ _ _ hs => t_X7_settleMargins_88 C  n hs) hs
theorem hy_X7_settleMargins : yX7_settleMargins.cls ≠ "java/lang/invoke/MethodHandle" ∧ yX7_settleMargins.cls ≠ "java/lang/invoke/VarHandle" ∧ (parseMethodDescriptor yX7_settleMargins.desc).map (fun d => d.parameters.length) = some 0 := by decide +kernel
theorem T_X7_settleMargins (o : Nat) (h : aH) (r : aR) (h' : aH) (mc ms : Nat) (hs : s_X7_settleMargins o h = some (r, h', mc, ms)) : Mt yX7_settleMargins (Cond.code yX7_settleMargins cX7_settleMargins 4 none :: aTB) 6 151 mc ms [.ref o] h r h' := by
  unfold s_X7_settleMargins at hs
  refine Mt_of (k := 3) (by decide) rfl (fun p l e s m args below meth c D B0 X ws0 C => ?_)
  show Ev p l e { frames := 6, cells := mc, slots := ms, locals := 151 } s m args below meth c D B0 X ws0 r h' mc ms 4 0 0 0 [some (.ref o), none, none, none] [] h
  refine ev_aload_n C (x := .ref o) rfl trivial dX7_settleMargins_0 ?_
  obtain ⟨x1, e1, hs⟩ := aB hs
  refine ev_get C (ci := 7) (k := 5) rfl wu_7 (by decide) wf_X7_52 (gI_F e1) dX7_settleMargins_1 ?_
  refine ev_if_eq C (tgt := 8) (by decide) dX7_settleMargins_4 (fun q4 => ?_) (fun q4 => ?_)
  · replace hs := (if_pos q4).symm.trans hs
    refine ev_aload_n C (x := .ref o) rfl trivial dX7_settleMargins_8 ?_
    refine ev_iconst C (v := 1) dX7_settleMargins_9 (by decide) ?_
    obtain ⟨h10, e10, hs⟩ := aB hs
    refine ev_put C (ci := 7) (k := 5) rfl wu_7 (by decide) tyX7 tyX7_ok nmX7 wf_X7_52 rfl (pZ_F e10).2 (pZ_F e10).1 dX7_settleMargins_10 ?_
    refine ev_aload_n C (x := .ref o) rfl trivial dX7_settleMargins_13 ?_
    obtain ⟨x14, e14, hs⟩ := aB hs
    refine ev_get C (ci := 7) (k := 8) rfl wu_7 (by decide) wf_X7_18 (gO_F e14) dX7_settleMargins_14 ?_
    refine ev_iconst C (v := 0) dX7_settleMargins_17 (by decide) ?_
    refine ev_aload_n C (x := .ref o) rfl trivial dX7_settleMargins_18 ?_
    obtain ⟨x19, e19, hs⟩ := aB hs
    refine ev_get C (ci := 7) (k := 10) rfl wu_7 (by decide) wf_X7_24 (gO_F e19) dX7_settleMargins_19 ?_
    refine ev_iconst C (v := 0) dX7_settleMargins_22 (by decide) ?_
    refine ev_aload_n C (x := .ref o) rfl trivial dX7_settleMargins_23 ?_
    obtain ⟨x24, e24, hs⟩ := aB hs
    refine ev_get C (ci := 7) (k := 0) rfl wu_7 (by decide) wf_X7_36 (gO_F e24) dX7_settleMargins_24 ?_
    obtain ⟨x27, e27, hs⟩ := aB hs
    refine ev_getN C (ci := 2) (k := 12) rfl wu_2 (by decide) wg_X7_64 (gI_F e27) dX7_settleMargins_27 ?_
    obtain ⟨h30, e30, hs⟩ := aB hs
    refine ev_cpI C wm_X7_105 wb_acopy wt_acopy wz_J10 e30 (Nat.le_of_ble_eq_true rfl) (Nat.le_of_ble_eq_true rfl) dX7_settleMargins_30 ?_
    refine ev_aload_n C (x := .ref o) rfl trivial dX7_settleMargins_33 ?_
    obtain ⟨x34, e34, hs⟩ := aB hs
    refine ev_get C (ci := 7) (k := 0) rfl wu_7 (by decide) wf_X7_36 (gO_F e34) dX7_settleMargins_34 ?_
    obtain ⟨x37, e37, hs⟩ := aB hs
    refine ev_getN C (ci := 2) (k := 12) rfl wu_2 (by decide) wg_X7_64 (gI_F e37) dX7_settleMargins_37 ?_
    refine ev_aload_n C (x := .ref o) rfl trivial dX7_settleMargins_40 ?_
    obtain ⟨x41, e41, hs⟩ := aB hs
    refine ev_get C (ci := 7) (k := 0) rfl wu_7 (by decide) wf_X7_36 (gO_F e41) dX7_settleMargins_41 ?_
    obtain ⟨x44, e44, hs⟩ := aB hs
    refine ev_getN C (ci := 2) (k := 13) rfl wu_2 (by decide) wg_X7_73 (gI_F e44) dX7_settleMargins_44 ?_
    refine ev_imul C dX7_settleMargins_47 ?_
    refine ev_aload_n C (x := .ref o) rfl trivial dX7_settleMargins_48 ?_
    obtain ⟨x49, e49, hs⟩ := aB hs
    refine ev_get C (ci := 7) (k := 1) rfl wu_7 (by decide) wf_X7_40 (gO_F e49) dX7_settleMargins_49 ?_
    obtain ⟨x52, e52, hs⟩ := aB hs
    refine ev_getN C (ci := 3) (k := 3) rfl wu_3 (by decide) wg_X7_98 (gI_F e52) dX7_settleMargins_52 ?_
    refine ev_imul C dX7_settleMargins_55 ?_
    refine ev_istore_n C (by decide) dX7_settleMargins_56 ?_
    refine ev_aload_n C (x := .ref o) rfl trivial dX7_settleMargins_57 ?_
    refine ev_aload_n C (x := .ref o) rfl trivial dX7_settleMargins_58 ?_
    obtain ⟨x59, e59, hs⟩ := aB hs
    refine ev_get C (ci := 7) (k := 11) rfl wu_7 (by decide) wf_X7_27 (gO_F e59) dX7_settleMargins_59 ?_
    refine ev_iload_n C rfl dX7_settleMargins_62 ?_
    obtain ⟨x63, h63, n63, y63, e63, hs⟩ := dR_at hs
    obtain ⟨c63, z63, hs⟩ := ck_at hs
    refine ev_callSN C (T_X11_longEnough _ _ _ _ _ _ _ e63) wc_X11_longEnough wn_X7_111 wt_X11_longEnough wz_X11 hy_X11_longEnough ⟨(Nat.le_of_ble_eq_true rfl), (Nat.le_of_ble_eq_true rfl)⟩ ⟨c63, z63⟩ (Nat.le_of_ble_eq_true rfl) rfl dX7_settleMargins_63 ?_
    obtain ⟨hw9, rfl, rfl⟩ := wC_at hs
    have hs := hw9
    obtain ⟨h66, e66, hs⟩ := aB hs
    refine ev_put C (ci := 7) (k := 11) rfl wu_7 (by decide) tyX7 tyX7_ok nmX7 wf_X7_27 rfl trivial e66 dX7_settleMargins_66 ?_
    refine ev_aload_n C (x := .ref o) rfl trivial dX7_settleMargins_69 ?_
    obtain ⟨x70, e70, hs⟩ := aB hs
    refine ev_get C (ci := 7) (k := 1) rfl wu_7 (by decide) wf_X7_40 (gO_F e70) dX7_settleMargins_70 ?_
    obtain ⟨x73, e73, hs⟩ := aB hs
    refine ev_getN C (ci := 3) (k := 5) rfl wu_3 (by decide) wg_X7_79 (gO_F e73) dX7_settleMargins_73 ?_
    refine ev_iconst C (v := 0) dX7_settleMargins_76 (by decide) ?_
    refine ev_aload_n C (x := .ref o) rfl trivial dX7_settleMargins_77 ?_
    obtain ⟨x78, e78, hs⟩ := aB hs
    refine ev_get C (ci := 7) (k := 11) rfl wu_7 (by decide) wf_X7_27 (gO_F e78) dX7_settleMargins_78 ?_
    refine ev_iconst C (v := 0) dX7_settleMargins_81 (by decide) ?_
    refine ev_iload_n C rfl dX7_settleMargins_82 ?_
    obtain ⟨h83, e83, hs⟩ := aB hs
    refine ev_cpI C wm_X7_105 wb_acopy wt_acopy wz_J10 e83 (Nat.le_of_ble_eq_true rfl) (Nat.le_of_ble_eq_true rfl) dX7_settleMargins_83 ?_
    refine ev_iconst C (v := 0) dX7_settleMargins_86 (by decide) ?_
    refine ev_istore_n C (by decide) dX7_settleMargins_87 ?_
    exact Ev.keep [true, false, true, true] (t_X7_settleMargins_88 C  FU hs)
  · replace hs := (if_neg q4).symm.trans hs
    obtain ⟨hw9, rfl, rfl⟩ := wC_at hs
    have hs := hw9
    cases hs
    exact ev_vret C rfl rfl (Nat.le_refl _) (Nat.le_refl _) rfl dX7_settleMargins_7
end
-- X9_init
theorem dX9_init_0 : decode cX9_init 0 = .ok (.aload_n 0, 1) := by decide +kernel
theorem dX9_init_1 : decode cX9_init 1 = .ok (.invokespecial 3, 3) := by decide +kernel
theorem dX9_init_4 : decode cX9_init 4 = .ok (.aload_n 0, 1) := by decide +kernel
theorem dX9_init_5 : decode cX9_init 5 = .ok (.bipush 9, 2) := by decide +kernel
theorem dX9_init_7 : decode cX9_init 7 = .ok (.newarray .int, 2) := by decide +kernel
theorem dX9_init_9 : decode cX9_init 9 = .ok (.putfield 9, 3) := by decide +kernel
theorem dX9_init_12 : decode cX9_init 12 = .ok (.aload_n 0, 1) := by decide +kernel
theorem dX9_init_13 : decode cX9_init 13 = .ok (.bipush 31, 2) := by decide +kernel
theorem dX9_init_15 : decode cX9_init 15 = .ok (.newarray .int, 2) := by decide +kernel
theorem dX9_init_17 : decode cX9_init 17 = .ok (.putfield 15, 3) := by decide +kernel
theorem dX9_init_20 : decode cX9_init 20 = .ok (.aload_n 0, 1) := by decide +kernel
theorem dX9_init_21 : decode cX9_init 21 = .ok (.bipush 62, 2) := by decide +kernel
theorem dX9_init_23 : decode cX9_init 23 = .ok (.newarray .int, 2) := by decide +kernel
theorem dX9_init_25 : decode cX9_init 25 = .ok (.putfield 18, 3) := by decide +kernel
theorem dX9_init_28 : decode cX9_init 28 = .ok (.aload_n 0, 1) := by decide +kernel
theorem dX9_init_29 : decode cX9_init 29 = .ok (.bipush 62, 2) := by decide +kernel
theorem dX9_init_31 : decode cX9_init 31 = .ok (.newarray .int, 2) := by decide +kernel
theorem dX9_init_33 : decode cX9_init 33 = .ok (.putfield 21, 3) := by decide +kernel
theorem dX9_init_36 : decode cX9_init 36 = .ok (.aload_n 0, 1) := by decide +kernel
theorem dX9_init_37 : decode cX9_init 37 = .ok (.iconst 0, 1) := by decide +kernel
theorem dX9_init_38 : decode cX9_init 38 = .ok (.newarray .int, 2) := by decide +kernel
theorem dX9_init_40 : decode cX9_init 40 = .ok (.putfield 24, 3) := by decide +kernel
theorem dX9_init_43 : decode cX9_init 43 = .ok (.aload_n 0, 1) := by decide +kernel
theorem dX9_init_44 : decode cX9_init 44 = .ok (.bipush 6, 2) := by decide +kernel
theorem dX9_init_46 : decode cX9_init 46 = .ok (.newarray .int, 2) := by decide +kernel
theorem dX9_init_48 : decode cX9_init 48 = .ok (.putfield 27, 3) := by decide +kernel
theorem dX9_init_51 : decode cX9_init 51 = .ok (.aload_n 0, 1) := by decide +kernel
theorem dX9_init_52 : decode cX9_init 52 = .ok (.aload_n 1, 1) := by decide +kernel
theorem dX9_init_53 : decode cX9_init 53 = .ok (.putfield 30, 3) := by decide +kernel
theorem dX9_init_56 : decode cX9_init 56 = .ok (.aload_n 0, 1) := by decide +kernel
theorem dX9_init_57 : decode cX9_init 57 = .ok (.aload_n 2, 1) := by decide +kernel
theorem dX9_init_58 : decode cX9_init 58 = .ok (.putfield 34, 3) := by decide +kernel
theorem dX9_init_61 : decode cX9_init 61 = .ok (.aload_n 0, 1) := by decide +kernel
theorem dX9_init_62 : decode cX9_init 62 = .ok (.aload_n 3, 1) := by decide +kernel
theorem dX9_init_63 : decode cX9_init 63 = .ok (.putfield 38, 3) := by decide +kernel
theorem dX9_init_66 : decode cX9_init 66 = .ok (.return_, 1) := by decide +kernel
def s_X9_init (o : Nat) (a1 : Nat) (a2 : Nat) (a3 : Nat) (h : aH) : aP :=
  bP (nwA .int h 9) fun o7 h7 => ck (0 + 1) (0 + Int32.toNatClampNeg 9) ((pF h7 (.ref o) 9 3 (.ref o7)).bind fun h9 => bP (nwA .int h9 31) fun o15 h15 => ck (0 + 1 + 1) (0 + Int32.toNatClampNeg 9 + Int32.toNatClampNeg 31) ((pF h15 (.ref o) 9 5 (.ref o15)).bind fun h17 => bP (nwA .int h17 62) fun o23 h23 => ck (0 + 1 + 1 + 1) (0 + Int32.toNatClampNeg 9 + Int32.toNatClampNeg 31 + Int32.toNatClampNeg 62) ((pF h23 (.ref o) 9 6 (.ref o23)).bind fun h25 => bP (nwA .int h25 62) fun o31 h31 => ck (0 + 1 + 1 + 1 + 1) (0 + Int32.toNatClampNeg 9 + Int32.toNatClampNeg 31 + Int32.toNatClampNeg 62 + Int32.toNatClampNeg 62) ((pF h31 (.ref o) 9 7 (.ref o31)).bind fun h33 => bP (nwA .int h33 0) fun o38 h38 => ck (0 + 1 + 1 + 1 + 1 + 1) (0 + Int32.toNatClampNeg 9 + Int32.toNatClampNeg 31 + Int32.toNatClampNeg 62 + Int32.toNatClampNeg 62 + Int32.toNatClampNeg 0) ((pF h38 (.ref o) 9 8 (.ref o38)).bind fun h40 => bP (nwA .int h40 6) fun o46 h46 => ck (0 + 1 + 1 + 1 + 1 + 1 + 1) (0 + Int32.toNatClampNeg 9 + Int32.toNatClampNeg 31 + Int32.toNatClampNeg 62 + Int32.toNatClampNeg 62 + Int32.toNatClampNeg 0 + Int32.toNatClampNeg 6) (wC (0 + 1 + 1 + 1 + 1 + 1 + 1) (0 + Int32.toNatClampNeg 9 + Int32.toNatClampNeg 31 + Int32.toNatClampNeg 62 + Int32.toNatClampNeg 62 + Int32.toNatClampNeg 0 + Int32.toNatClampNeg 6) ((pF h46 (.ref o) 9 9 (.ref o46)).bind fun h48 => (pF h48 (.ref o) 9 0 (.ref a1)).bind fun h53 => (pF h53 (.ref o) 9 1 (.ref a2)).bind fun h58 => (pF h58 (.ref o) 9 2 (.ref a3)).bind fun h63 => some (.inl none, h63))))))))
section
variable {p : Program} {l : Launch} {e : Env} {s : State} {m : MethodId} {args : Array Value} {below : List Frame} {meth : Method} {c : Code} {D : va_G} {B0 : Nat} {X : Nat → Nat} {ws0 : va_W} {r : aR} {h' : aH} {mc ms : Nat}
theorem hy_X9_init : yX9_init.cls ≠ "java/lang/invoke/MethodHandle" ∧ yX9_init.cls ≠ "java/lang/invoke/VarHandle" ∧ (parseMethodDescriptor yX9_init.desc).map (fun d => d.parameters.length) = some 3 := by decide +kernel
theorem T_X9_init (o : Nat) (a1 : Nat) (a2 : Nat) (a3 : Nat) (h : aH) (r : aR) (h' : aH) (mc ms : Nat) (hs : s_X9_init o a1 a2 a3 h = some (r, h', mc, ms)) : Mt yX9_init (Cond.code yX9_init cX9_init 4 none :: aTB) 1 20 mc ms [.ref o, .ref a1, .ref a2, .ref a3] h r h' := by
  unfold s_X9_init at hs
  refine Mt_of (k := 0) (by decide) rfl (fun p l e s m args below meth c D B0 X ws0 C => ?_)
  show Ev p l e { frames := 1, cells := mc, slots := ms, locals := 20 } s m args below meth c D B0 X ws0 r h' mc ms 4 0 0 0 [some (.ref o), some (.ref a1), some (.ref a2), some (.ref a3)] [] h
  refine ev_aload_n C (x := .ref o) rfl trivial dX9_init_0 ?_
  refine ev_objInit C wm_X9_3 wi_oinit wc_oinit (Nat.le_of_ble_eq_true rfl) (Nat.le_of_ble_eq_true rfl) dX9_init_1 ?_
  refine ev_aload_n C (x := .ref o) rfl trivial dX9_init_4 ?_
  refine ev_bipush C (v := 9) dX9_init_5 (by decide) ?_
  obtain ⟨o7, h7, e7, hs⟩ := bP_at hs
  obtain ⟨c7, z7, hs⟩ := ck_at hs
  refine ev_newa C (atype := .int) (ty := .int) rfl wa_int (fun _ _ => rfl) e7 c7 z7 dX9_init_7 ?_
  obtain ⟨h9, e9, hs⟩ := aB hs
  refine ev_putF C (ci := 9) (k := 3) rfl wu_9 (by decide) tyX9 tyX9_ok nmX9 wf_X9_9 rfl rfl rfl trivial e9 dX9_init_9 ?_
  refine ev_aload_n C (x := .ref o) rfl trivial dX9_init_12 ?_
  refine ev_bipush C (v := 31) dX9_init_13 (by decide) ?_
  obtain ⟨o15, h15, e15, hs⟩ := bP_at hs
  obtain ⟨c15, z15, hs⟩ := ck_at hs
  refine ev_newa C (atype := .int) (ty := .int) rfl wa_int (fun _ _ => rfl) e15 c15 z15 dX9_init_15 ?_
  obtain ⟨h17, e17, hs⟩ := aB hs
  refine ev_putF C (ci := 9) (k := 5) rfl wu_9 (by decide) tyX9 tyX9_ok nmX9 wf_X9_15 rfl rfl rfl trivial e17 dX9_init_17 ?_
  refine ev_aload_n C (x := .ref o) rfl trivial dX9_init_20 ?_
  refine ev_bipush C (v := 62) dX9_init_21 (by decide) ?_
  obtain ⟨o23, h23, e23, hs⟩ := bP_at hs
  obtain ⟨c23, z23, hs⟩ := ck_at hs
  refine ev_newa C (atype := .int) (ty := .int) rfl wa_int (fun _ _ => rfl) e23 c23 z23 dX9_init_23 ?_
  obtain ⟨h25, e25, hs⟩ := aB hs
  refine ev_putF C (ci := 9) (k := 6) rfl wu_9 (by decide) tyX9 tyX9_ok nmX9 wf_X9_18 rfl rfl rfl trivial e25 dX9_init_25 ?_
  refine ev_aload_n C (x := .ref o) rfl trivial dX9_init_28 ?_
  refine ev_bipush C (v := 62) dX9_init_29 (by decide) ?_
  obtain ⟨o31, h31, e31, hs⟩ := bP_at hs
  obtain ⟨c31, z31, hs⟩ := ck_at hs
  refine ev_newa C (atype := .int) (ty := .int) rfl wa_int (fun _ _ => rfl) e31 c31 z31 dX9_init_31 ?_
  obtain ⟨h33, e33, hs⟩ := aB hs
  refine ev_putF C (ci := 9) (k := 7) rfl wu_9 (by decide) tyX9 tyX9_ok nmX9 wf_X9_21 rfl rfl rfl trivial e33 dX9_init_33 ?_
  refine ev_aload_n C (x := .ref o) rfl trivial dX9_init_36 ?_
  refine ev_iconst C (v := 0) dX9_init_37 (by decide) ?_
  obtain ⟨o38, h38, e38, hs⟩ := bP_at hs
  obtain ⟨c38, z38, hs⟩ := ck_at hs
  refine ev_newa C (atype := .int) (ty := .int) rfl wa_int (fun _ _ => rfl) e38 c38 z38 dX9_init_38 ?_
  obtain ⟨h40, e40, hs⟩ := aB hs
  refine ev_put C (ci := 9) (k := 8) rfl wu_9 (by decide) tyX9 tyX9_ok nmX9 wf_X9_24 rfl trivial e40 dX9_init_40 ?_
  refine ev_aload_n C (x := .ref o) rfl trivial dX9_init_43 ?_
  refine ev_bipush C (v := 6) dX9_init_44 (by decide) ?_
  obtain ⟨o46, h46, e46, hs⟩ := bP_at hs
  obtain ⟨c46, z46, hs⟩ := ck_at hs
  refine ev_newa C (atype := .int) (ty := .int) rfl wa_int (fun _ _ => rfl) e46 c46 z46 dX9_init_46 ?_
  obtain ⟨hw9, rfl, rfl⟩ := wC_at hs
  have hs := hw9
  obtain ⟨h48, e48, hs⟩ := aB hs
  refine ev_putF C (ci := 9) (k := 9) rfl wu_9 (by decide) tyX9 tyX9_ok nmX9 wf_X9_27 rfl rfl rfl trivial e48 dX9_init_48 ?_
  refine ev_aload_n C (x := .ref o) rfl trivial dX9_init_51 ?_
  refine ev_aload_n C (x := .ref a1) rfl trivial dX9_init_52 ?_
  obtain ⟨h53, e53, hs⟩ := aB hs
  refine ev_putF C (ci := 9) (k := 0) rfl wu_9 (by decide) tyX9 tyX9_ok nmX9 wf_X9_30 rfl rfl rfl trivial e53 dX9_init_53 ?_
  refine ev_aload_n C (x := .ref o) rfl trivial dX9_init_56 ?_
  refine ev_aload_n C (x := .ref a2) rfl trivial dX9_init_57 ?_
  obtain ⟨h58, e58, hs⟩ := aB hs
  refine ev_putF C (ci := 9) (k := 1) rfl wu_9 (by decide) tyX9 tyX9_ok nmX9 wf_X9_34 rfl rfl rfl trivial e58 dX9_init_58 ?_
  refine ev_aload_n C (x := .ref o) rfl trivial dX9_init_61 ?_
  refine ev_aload_n C (x := .ref a3) rfl trivial dX9_init_62 ?_
  obtain ⟨h63, e63, hs⟩ := aB hs
  refine ev_putF C (ci := 9) (k := 2) rfl wu_9 (by decide) tyX9 tyX9_ok nmX9 wf_X9_38 rfl rfl rfl trivial e63 dX9_init_63 ?_
  cases hs
  exact ev_vret C rfl rfl (Nat.le_refl _) (Nat.le_refl _) rfl dX9_init_66
end
-- X9_forget
theorem dX9_forget_0 : decode cX9_forget 0 = .ok (.aload_n 0, 1) := by decide +kernel
theorem dX9_forget_1 : decode cX9_forget 1 = .ok (.getfield 27, 3) := by decide +kernel
theorem dX9_forget_4 : decode cX9_forget 4 = .ok (.iconst (-1), 1) := by decide +kernel
theorem dX9_forget_5 : decode cX9_forget 5 = .ok (.invokestatic 46, 3) := by decide +kernel
theorem dX9_forget_8 : decode cX9_forget 8 = .ok (.return_, 1) := by decide +kernel
def s_X9_forget (o : Nat) (h : aH) : aO :=
  (gO h (.ref o) 9 9).bind fun x1 => cN (s_J7_fill_53178 x1 (-1) h) fun h5 => some (.inl none, h5)
section
variable {p : Program} {l : Launch} {e : Env} {s : State} {m : MethodId} {args : Array Value} {below : List Frame} {meth : Method} {c : Code} {D : va_G} {B0 : Nat} {X : Nat → Nat} {ws0 : va_W} {r : aR} {h' : aH} {mc ms : Nat}
theorem hy_X9_forget : yX9_forget.cls ≠ "java/lang/invoke/MethodHandle" ∧ yX9_forget.cls ≠ "java/lang/invoke/VarHandle" ∧ (parseMethodDescriptor yX9_forget.desc).map (fun d => d.parameters.length) = some 0 := by decide +kernel
theorem T_X9_forget (o : Nat) (h : aH) (r : aR) (h' : aH) (hs : s_X9_forget o h = some (r, h')) : Mt yX9_forget (Cond.code yX9_forget cX9_forget 1 none :: aTB) 1 23 0 0 [.ref o] h r h' := by
  unfold s_X9_forget at hs
  refine Mt_of (k := 0) (by decide) rfl (fun p l e s m args below meth c D B0 X ws0 C => ?_)
  show Ev p l e { frames := 1, cells := 0, slots := 0, locals := 23 } s m args below meth c D B0 X ws0 r h' 0 0 1 0 0 0 [some (.ref o)] [] h
  refine ev_aload_n C (x := .ref o) rfl trivial dX9_forget_0 ?_
  obtain ⟨x1, e1, hs⟩ := aB hs
  refine ev_get C (ci := 9) (k := 9) rfl wu_9 (by decide) wf_X9_27 (gO_F e1) dX9_forget_1 ?_
  refine ev_iconst C (v := (-1)) dX9_forget_4 (by decide) ?_
  obtain ⟨h5, e5, hs⟩ := cN_at hs
  refine ev_callS C (T_J7_fill_53178 _ _ _ _ _ e5) wc_J7_fill_53178 wm_X9_46 wt_J7_fill_53178 wz_J7 hy_J7_fill_53178 ⟨(Nat.le_of_ble_eq_true rfl), (Nat.le_of_ble_eq_true rfl)⟩ ⟨(Nat.le_refl _), (Nat.le_refl _)⟩ (Nat.le_of_ble_eq_true rfl) rfl dX9_forget_5 ?_
  cases hs
  exact ev_vret C rfl rfl (Nat.le_refl _) (Nat.le_refl _) rfl dX9_forget_8
end
-- X9_renew
theorem dX9_renew_0 : decode cX9_renew 0 = .ok (.aload_n 0, 1) := by decide +kernel
theorem dX9_renew_1 : decode cX9_renew 1 = .ok (.iconst 0, 1) := by decide +kernel
theorem dX9_renew_2 : decode cX9_renew 2 = .ok (.putfield 42, 3) := by decide +kernel
theorem dX9_renew_5 : decode cX9_renew 5 = .ok (.aload_n 0, 1) := by decide +kernel
theorem dX9_renew_6 : decode cX9_renew 6 = .ok (.getfield 21, 3) := by decide +kernel
theorem dX9_renew_9 : decode cX9_renew 9 = .ok (.iconst (-1), 1) := by decide +kernel
theorem dX9_renew_10 : decode cX9_renew 10 = .ok (.invokestatic 46, 3) := by decide +kernel
theorem dX9_renew_13 : decode cX9_renew 13 = .ok (.aload_n 0, 1) := by decide +kernel
theorem dX9_renew_14 : decode cX9_renew 14 = .ok (.invokevirtual 52, 3) := by decide +kernel
theorem dX9_renew_17 : decode cX9_renew 17 = .ok (.return_, 1) := by decide +kernel
def s_X9_renew (o : Nat) (h : aH) : aO :=
  (pF h (.ref o) 9 4 (.int 0)).bind fun h2 => (gO h2 (.ref o) 9 7).bind fun x6 => cN (s_J7_fill_53178 x6 (-1) h2) fun h10 => kO h10 o 9 (cN (s_X9_forget o h10) fun h14 => some (.inl none, h14))
section
variable {p : Program} {l : Launch} {e : Env} {s : State} {m : MethodId} {args : Array Value} {below : List Frame} {meth : Method} {c : Code} {D : va_G} {B0 : Nat} {X : Nat → Nat} {ws0 : va_W} {r : aR} {h' : aH} {mc ms : Nat}
theorem hy_X9_renew : yX9_renew.cls ≠ "java/lang/invoke/MethodHandle" ∧ yX9_renew.cls ≠ "java/lang/invoke/VarHandle" ∧ (parseMethodDescriptor yX9_renew.desc).map (fun d => d.parameters.length) = some 0 := by decide +kernel
theorem T_X9_renew (o : Nat) (h : aH) (r : aR) (h' : aH) (hs : s_X9_renew o h = some (r, h')) : Mt yX9_renew (Cond.code yX9_renew cX9_renew 1 none :: aTB) 2 43 0 0 [.ref o] h r h' := by
  unfold s_X9_renew at hs
  refine Mt_of (k := 0) (by decide) rfl (fun p l e s m args below meth c D B0 X ws0 C => ?_)
  show Ev p l e { frames := 2, cells := 0, slots := 0, locals := 43 } s m args below meth c D B0 X ws0 r h' 0 0 1 0 0 0 [some (.ref o)] [] h
  refine ev_aload_n C (x := .ref o) rfl trivial dX9_renew_0 ?_
  refine ev_iconst C (v := 0) dX9_renew_1 (by decide) ?_
  obtain ⟨h2, e2, hs⟩ := aB hs
  refine ev_put C (ci := 9) (k := 4) rfl wu_9 (by decide) tyX9 tyX9_ok nmX9 wf_X9_42 rfl trivial e2 dX9_renew_2 ?_
  refine ev_aload_n C (x := .ref o) rfl trivial dX9_renew_5 ?_
  obtain ⟨x6, e6, hs⟩ := aB hs
  refine ev_get C (ci := 9) (k := 7) rfl wu_9 (by decide) wf_X9_21 (gO_F e6) dX9_renew_6 ?_
  refine ev_iconst C (v := (-1)) dX9_renew_9 (by decide) ?_
  obtain ⟨h10, e10, hs⟩ := cN_at hs
  refine ev_callS C (T_J7_fill_53178 _ _ _ _ _ e10) wc_J7_fill_53178 wm_X9_46 wt_J7_fill_53178 wz_J7 hy_J7_fill_53178 ⟨(Nat.le_of_ble_eq_true rfl), (Nat.le_of_ble_eq_true rfl)⟩ ⟨(Nat.le_refl _), (Nat.le_refl _)⟩ (Nat.le_of_ble_eq_true rfl) rfl dX9_renew_10 ?_
  refine ev_aload_n C (x := .ref o) rfl trivial dX9_renew_13 ?_
  obtain ⟨eo14, hs⟩ := kO_at hs
  obtain ⟨h14, e14, hs⟩ := cN_at hs
  refine ev_callV C (T_X9_forget _ _ _ _ e14) (ci := 9) rfl eo14 wc_X9_forget wm_X9_52 wi_X9_forget ws_X9_forget wz_X9 hy_X9_forget ⟨(Nat.le_of_ble_eq_true rfl), (Nat.le_of_ble_eq_true rfl)⟩ ⟨(Nat.le_refl _), (Nat.le_refl _)⟩ (Nat.le_of_ble_eq_true rfl) rfl dX9_renew_14 ?_
  cases hs
  exact ev_vret C rfl rfl (Nat.le_refl _) (Nat.le_refl _) rfl dX9_renew_17
end
-- X9_take
theorem dX9_take_0 : decode cX9_take 0 = .ok (.aload_n 0, 1) := by decide +kernel
theorem dX9_take_1 : decode cX9_take 1 = .ok (.dup, 1) := by decide +kernel
theorem dX9_take_2 : decode cX9_take 2 = .ok (.getfield 42, 3) := by decide +kernel
theorem dX9_take_5 : decode cX9_take 5 = .ok (.iconst 1, 1) := by decide +kernel
theorem dX9_take_6 : decode cX9_take 6 = .ok (.iadd, 1) := by decide +kernel
theorem dX9_take_7 : decode cX9_take 7 = .ok (.putfield 42, 3) := by decide +kernel
theorem dX9_take_10 : decode cX9_take 10 = .ok (.aload_n 0, 1) := by decide +kernel
theorem dX9_take_11 : decode cX9_take 11 = .ok (.getfield 15, 3) := by decide +kernel
theorem dX9_take_14 : decode cX9_take 14 = .ok (.aload_n 0, 1) := by decide +kernel
theorem dX9_take_15 : decode cX9_take 15 = .ok (.getfield 42, 3) := by decide +kernel
theorem dX9_take_18 : decode cX9_take 18 = .ok (.iload_n 1, 1) := by decide +kernel
theorem dX9_take_19 : decode cX9_take 19 = .ok (.iastore, 1) := by decide +kernel
theorem dX9_take_20 : decode cX9_take 20 = .ok (.aload_n 0, 1) := by decide +kernel
theorem dX9_take_21 : decode cX9_take 21 = .ok (.getfield 42, 3) := by decide +kernel
theorem dX9_take_24 : decode cX9_take 24 = .ok (.ireturn, 1) := by decide +kernel
def s_X9_take (o : Nat) (a1 : Int32) (h : aH) : aO :=
  (gI h (.ref o) 9 4).bind fun x2 => (pF h (.ref o) 9 4 (.int (x2 + 1))).bind fun h7 => (gO h7 (.ref o) 9 5).bind fun x11 => (gI h7 (.ref o) 9 4).bind fun x15 => (stI h7 (.ref x11) x15 a1).bind fun h19 => (gI h19 (.ref o) 9 4).bind fun x21 => some (.inl (some (.int x21)), h19)
section
variable {p : Program} {l : Launch} {e : Env} {s : State} {m : MethodId} {args : Array Value} {below : List Frame} {meth : Method} {c : Code} {D : va_G} {B0 : Nat} {X : Nat → Nat} {ws0 : va_W} {r : aR} {h' : aH} {mc ms : Nat}
theorem hy_X9_take : yX9_take.cls ≠ "java/lang/invoke/MethodHandle" ∧ yX9_take.cls ≠ "java/lang/invoke/VarHandle" ∧ (parseMethodDescriptor yX9_take.desc).map (fun d => d.parameters.length) = some 1 := by decide +kernel
theorem T_X9_take (o : Nat) (a1 : Int32) (h : aH) (r : aR) (h' : aH) (hs : s_X9_take o a1 h = some (r, h')) : Mt yX9_take (Cond.code yX9_take cX9_take 2 (some .int) :: aTB) 0 0 0 0 [.ref o, .int a1] h r h' := by
  unfold s_X9_take at hs
  refine Mt_of (k := 0) (by decide) rfl (fun p l e s m args below meth c D B0 X ws0 C => ?_)
  show Ev p l e { frames := 0, cells := 0, slots := 0, locals := 0 } s m args below meth c D B0 X ws0 r h' 0 0 2 0 0 0 [some (.ref o), some (.int a1)] [] h
  refine ev_aload_n C (x := .ref o) rfl trivial dX9_take_0 ?_
  refine ev_dup C rfl dX9_take_1 ?_
  obtain ⟨x2, e2, hs⟩ := aB hs
  refine ev_get C (ci := 9) (k := 4) rfl wu_9 (by decide) wf_X9_42 (gI_F e2) dX9_take_2 ?_
  refine ev_iconst C (v := 1) dX9_take_5 (by decide) ?_
  refine ev_iadd C dX9_take_6 ?_
  obtain ⟨h7, e7, hs⟩ := aB hs
  refine ev_put C (ci := 9) (k := 4) rfl wu_9 (by decide) tyX9 tyX9_ok nmX9 wf_X9_42 rfl trivial e7 dX9_take_7 ?_
  refine ev_aload_n C (x := .ref o) rfl trivial dX9_take_10 ?_
  obtain ⟨x11, e11, hs⟩ := aB hs
  refine ev_get C (ci := 9) (k := 5) rfl wu_9 (by decide) wf_X9_15 (gO_F e11) dX9_take_11 ?_
  refine ev_aload_n C (x := .ref o) rfl trivial dX9_take_14 ?_
  obtain ⟨x15, e15, hs⟩ := aB hs
  refine ev_get C (ci := 9) (k := 4) rfl wu_9 (by decide) wf_X9_42 (gI_F e15) dX9_take_15 ?_
  refine ev_iload_n C rfl dX9_take_18 ?_
  obtain ⟨h19, e19, hs⟩ := aB hs
  refine ev_iast C e19 dX9_take_19 ?_
  refine ev_aload_n C (x := .ref o) rfl trivial dX9_take_20 ?_
  obtain ⟨x21, e21, hs⟩ := aB hs
  refine ev_get C (ci := 9) (k := 4) rfl wu_9 (by decide) wf_X9_42 (gI_F e21) dX9_take_21 ?_
  cases hs
  exact ev_iret C rfl rfl (Nat.le_refl _) (Nat.le_refl _) rfl dX9_take_24
end
-- X9_hasSight
theorem dX9_hasSight_0 : decode cX9_hasSight 0 = .ok (.aload_n 0, 1) := by decide +kernel
theorem dX9_hasSight_1 : decode cX9_hasSight 1 = .ok (.getfield 21, 3) := by decide +kernel
theorem dX9_hasSight_4 : decode cX9_hasSight 4 = .ok (.iload_n 1, 1) := by decide +kernel
theorem dX9_hasSight_5 : decode cX9_hasSight 5 = .ok (.iconst 2, 1) := by decide +kernel
theorem dX9_hasSight_6 : decode cX9_hasSight 6 = .ok (.imul, 1) := by decide +kernel
theorem dX9_hasSight_7 : decode cX9_hasSight 7 = .ok (.iload_n 2, 1) := by decide +kernel
theorem dX9_hasSight_8 : decode cX9_hasSight 8 = .ok (.iadd, 1) := by decide +kernel
theorem dX9_hasSight_9 : decode cX9_hasSight 9 = .ok (.iaload, 1) := by decide +kernel
theorem dX9_hasSight_10 : decode cX9_hasSight 10 = .ok (.ifCond .lt 7, 3) := by decide +kernel
theorem dX9_hasSight_13 : decode cX9_hasSight 13 = .ok (.iconst 1, 1) := by decide +kernel
theorem dX9_hasSight_14 : decode cX9_hasSight 14 = .ok (.goto 4, 3) := by decide +kernel
theorem dX9_hasSight_17 : decode cX9_hasSight 17 = .ok (.iconst 0, 1) := by decide +kernel
theorem dX9_hasSight_18 : decode cX9_hasSight 18 = .ok (.ireturn, 1) := by decide +kernel
def s_X9_hasSight (o : Nat) (a1 : Int32) (a2 : Int32) (h : aH) : aO :=
  (gO h (.ref o) 9 7).bind fun x1 => (ldI .int h (.ref x1) ((a1 * 2) + a2)).bind fun x9 => if x9 < 0 then (rtZ 0 h) else (rtZ 1 h)
section
variable {p : Program} {l : Launch} {e : Env} {s : State} {m : MethodId} {args : Array Value} {below : List Frame} {meth : Method} {c : Code} {D : va_G} {B0 : Nat} {X : Nat → Nat} {ws0 : va_W} {r : aR} {h' : aH} {mc ms : Nat}
theorem hy_X9_hasSight : yX9_hasSight.cls ≠ "java/lang/invoke/MethodHandle" ∧ yX9_hasSight.cls ≠ "java/lang/invoke/VarHandle" ∧ (parseMethodDescriptor yX9_hasSight.desc).map (fun d => d.parameters.length) = some 2 := by decide +kernel
theorem T_X9_hasSight (o : Nat) (a1 : Int32) (a2 : Int32) (h : aH) (r : aR) (h' : aH) (hs : s_X9_hasSight o a1 a2 h = some (r, h')) : Mt yX9_hasSight (Cond.code yX9_hasSight cX9_hasSight 3 (some .boolean) :: aTB) 0 0 0 0 [.ref o, .int a1, .int a2] h r h' := by
  unfold s_X9_hasSight at hs
  refine Mt_of (k := 0) (by decide) rfl (fun p l e s m args below meth c D B0 X ws0 C => ?_)
  show Ev p l e { frames := 0, cells := 0, slots := 0, locals := 0 } s m args below meth c D B0 X ws0 r h' 0 0 3 0 0 0 [some (.ref o), some (.int a1), some (.int a2)] [] h
  refine ev_aload_n C (x := .ref o) rfl trivial dX9_hasSight_0 ?_
  obtain ⟨x1, e1, hs⟩ := aB hs
  refine ev_get C (ci := 9) (k := 7) rfl wu_9 (by decide) wf_X9_21 (gO_F e1) dX9_hasSight_1 ?_
  refine ev_iload_n C rfl dX9_hasSight_4 ?_
  refine ev_iconst C (v := 2) dX9_hasSight_5 (by decide) ?_
  refine ev_imul C dX9_hasSight_6 ?_
  refine ev_iload_n C rfl dX9_hasSight_7 ?_
  refine ev_iadd C dX9_hasSight_8 ?_
  obtain ⟨x9, e9, hs⟩ := aB hs
  refine ev_iald C e9 dX9_hasSight_9 ?_
  refine ev_if_lt C (tgt := 17) (by decide) dX9_hasSight_10 (fun q10 => ?_) (fun q10 => ?_)
  · replace hs := (if_pos q10).symm.trans hs
    refine ev_iconst C (v := 0) dX9_hasSight_17 (by decide) ?_
    obtain ⟨hz, rfl, rfl⟩ := rtZ_at hs
    exact ev_zret C rfl hz rfl (Nat.le_refl _) (Nat.le_refl _) rfl dX9_hasSight_18
  · replace hs := (if_neg q10).symm.trans hs
    refine ev_iconst C (v := 1) dX9_hasSight_13 (by decide) ?_
    refine ev_goto C (tgt := 18) (by decide) dX9_hasSight_14 ?_
    obtain ⟨hz, rfl, rfl⟩ := rtZ_at hs
    exact ev_zret C rfl hz rfl (Nat.le_refl _) (Nat.le_refl _) rfl dX9_hasSight_18
end
-- X9_hear
theorem dX9_hear_0 : decode cX9_hear 0 = .ok (.aload_n 0, 1) := by decide +kernel
theorem dX9_hear_1 : decode cX9_hear 1 = .ok (.getfield 18, 3) := by decide +kernel
theorem dX9_hear_4 : decode cX9_hear 4 = .ok (.iload_n 1, 1) := by decide +kernel
theorem dX9_hear_5 : decode cX9_hear 5 = .ok (.iconst 2, 1) := by decide +kernel
theorem dX9_hear_6 : decode cX9_hear 6 = .ok (.imul, 1) := by decide +kernel
theorem dX9_hear_7 : decode cX9_hear 7 = .ok (.iload_n 2, 1) := by decide +kernel
theorem dX9_hear_8 : decode cX9_hear 8 = .ok (.iadd, 1) := by decide +kernel
theorem dX9_hear_9 : decode cX9_hear 9 = .ok (.iload_n 3, 1) := by decide +kernel
theorem dX9_hear_10 : decode cX9_hear 10 = .ok (.iastore, 1) := by decide +kernel
theorem dX9_hear_11 : decode cX9_hear 11 = .ok (.aload_n 0, 1) := by decide +kernel
theorem dX9_hear_12 : decode cX9_hear 12 = .ok (.getfield 21, 3) := by decide +kernel
theorem dX9_hear_15 : decode cX9_hear 15 = .ok (.iload_n 1, 1) := by decide +kernel
theorem dX9_hear_16 : decode cX9_hear 16 = .ok (.iconst 2, 1) := by decide +kernel
theorem dX9_hear_17 : decode cX9_hear 17 = .ok (.imul, 1) := by decide +kernel
theorem dX9_hear_18 : decode cX9_hear 18 = .ok (.iload_n 2, 1) := by decide +kernel
theorem dX9_hear_19 : decode cX9_hear 19 = .ok (.iadd, 1) := by decide +kernel
theorem dX9_hear_20 : decode cX9_hear 20 = .ok (.aload_n 0, 1) := by decide +kernel
theorem dX9_hear_21 : decode cX9_hear 21 = .ok (.getfield 42, 3) := by decide +kernel
theorem dX9_hear_24 : decode cX9_hear 24 = .ok (.iastore, 1) := by decide +kernel
theorem dX9_hear_25 : decode cX9_hear 25 = .ok (.iconst 0, 1) := by decide +kernel
theorem dX9_hear_26 : decode cX9_hear 26 = .ok (.istore 4, 2) := by decide +kernel
theorem dX9_hear_28 : decode cX9_hear 28 = .ok (.iload 4, 2) := by decide +kernel
theorem dX9_hear_30 : decode cX9_hear 30 = .ok (.bipush 6, 2) := by decide +kernel
theorem dX9_hear_32 : decode cX9_hear 32 = .ok (.if_icmp .ge 29, 3) := by decide +kernel
theorem dX9_hear_35 : decode cX9_hear 35 = .ok (.aload_n 0, 1) := by decide +kernel
theorem dX9_hear_36 : decode cX9_hear 36 = .ok (.getfield 27, 3) := by decide +kernel
theorem dX9_hear_39 : decode cX9_hear 39 = .ok (.iload 4, 2) := by decide +kernel
theorem dX9_hear_41 : decode cX9_hear 41 = .ok (.aload_n 0, 1) := by decide +kernel
theorem dX9_hear_42 : decode cX9_hear 42 = .ok (.getfield 27, 3) := by decide +kernel
theorem dX9_hear_45 : decode cX9_hear 45 = .ok (.iload 4, 2) := by decide +kernel
theorem dX9_hear_47 : decode cX9_hear 47 = .ok (.iaload, 1) := by decide +kernel
theorem dX9_hear_48 : decode cX9_hear 48 = .ok (.iload_n 1, 1) := by decide +kernel
theorem dX9_hear_49 : decode cX9_hear 49 = .ok (.iconst 1, 1) := by decide +kernel
theorem dX9_hear_50 : decode cX9_hear 50 = .ok (.isub, 1) := by decide +kernel
theorem dX9_hear_51 : decode cX9_hear 51 = .ok (.invokestatic 55, 3) := by decide +kernel
theorem dX9_hear_54 : decode cX9_hear 54 = .ok (.iastore, 1) := by decide +kernel
theorem dX9_hear_55 : decode cX9_hear 55 = .ok (.iinc 4 1, 3) := by decide +kernel
theorem dX9_hear_58 : decode cX9_hear 58 = .ok (.goto (-30), 3) := by decide +kernel
theorem dX9_hear_61 : decode cX9_hear 61 = .ok (.return_, 1) := by decide +kernel
def s_X9_hear_28_b  (k28 : Nat → Int32 → Int32 → aH → aO) (l0 : Nat) (l1 : Int32) (l4 : Int32) (h : aH) : aO :=
  if 6 ≤ l4 then (some (.inl none, h)) else ((gO h (.ref l0) 9 9).bind fun x36 => (gO h (.ref l0) 9 9).bind fun x42 => (ldI .int h (.ref x42) l4).bind fun x47 => (stI h (.ref x36) l4 (jmin x47 (l1 - 1))).bind fun h54 => k28 l0 l1 (l4 + 1) h54)
def s_X9_hear_28  (n : Nat) : Nat → Int32 → Int32 → aH → aO := lpF (fun _ _ _ _ => none) (s_X9_hear_28_b ) n
def s_X9_hear (o : Nat) (a1 : Int32) (a2 : Int32) (a3 : Int32) (h : aH) : aO :=
  (gO h (.ref o) 9 6).bind fun x1 => (stI h (.ref x1) ((a1 * 2) + a2) a3).bind fun h10 => (gO h10 (.ref o) 9 7).bind fun x12 => (gI h10 (.ref o) 9 4).bind fun x21 => (stI h10 (.ref x12) ((a1 * 2) + a2) x21).bind fun h24 => s_X9_hear_28 FU o a1 0 h24
section
variable {p : Program} {l : Launch} {e : Env} {s : State} {m : MethodId} {args : Array Value} {below : List Frame} {meth : Method} {c : Code} {D : va_G} {B0 : Nat} {X : Nat → Nat} {ws0 : va_W} {r : aR} {h' : aH} {mc ms : Nat}
theorem t_X9_hear_28_b (C : Cx p l s m args meth c B0 X RX9 "hear" cX9_hear 5 none [])   {k28 : Nat → Int32 → Int32 → aH → aO} (K28 : ∀ (l0 : Nat) (l1 : Int32) (l4 : Int32) (h : aH), k28 l0 l1 l4 h = some (r, h') → Ev p l e { frames := 1, cells := mc, slots := ms, locals := 23 } s m args below meth c D B0 X ws0 r h' mc ms 5 mc ms 28 [some (.ref l0), some (.int l1), none, none, some (.int l4)] [] h) {l0 : Nat} {l1 : Int32} {l4 : Int32} {h : aH} (hs : s_X9_hear_28_b  k28 l0 l1 l4 h = some (r, h')) : Ev p l e { frames := 1, cells := mc, slots := ms, locals := 23 } s m args below meth c D B0 X ws0 r h' mc ms 5 mc ms 28 [some (.ref l0), some (.int l1), none, none, some (.int l4)] [] h := by
  unfold s_X9_hear_28_b at hs
  refine ev_iload C rfl dX9_hear_28 ?_
  refine ev_bipush C (v := 6) dX9_hear_30 (by decide) ?_
  refine ev_icmp_ge C (tgt := 61) (by decide) dX9_hear_32 (fun q32 => ?_) (fun q32 => ?_)
  · replace hs := (if_pos q32).symm.trans hs
    cases hs
    exact ev_vret C rfl rfl (Nat.le_refl _) (Nat.le_refl _) rfl dX9_hear_61
  · replace hs := (if_neg q32).symm.trans hs
    refine ev_aload_n C (x := .ref l0) rfl trivial dX9_hear_35 ?_
    obtain ⟨x36, e36, hs⟩ := aB hs
    refine ev_get C (ci := 9) (k := 9) rfl wu_9 (by decide) wf_X9_27 (gO_F e36) dX9_hear_36 ?_
    refine ev_iload C rfl dX9_hear_39 ?_
    refine ev_aload_n C (x := .ref l0) rfl trivial dX9_hear_41 ?_
    obtain ⟨x42, e42, hs⟩ := aB hs
    refine ev_get C (ci := 9) (k := 9) rfl wu_9 (by decide) wf_X9_27 (gO_F e42) dX9_hear_42 ?_
    refine ev_iload C rfl dX9_hear_45 ?_
    obtain ⟨x47, e47, hs⟩ := aB hs
    refine ev_iald C e47 dX9_hear_47 ?_
    refine ev_iload_n C rfl dX9_hear_48 ?_
    refine ev_iconst C (v := 1) dX9_hear_49 (by decide) ?_
    refine ev_isub C dX9_hear_50 ?_
    refine ev_mmin C wm_X9_55 wt_mmin wz_J9 wc_mmin (Nat.le_of_ble_eq_true rfl) (Nat.le_of_ble_eq_true rfl) (Nat.le_refl _) (Nat.le_refl _) dX9_hear_51 ?_
    obtain ⟨h54, e54, hs⟩ := aB hs
    refine ev_iast C e54 dX9_hear_54 ?_
    refine ev_iinc C (i := 4) (n := 1) (x := l4) (v := l4 + 1) rfl (congrArg (fun z => l4 + z) (show Int32.ofInt 1 = 1 by decide)) (by decide) dX9_hear_55 ?_
    refine ev_goto C (tgt := 28) (by decide) dX9_hear_58 ?_
    exact (K28 _ _ _ _ hs)
theorem t_X9_hear_28 (C : Cx p l s m args meth c B0 X RX9 "hear" cX9_hear 5 none [])   : ∀ (n : Nat) {l0 : Nat} {l1 : Int32} {l4 : Int32} {h : aH} (hs : s_X9_hear_28  n l0 l1 l4 h = some (r, h')), Ev p l e { frames := 1, cells := mc, slots := ms, locals := 23 } s m args below meth c D B0 X ws0 r h' mc ms 5 mc ms 28 [some (.ref l0), some (.int l1), none, none, some (.int l4)] [] h
  | 0, _, _, _, _, hs => nomatch hs
  | n + 1, _, _, _, _, hs => t_X9_hear_28_b C  (k28 := s_X9_hear_28  n) (fun _ _ _ _ hs => t_X9_hear_28 C  n hs) hs
theorem hy_X9_hear : yX9_hear.cls ≠ "java/lang/invoke/MethodHandle" ∧ yX9_hear.cls ≠ "java/lang/invoke/VarHandle" ∧ (parseMethodDescriptor yX9_hear.desc).map (fun d => d.parameters.length) = some 3 := by decide +kernel
theorem T_X9_hear (o : Nat) (a1 : Int32) (a2 : Int32) (a3 : Int32) (h : aH) (r : aR) (h' : aH) (hs : s_X9_hear o a1 a2 a3 h = some (r, h')) : Mt yX9_hear (Cond.code yX9_hear cX9_hear 5 none :: aTB) 1 23 0 0 [.ref o, .int a1, .int a2, .int a3] h r h' := by
  unfold s_X9_hear at hs
  refine Mt_of (k := 1) (by decide) rfl (fun p l e s m args below meth c D B0 X ws0 C => ?_)
  show Ev p l e { frames := 1, cells := 0, slots := 0, locals := 23 } s m args below meth c D B0 X ws0 r h' 0 0 5 0 0 0 [some (.ref o), some (.int a1), some (.int a2), some (.int a3), none] [] h
  refine ev_aload_n C (x := .ref o) rfl trivial dX9_hear_0 ?_
  obtain ⟨x1, e1, hs⟩ := aB hs
  refine ev_get C (ci := 9) (k := 6) rfl wu_9 (by decide) wf_X9_18 (gO_F e1) dX9_hear_1 ?_
  refine ev_iload_n C rfl dX9_hear_4 ?_
  refine ev_iconst C (v := 2) dX9_hear_5 (by decide) ?_
  refine ev_imul C dX9_hear_6 ?_
  refine ev_iload_n C rfl dX9_hear_7 ?_
  refine ev_iadd C dX9_hear_8 ?_
  refine ev_iload_n C rfl dX9_hear_9 ?_
  obtain ⟨h10, e10, hs⟩ := aB hs
  refine ev_iast C e10 dX9_hear_10 ?_
  refine ev_aload_n C (x := .ref o) rfl trivial dX9_hear_11 ?_
  obtain ⟨x12, e12, hs⟩ := aB hs
  refine ev_get C (ci := 9) (k := 7) rfl wu_9 (by decide) wf_X9_21 (gO_F e12) dX9_hear_12 ?_
  refine ev_iload_n C rfl dX9_hear_15 ?_
  refine ev_iconst C (v := 2) dX9_hear_16 (by decide) ?_
  refine ev_imul C dX9_hear_17 ?_
  refine ev_iload_n C rfl dX9_hear_18 ?_
  refine ev_iadd C dX9_hear_19 ?_
  refine ev_aload_n C (x := .ref o) rfl trivial dX9_hear_20 ?_
  obtain ⟨x21, e21, hs⟩ := aB hs
  refine ev_get C (ci := 9) (k := 4) rfl wu_9 (by decide) wf_X9_42 (gI_F e21) dX9_hear_21 ?_
  obtain ⟨h24, e24, hs⟩ := aB hs
  refine ev_iast C e24 dX9_hear_24 ?_
  refine ev_iconst C (v := 0) dX9_hear_25 (by decide) ?_
  refine ev_istore C (by decide) dX9_hear_26 ?_
  exact Ev.keep [true, true, false, false, true] (t_X9_hear_28 C  FU hs)
end
-- X9_startOf
theorem dX9_startOf_0 : decode cX9_startOf 0 = .ok (.iload_n 1, 1) := by decide +kernel
theorem dX9_startOf_1 : decode cX9_startOf 1 = .ok (.bipush 31, 2) := by decide +kernel
theorem dX9_startOf_3 : decode cX9_startOf 3 = .ok (.imul, 1) := by decide +kernel
theorem dX9_startOf_4 : decode cX9_startOf 4 = .ok (.iload_n 2, 1) := by decide +kernel
theorem dX9_startOf_5 : decode cX9_startOf 5 = .ok (.iadd, 1) := by decide +kernel
theorem dX9_startOf_6 : decode cX9_startOf 6 = .ok (.aload_n 0, 1) := by decide +kernel
theorem dX9_startOf_7 : decode cX9_startOf 7 = .ok (.getfield 30, 3) := by decide +kernel
theorem dX9_startOf_10 : decode cX9_startOf 10 = .ok (.getfield 71, 3) := by decide +kernel
theorem dX9_startOf_13 : decode cX9_startOf 13 = .ok (.imul, 1) := by decide +kernel
theorem dX9_startOf_14 : decode cX9_startOf 14 = .ok (.ireturn, 1) := by decide +kernel
def s_X9_startOf (o : Nat) (a1 : Int32) (a2 : Int32) (h : aH) : aO :=
  (gO h (.ref o) 9 0).bind fun x7 => (gI h (.ref x7) 2 12).bind fun x10 => some (.inl (some (.int (((a1 * 31) + a2) * x10))), h)
section
variable {p : Program} {l : Launch} {e : Env} {s : State} {m : MethodId} {args : Array Value} {below : List Frame} {meth : Method} {c : Code} {D : va_G} {B0 : Nat} {X : Nat → Nat} {ws0 : va_W} {r : aR} {h' : aH} {mc ms : Nat}
theorem hy_X9_startOf : yX9_startOf.cls ≠ "java/lang/invoke/MethodHandle" ∧ yX9_startOf.cls ≠ "java/lang/invoke/VarHandle" ∧ (parseMethodDescriptor yX9_startOf.desc).map (fun d => d.parameters.length) = some 2 := by decide +kernel
theorem T_X9_startOf (o : Nat) (a1 : Int32) (a2 : Int32) (h : aH) (r : aR) (h' : aH) (hs : s_X9_startOf o a1 a2 h = some (r, h')) : Mt yX9_startOf (Cond.code yX9_startOf cX9_startOf 3 (some .int) :: aTB) 0 0 0 0 [.ref o, .int a1, .int a2] h r h' := by
  unfold s_X9_startOf at hs
  refine Mt_of (k := 0) (by decide) rfl (fun p l e s m args below meth c D B0 X ws0 C => ?_)
  show Ev p l e { frames := 0, cells := 0, slots := 0, locals := 0 } s m args below meth c D B0 X ws0 r h' 0 0 3 0 0 0 [some (.ref o), some (.int a1), some (.int a2)] [] h
  refine ev_iload_n C rfl dX9_startOf_0 ?_
  refine ev_bipush C (v := 31) dX9_startOf_1 (by decide) ?_
  refine ev_imul C dX9_startOf_3 ?_
  refine ev_iload_n C rfl dX9_startOf_4 ?_
  refine ev_iadd C dX9_startOf_5 ?_
  refine ev_aload_n C (x := .ref o) rfl trivial dX9_startOf_6 ?_
  obtain ⟨x7, e7, hs⟩ := aB hs
  refine ev_get C (ci := 9) (k := 0) rfl wu_9 (by decide) wf_X9_30 (gO_F e7) dX9_startOf_7 ?_
  obtain ⟨x10, e10, hs⟩ := aB hs
  refine ev_getN C (ci := 2) (k := 12) rfl wu_2 (by decide) wg_X9_71 (gI_F e10) dX9_startOf_10 ?_
  refine ev_imul C dX9_startOf_13 ?_
  cases hs
  exact ev_iret C rfl rfl (Nat.le_refl _) (Nat.le_refl _) rfl dX9_startOf_14
end
-- X9_agrees
theorem dX9_agrees_0 : decode cX9_agrees 0 = .ok (.iconst 0, 1) := by decide +kernel
theorem dX9_agrees_1 : decode cX9_agrees 1 = .ok (.istore 4, 2) := by decide +kernel
theorem dX9_agrees_3 : decode cX9_agrees 3 = .ok (.iconst 0, 1) := by decide +kernel
theorem dX9_agrees_4 : decode cX9_agrees 4 = .ok (.istore 5, 2) := by decide +kernel
theorem dX9_agrees_6 : decode cX9_agrees 6 = .ok (.iload 5, 2) := by decide +kernel
theorem dX9_agrees_8 : decode cX9_agrees 8 = .ok (.aload_n 0, 1) := by decide +kernel
theorem dX9_agrees_9 : decode cX9_agrees 9 = .ok (.getfield 30, 3) := by decide +kernel
theorem dX9_agrees_12 : decode cX9_agrees 12 = .ok (.getfield 81, 3) := by decide +kernel
theorem dX9_agrees_15 : decode cX9_agrees 15 = .ok (.iconst 4, 1) := by decide +kernel
theorem dX9_agrees_16 : decode cX9_agrees 16 = .ok (.iaload, 1) := by decide +kernel
theorem dX9_agrees_17 : decode cX9_agrees 17 = .ok (.if_icmp .ge 126, 3) := by decide +kernel
theorem dX9_agrees_20 : decode cX9_agrees 20 = .ok (.iload_n 1, 1) := by decide +kernel
theorem dX9_agrees_21 : decode cX9_agrees 21 = .ok (.iconst 2, 1) := by decide +kernel
theorem dX9_agrees_22 : decode cX9_agrees 22 = .ok (.imul, 1) := by decide +kernel
theorem dX9_agrees_23 : decode cX9_agrees 23 = .ok (.iload 5, 2) := by decide +kernel
theorem dX9_agrees_25 : decode cX9_agrees 25 = .ok (.iadd, 1) := by decide +kernel
theorem dX9_agrees_26 : decode cX9_agrees 26 = .ok (.istore 6, 2) := by decide +kernel
theorem dX9_agrees_28 : decode cX9_agrees 28 = .ok (.aload_n 0, 1) := by decide +kernel
theorem dX9_agrees_29 : decode cX9_agrees 29 = .ok (.getfield 21, 3) := by decide +kernel
theorem dX9_agrees_32 : decode cX9_agrees 32 = .ok (.iload 6, 2) := by decide +kernel
theorem dX9_agrees_34 : decode cX9_agrees 34 = .ok (.iaload, 1) := by decide +kernel
theorem dX9_agrees_35 : decode cX9_agrees 35 = .ok (.ifCond .lt 102, 3) := by decide +kernel
theorem dX9_agrees_38 : decode cX9_agrees 38 = .ok (.aload_n 0, 1) := by decide +kernel
theorem dX9_agrees_39 : decode cX9_agrees 39 = .ok (.getfield 21, 3) := by decide +kernel
theorem dX9_agrees_42 : decode cX9_agrees 42 = .ok (.iload 6, 2) := by decide +kernel
theorem dX9_agrees_44 : decode cX9_agrees 44 = .ok (.iaload, 1) := by decide +kernel
theorem dX9_agrees_45 : decode cX9_agrees 45 = .ok (.aload_n 0, 1) := by decide +kernel
theorem dX9_agrees_46 : decode cX9_agrees 46 = .ok (.getfield 106, 3) := by decide +kernel
theorem dX9_agrees_49 : decode cX9_agrees 49 = .ok (.if_icmp .gt 88, 3) := by decide +kernel
theorem dX9_agrees_52 : decode cX9_agrees 52 = .ok (.iload 4, 2) := by decide +kernel
theorem dX9_agrees_54 : decode cX9_agrees 54 = .ok (.ifCond .ne 20, 3) := by decide +kernel
theorem dX9_agrees_57 : decode cX9_agrees 57 = .ok (.aload_n 0, 1) := by decide +kernel
theorem dX9_agrees_58 : decode cX9_agrees 58 = .ok (.getfield 30, 3) := by decide +kernel
theorem dX9_agrees_61 : decode cX9_agrees 61 = .ok (.iconst 0, 1) := by decide +kernel
theorem dX9_agrees_62 : decode cX9_agrees 62 = .ok (.iload_n 2, 1) := by decide +kernel
theorem dX9_agrees_63 : decode cX9_agrees 63 = .ok (.iconst 0, 1) := by decide +kernel
theorem dX9_agrees_64 : decode cX9_agrees 64 = .ok (.aload_n 0, 1) := by decide +kernel
theorem dX9_agrees_65 : decode cX9_agrees 65 = .ok (.getfield 9, 3) := by decide +kernel
theorem dX9_agrees_68 : decode cX9_agrees 68 = .ok (.invokevirtual 77, 3) := by decide +kernel
theorem dX9_agrees_71 : decode cX9_agrees 71 = .ok (.iconst 1, 1) := by decide +kernel
theorem dX9_agrees_72 : decode cX9_agrees 72 = .ok (.istore 4, 2) := by decide +kernel
theorem dX9_agrees_74 : decode cX9_agrees 74 = .ok (.iload_n 3, 1) := by decide +kernel
theorem dX9_agrees_75 : decode cX9_agrees 75 = .ok (.aload_n 0, 1) := by decide +kernel
theorem dX9_agrees_76 : decode cX9_agrees 76 = .ok (.getfield 30, 3) := by decide +kernel
theorem dX9_agrees_79 : decode cX9_agrees 79 = .ok (.getfield 81, 3) := by decide +kernel
theorem dX9_agrees_82 : decode cX9_agrees 82 = .ok (.iconst 1, 1) := by decide +kernel
theorem dX9_agrees_83 : decode cX9_agrees 83 = .ok (.iaload, 1) := by decide +kernel
theorem dX9_agrees_84 : decode cX9_agrees 84 = .ok (.iconst 1, 1) := by decide +kernel
theorem dX9_agrees_85 : decode cX9_agrees 85 = .ok (.iadd, 1) := by decide +kernel
theorem dX9_agrees_86 : decode cX9_agrees 86 = .ok (.iload 5, 2) := by decide +kernel
theorem dX9_agrees_88 : decode cX9_agrees 88 = .ok (.iadd, 1) := by decide +kernel
theorem dX9_agrees_89 : decode cX9_agrees 89 = .ok (.if_icmp .ne 7, 3) := by decide +kernel
theorem dX9_agrees_92 : decode cX9_agrees 92 = .ok (.iconst 1, 1) := by decide +kernel
theorem dX9_agrees_93 : decode cX9_agrees 93 = .ok (.goto 4, 3) := by decide +kernel
theorem dX9_agrees_96 : decode cX9_agrees 96 = .ok (.iconst 0, 1) := by decide +kernel
theorem dX9_agrees_97 : decode cX9_agrees 97 = .ok (.istore 7, 2) := by decide +kernel
theorem dX9_agrees_99 : decode cX9_agrees 99 = .ok (.iload 7, 2) := by decide +kernel
theorem dX9_agrees_101 : decode cX9_agrees 101 = .ok (.ifCond .eq 7, 3) := by decide +kernel
theorem dX9_agrees_104 : decode cX9_agrees 104 = .ok (.iconst 0, 1) := by decide +kernel
theorem dX9_agrees_105 : decode cX9_agrees 105 = .ok (.goto 16, 3) := by decide +kernel
theorem dX9_agrees_108 : decode cX9_agrees 108 = .ok (.aload_n 0, 1) := by decide +kernel
theorem dX9_agrees_109 : decode cX9_agrees 109 = .ok (.getfield 30, 3) := by decide +kernel
theorem dX9_agrees_112 : decode cX9_agrees 112 = .ok (.iload 5, 2) := by decide +kernel
theorem dX9_agrees_114 : decode cX9_agrees 114 = .ok (.aload_n 0, 1) := by decide +kernel
theorem dX9_agrees_115 : decode cX9_agrees 115 = .ok (.getfield 9, 3) := by decide +kernel
theorem dX9_agrees_118 : decode cX9_agrees 118 = .ok (.invokevirtual 148, 3) := by decide +kernel
theorem dX9_agrees_121 : decode cX9_agrees 121 = .ok (.istore 8, 2) := by decide +kernel
theorem dX9_agrees_123 : decode cX9_agrees 123 = .ok (.iload 8, 2) := by decide +kernel
theorem dX9_agrees_125 : decode cX9_agrees 125 = .ok (.aload_n 0, 1) := by decide +kernel
theorem dX9_agrees_126 : decode cX9_agrees 126 = .ok (.getfield 18, 3) := by decide +kernel
theorem dX9_agrees_129 : decode cX9_agrees 129 = .ok (.iload 6, 2) := by decide +kernel
theorem dX9_agrees_131 : decode cX9_agrees 131 = .ok (.iaload, 1) := by decide +kernel
theorem dX9_agrees_132 : decode cX9_agrees 132 = .ok (.if_icmp .eq 5, 3) := by decide +kernel
theorem dX9_agrees_135 : decode cX9_agrees 135 = .ok (.iconst 0, 1) := by decide +kernel
theorem dX9_agrees_136 : decode cX9_agrees 136 = .ok (.ireturn, 1) := by decide +kernel
theorem dX9_agrees_137 : decode cX9_agrees 137 = .ok (.iinc 5 1, 3) := by decide +kernel
theorem dX9_agrees_140 : decode cX9_agrees 140 = .ok (.goto (-134), 3) := by decide +kernel
theorem dX9_agrees_143 : decode cX9_agrees 143 = .ok (.iconst 1, 1) := by decide +kernel
theorem dX9_agrees_144 : decode cX9_agrees 144 = .ok (.ireturn, 1) := by decide +kernel
def s_X9_agrees_121 (k6 : Nat → Int32 → Int32 → Int32 → Int32 → Int32 → aH → aO) (l0 : Nat) (l1 : Int32) (l2 : Int32) (l3 : Int32) (l4 : Int32) (l5 : Int32) (l6 : Int32) (s0 : Int32) (h : aH) : aO :=
  (gO h (.ref l0) 9 6).bind fun x126 => (ldI .int h (.ref x126) l6).bind fun x131 => if s0 = x131 then (k6 l0 l1 l2 l3 l4 (l5 + 1) h) else (rtZ 0 h)
def s_X9_agrees_97 (k6 : Nat → Int32 → Int32 → Int32 → Int32 → Int32 → aH → aO) (l0 : Nat) (l1 : Int32) (l2 : Int32) (l3 : Int32) (l4 : Int32) (l5 : Int32) (l6 : Int32) (s0 : Int32) (h : aH) : aO :=
  if s0 = 0 then ((gO h (.ref l0) 9 0).bind fun x109 => (gO h (.ref l0) 9 3).bind fun x115 => kO h x109 2 (cI (s_X2_seen x109 l5 x115 h) fun x118 h118 => s_X9_agrees_121 k6 l0 l1 l2 l3 l4 l5 l6 x118 h118)) else (s_X9_agrees_121 k6 l0 l1 l2 l3 l4 l5 l6 0 h)
def s_X9_agrees_74 (k6 : Nat → Int32 → Int32 → Int32 → Int32 → Int32 → aH → aO) (l0 : Nat) (l1 : Int32) (l2 : Int32) (l3 : Int32) (l4 : Int32) (l5 : Int32) (l6 : Int32) (h : aH) : aO :=
  (gO h (.ref l0) 9 0).bind fun x76 => (gO h (.ref x76) 2 0).bind fun x79 => (ldI .int h (.ref x79) 1).bind fun x83 => if l3 = ((x83 + 1) + l5) then (s_X9_agrees_97 k6 l0 l1 l2 l3 l4 l5 l6 1 h) else (s_X9_agrees_97 k6 l0 l1 l2 l3 l4 l5 l6 0 h)
def s_X9_agrees_6_b  (k6 : Nat → Int32 → Int32 → Int32 → Int32 → Int32 → aH → aO) (l0 : Nat) (l1 : Int32) (l2 : Int32) (l3 : Int32) (l4 : Int32) (l5 : Int32) (h : aH) : aO :=
  (gO h (.ref l0) 9 0).bind fun x9 => (gO h (.ref x9) 2 0).bind fun x12 => (ldI .int h (.ref x12) 4).bind fun x16 => if x16 ≤ l5 then (rtZ 1 h) else ((gO h (.ref l0) 9 7).bind fun x29 => (ldI .int h (.ref x29) ((l1 * 2) + l5)).bind fun x34 => if x34 < 0 then (k6 l0 l1 l2 l3 l4 (l5 + 1) h) else ((gO h (.ref l0) 9 7).bind fun x39 => (ldI .int h (.ref x39) ((l1 * 2) + l5)).bind fun x44 => (gI h (.ref l0) 9 10).bind fun x46 => if x46 < x44 then (k6 l0 l1 l2 l3 l4 (l5 + 1) h) else (if l4 = 0 then ((gO h (.ref l0) 9 0).bind fun x58 => (gO h (.ref l0) 9 3).bind fun x65 => kO h x58 2 (cN (s_X2_spread x58 0 l2 0 x65 h) fun h68 => s_X9_agrees_74 k6 l0 l1 l2 l3 1 l5 ((l1 * 2) + l5) h68)) else (s_X9_agrees_74 k6 l0 l1 l2 l3 l4 l5 ((l1 * 2) + l5) h))))
def s_X9_agrees_6  (n : Nat) : Nat → Int32 → Int32 → Int32 → Int32 → Int32 → aH → aO := lpF (fun _ _ _ _ _ _ _ => none) (s_X9_agrees_6_b ) n
def s_X9_agrees (o : Nat) (a1 : Int32) (a2 : Int32) (a3 : Int32) (h : aH) : aO :=
  s_X9_agrees_6 FU o a1 a2 a3 0 0 h
section
variable {p : Program} {l : Launch} {e : Env} {s : State} {m : MethodId} {args : Array Value} {below : List Frame} {meth : Method} {c : Code} {D : va_G} {B0 : Nat} {X : Nat → Nat} {ws0 : va_W} {r : aR} {h' : aH} {mc ms : Nat}
theorem t_X9_agrees_121 (C : Cx p l s m args meth c B0 X RX9 "agrees" cX9_agrees 9 (some .boolean) []) {k6 : Nat → Int32 → Int32 → Int32 → Int32 → Int32 → aH → aO} (K6 : ∀ (l0 : Nat) (l1 : Int32) (l2 : Int32) (l3 : Int32) (l4 : Int32) (l5 : Int32) (h : aH), k6 l0 l1 l2 l3 l4 l5 h = some (r, h') → Ev p l e { frames := 2, cells := mc, slots := ms, locals := 50 } s m args below meth c D B0 X ws0 r h' mc ms 9 mc ms 6 [some (.ref l0), some (.int l1), some (.int l2), some (.int l3), some (.int l4), some (.int l5), none, none, none] [] h) {l0 : Nat} {l1 : Int32} {l2 : Int32} {l3 : Int32} {l4 : Int32} {l5 : Int32} {l6 : Int32} {s0 : Int32} {h : aH} (hs : s_X9_agrees_121 k6 l0 l1 l2 l3 l4 l5 l6 s0 h = some (r, h')) : Ev p l e { frames := 2, cells := mc, slots := ms, locals := 50 } s m args below meth c D B0 X ws0 r h' mc ms 9 mc ms 121 [some (.ref l0), some (.int l1), some (.int l2), some (.int l3), some (.int l4), some (.int l5), some (.int l6), none, none] [.int s0] h := by
  unfold s_X9_agrees_121 at hs
  refine ev_istore C (by decide) dX9_agrees_121 ?_
  refine ev_iload C rfl dX9_agrees_123 ?_
  refine ev_aload_n C (x := .ref l0) rfl trivial dX9_agrees_125 ?_
  obtain ⟨x126, e126, hs⟩ := aB hs
  refine ev_get C (ci := 9) (k := 6) rfl wu_9 (by decide) wf_X9_18 (gO_F e126) dX9_agrees_126 ?_
  refine ev_iload C rfl dX9_agrees_129 ?_
  obtain ⟨x131, e131, hs⟩ := aB hs
  refine ev_iald C e131 dX9_agrees_131 ?_
  refine ev_icmp_eq C (tgt := 137) (by decide) dX9_agrees_132 (fun q132 => ?_) (fun q132 => ?_)
  · replace hs := (if_pos q132).symm.trans hs
    refine ev_iinc C (i := 5) (n := 1) (x := l5) (v := l5 + 1) rfl (congrArg (fun z => l5 + z) (show Int32.ofInt 1 = 1 by decide)) (by decide) dX9_agrees_137 ?_
    refine ev_goto C (tgt := 6) (by decide) dX9_agrees_140 ?_
    exact Ev.keep [true, true, true, true, true, true, false, true, false] (K6 _ _ _ _ _ _ _ hs)
  · replace hs := (if_neg q132).symm.trans hs
    refine ev_iconst C (v := 0) dX9_agrees_135 (by decide) ?_
    obtain ⟨hz, rfl, rfl⟩ := rtZ_at hs
    exact ev_zret C rfl hz rfl (Nat.le_refl _) (Nat.le_refl _) rfl dX9_agrees_136
theorem t_X9_agrees_97 (C : Cx p l s m args meth c B0 X RX9 "agrees" cX9_agrees 9 (some .boolean) []) {k6 : Nat → Int32 → Int32 → Int32 → Int32 → Int32 → aH → aO} (K6 : ∀ (l0 : Nat) (l1 : Int32) (l2 : Int32) (l3 : Int32) (l4 : Int32) (l5 : Int32) (h : aH), k6 l0 l1 l2 l3 l4 l5 h = some (r, h') → Ev p l e { frames := 2, cells := mc, slots := ms, locals := 50 } s m args below meth c D B0 X ws0 r h' mc ms 9 mc ms 6 [some (.ref l0), some (.int l1), some (.int l2), some (.int l3), some (.int l4), some (.int l5), none, none, none] [] h) {l0 : Nat} {l1 : Int32} {l2 : Int32} {l3 : Int32} {l4 : Int32} {l5 : Int32} {l6 : Int32} {s0 : Int32} {h : aH} (hs : s_X9_agrees_97 k6 l0 l1 l2 l3 l4 l5 l6 s0 h = some (r, h')) : Ev p l e { frames := 2, cells := mc, slots := ms, locals := 50 } s m args below meth c D B0 X ws0 r h' mc ms 9 mc ms 97 [some (.ref l0), some (.int l1), some (.int l2), some (.int l3), some (.int l4), some (.int l5), some (.int l6), none, none] [.int s0] h := by
  unfold s_X9_agrees_97 at hs
  refine ev_istore C (by decide) dX9_agrees_97 ?_
  refine ev_iload C rfl dX9_agrees_99 ?_
  refine ev_if_eq C (tgt := 108) (by decide) dX9_agrees_101 (fun q101 => ?_) (fun q101 => ?_)
  · replace hs := (if_pos q101).symm.trans hs
    refine ev_aload_n C (x := .ref l0) rfl trivial dX9_agrees_108 ?_
    obtain ⟨x109, e109, hs⟩ := aB hs
    refine ev_get C (ci := 9) (k := 0) rfl wu_9 (by decide) wf_X9_30 (gO_F e109) dX9_agrees_109 ?_
    refine ev_iload C rfl dX9_agrees_112 ?_
    refine ev_aload_n C (x := .ref l0) rfl trivial dX9_agrees_114 ?_
    obtain ⟨x115, e115, hs⟩ := aB hs
    refine ev_get C (ci := 9) (k := 3) rfl wu_9 (by decide) wf_X9_9 (gO_F e115) dX9_agrees_115 ?_
    obtain ⟨eo118, hs⟩ := kO_at hs
    obtain ⟨x118, h118, e118, hs⟩ := cI_at hs
    refine ev_callVN C (T_X2_seen _ _ _ _ _ _ e118) (ci := 2) rfl eo118 wc_X2_seen wn_X9_148 wi_X2_seen ws_X2_seen wz_X2 hy_X2_seen ⟨(Nat.le_of_ble_eq_true rfl), (Nat.le_of_ble_eq_true rfl)⟩ ⟨(Nat.le_refl _), (Nat.le_refl _)⟩ (Nat.le_of_ble_eq_true rfl) rfl dX9_agrees_118 ?_
    exact Ev.keep [true, true, true, true, true, true, true, false, true] (t_X9_agrees_121 C K6 hs)
  · replace hs := (if_neg q101).symm.trans hs
    refine ev_iconst C (v := 0) dX9_agrees_104 (by decide) ?_
    refine ev_goto C (tgt := 121) (by decide) dX9_agrees_105 ?_
    exact Ev.keep [true, true, true, true, true, true, true, false, true] (t_X9_agrees_121 C K6 hs)
theorem t_X9_agrees_74 (C : Cx p l s m args meth c B0 X RX9 "agrees" cX9_agrees 9 (some .boolean) []) {k6 : Nat → Int32 → Int32 → Int32 → Int32 → Int32 → aH → aO} (K6 : ∀ (l0 : Nat) (l1 : Int32) (l2 : Int32) (l3 : Int32) (l4 : Int32) (l5 : Int32) (h : aH), k6 l0 l1 l2 l3 l4 l5 h = some (r, h') → Ev p l e { frames := 2, cells := mc, slots := ms, locals := 50 } s m args below meth c D B0 X ws0 r h' mc ms 9 mc ms 6 [some (.ref l0), some (.int l1), some (.int l2), some (.int l3), some (.int l4), some (.int l5), none, none, none] [] h) {l0 : Nat} {l1 : Int32} {l2 : Int32} {l3 : Int32} {l4 : Int32} {l5 : Int32} {l6 : Int32} {h : aH} (hs : s_X9_agrees_74 k6 l0 l1 l2 l3 l4 l5 l6 h = some (r, h')) : Ev p l e { frames := 2, cells := mc, slots := ms, locals := 50 } s m args below meth c D B0 X ws0 r h' mc ms 9 mc ms 74 [some (.ref l0), some (.int l1), some (.int l2), some (.int l3), some (.int l4), some (.int l5), some (.int l6), none, none] [] h := by
  unfold s_X9_agrees_74 at hs
  refine ev_iload_n C rfl dX9_agrees_74 ?_
  refine ev_aload_n C (x := .ref l0) rfl trivial dX9_agrees_75 ?_
  obtain ⟨x76, e76, hs⟩ := aB hs
  refine ev_get C (ci := 9) (k := 0) rfl wu_9 (by decide) wf_X9_30 (gO_F e76) dX9_agrees_76 ?_
  obtain ⟨x79, e79, hs⟩ := aB hs
  refine ev_getN C (ci := 2) (k := 0) rfl wu_2 (by decide) wg_X9_81 (gO_F e79) dX9_agrees_79 ?_
  refine ev_iconst C (v := 1) dX9_agrees_82 (by decide) ?_
  obtain ⟨x83, e83, hs⟩ := aB hs
  refine ev_iald C e83 dX9_agrees_83 ?_
  refine ev_iconst C (v := 1) dX9_agrees_84 (by decide) ?_
  refine ev_iadd C dX9_agrees_85 ?_
  refine ev_iload C rfl dX9_agrees_86 ?_
  refine ev_iadd C dX9_agrees_88 ?_
  refine ev_icmp_ne C (tgt := 96) (by decide) dX9_agrees_89 (fun q89 => ?_) (fun q89 => ?_)
  · replace hs := (if_neg q89).symm.trans hs
    refine ev_iconst C (v := 0) dX9_agrees_96 (by decide) ?_
    exact (t_X9_agrees_97 C K6 hs)
  · replace hs := (if_pos q89).symm.trans hs
    refine ev_iconst C (v := 1) dX9_agrees_92 (by decide) ?_
    refine ev_goto C (tgt := 97) (by decide) dX9_agrees_93 ?_
    exact (t_X9_agrees_97 C K6 hs)
theorem t_X9_agrees_6_b (C : Cx p l s m args meth c B0 X RX9 "agrees" cX9_agrees 9 (some .boolean) [])   {k6 : Nat → Int32 → Int32 → Int32 → Int32 → Int32 → aH → aO} (K6 : ∀ (l0 : Nat) (l1 : Int32) (l2 : Int32) (l3 : Int32) (l4 : Int32) (l5 : Int32) (h : aH), k6 l0 l1 l2 l3 l4 l5 h = some (r, h') → Ev p l e { frames := 2, cells := mc, slots := ms, locals := 50 } s m args below meth c D B0 X ws0 r h' mc ms 9 mc ms 6 [some (.ref l0), some (.int l1), some (.int l2), some (.int l3), some (.int l4), some (.int l5), none, none, none] [] h) {l0 : Nat} {l1 : Int32} {l2 : Int32} {l3 : Int32} {l4 : Int32} {l5 : Int32} {h : aH} (hs : s_X9_agrees_6_b  k6 l0 l1 l2 l3 l4 l5 h = some (r, h')) : Ev p l e { frames := 2, cells := mc, slots := ms, locals := 50 } s m args below meth c D B0 X ws0 r h' mc ms 9 mc ms 6 [some (.ref l0), some (.int l1), some (.int l2), some (.int l3), some (.int l4), some (.int l5), none, none, none] [] h := by
  unfold s_X9_agrees_6_b at hs
  refine ev_iload C rfl dX9_agrees_6 ?_
  refine ev_aload_n C (x := .ref l0) rfl trivial dX9_agrees_8 ?_
  obtain ⟨x9, e9, hs⟩ := aB hs
  refine ev_get C (ci := 9) (k := 0) rfl wu_9 (by decide) wf_X9_30 (gO_F e9) dX9_agrees_9 ?_
  obtain ⟨x12, e12, hs⟩ := aB hs
  refine ev_getN C (ci := 2) (k := 0) rfl wu_2 (by decide) wg_X9_81 (gO_F e12) dX9_agrees_12 ?_
  refine ev_iconst C (v := 4) dX9_agrees_15 (by decide) ?_
  obtain ⟨x16, e16, hs⟩ := aB hs
  refine ev_iald C e16 dX9_agrees_16 ?_
  refine ev_icmp_ge C (tgt := 143) (by decide) dX9_agrees_17 (fun q17 => ?_) (fun q17 => ?_)
  · replace hs := (if_pos q17).symm.trans hs
    refine ev_iconst C (v := 1) dX9_agrees_143 (by decide) ?_
    obtain ⟨hz, rfl, rfl⟩ := rtZ_at hs
    exact ev_zret C rfl hz rfl (Nat.le_refl _) (Nat.le_refl _) rfl dX9_agrees_144
  · replace hs := (if_neg q17).symm.trans hs
    refine ev_iload_n C rfl dX9_agrees_20 ?_
    refine ev_iconst C (v := 2) dX9_agrees_21 (by decide) ?_
    refine ev_imul C dX9_agrees_22 ?_
    refine ev_iload C rfl dX9_agrees_23 ?_
    refine ev_iadd C dX9_agrees_25 ?_
    refine ev_istore C (by decide) dX9_agrees_26 ?_
    refine ev_aload_n C (x := .ref l0) rfl trivial dX9_agrees_28 ?_
    obtain ⟨x29, e29, hs⟩ := aB hs
    refine ev_get C (ci := 9) (k := 7) rfl wu_9 (by decide) wf_X9_21 (gO_F e29) dX9_agrees_29 ?_
    refine ev_iload C rfl dX9_agrees_32 ?_
    obtain ⟨x34, e34, hs⟩ := aB hs
    refine ev_iald C e34 dX9_agrees_34 ?_
    refine ev_if_lt C (tgt := 137) (by decide) dX9_agrees_35 (fun q35 => ?_) (fun q35 => ?_)
    · replace hs := (if_pos q35).symm.trans hs
      refine ev_iinc C (i := 5) (n := 1) (x := l5) (v := l5 + 1) rfl (congrArg (fun z => l5 + z) (show Int32.ofInt 1 = 1 by decide)) (by decide) dX9_agrees_137 ?_
      refine ev_goto C (tgt := 6) (by decide) dX9_agrees_140 ?_
      exact Ev.keep [true, true, true, true, true, true, false, true, true] (K6 _ _ _ _ _ _ _ hs)
    · replace hs := (if_neg q35).symm.trans hs
      refine ev_aload_n C (x := .ref l0) rfl trivial dX9_agrees_38 ?_
      obtain ⟨x39, e39, hs⟩ := aB hs
      refine ev_get C (ci := 9) (k := 7) rfl wu_9 (by decide) wf_X9_21 (gO_F e39) dX9_agrees_39 ?_
      refine ev_iload C rfl dX9_agrees_42 ?_
      obtain ⟨x44, e44, hs⟩ := aB hs
      refine ev_iald C e44 dX9_agrees_44 ?_
      refine ev_aload_n C (x := .ref l0) rfl trivial dX9_agrees_45 ?_
      obtain ⟨x46, e46, hs⟩ := aB hs
      refine ev_get C (ci := 9) (k := 10) rfl wu_9 (by decide) wf_X9_106 (gI_F e46) dX9_agrees_46 ?_
      refine ev_icmp_gt C (tgt := 137) (by decide) dX9_agrees_49 (fun q49 => ?_) (fun q49 => ?_)
      · replace hs := (if_pos q49).symm.trans hs
        refine ev_iinc C (i := 5) (n := 1) (x := l5) (v := l5 + 1) rfl (congrArg (fun z => l5 + z) (show Int32.ofInt 1 = 1 by decide)) (by decide) dX9_agrees_137 ?_
        refine ev_goto C (tgt := 6) (by decide) dX9_agrees_140 ?_
        exact Ev.keep [true, true, true, true, true, true, false, true, true] (K6 _ _ _ _ _ _ _ hs)
      · replace hs := (if_neg q49).symm.trans hs
        refine ev_iload C rfl dX9_agrees_52 ?_
        refine ev_if_ne C (tgt := 74) (by decide) dX9_agrees_54 (fun q54 => ?_) (fun q54 => ?_)
        · replace hs := (if_neg q54).symm.trans hs
          exact (t_X9_agrees_74 C K6 hs)
        · replace hs := (if_pos q54).symm.trans hs
          refine ev_aload_n C (x := .ref l0) rfl trivial dX9_agrees_57 ?_
          obtain ⟨x58, e58, hs⟩ := aB hs
          refine ev_get C (ci := 9) (k := 0) rfl wu_9 (by decide) wf_X9_30 (gO_F e58) dX9_agrees_58 ?_
          refine ev_iconst C (v := 0) dX9_agrees_61 (by decide) ?_
          refine ev_iload_n C rfl dX9_agrees_62 ?_
          refine ev_iconst C (v := 0) dX9_agrees_63 (by decide) ?_
          refine ev_aload_n C (x := .ref l0) rfl trivial dX9_agrees_64 ?_
          obtain ⟨x65, e65, hs⟩ := aB hs
          refine ev_get C (ci := 9) (k := 3) rfl wu_9 (by decide) wf_X9_9 (gO_F e65) dX9_agrees_65 ?_
          obtain ⟨eo68, hs⟩ := kO_at hs
          obtain ⟨h68, e68, hs⟩ := cN_at hs
          refine ev_callVN C (T_X2_spread _ _ _ _ _ _ _ _ e68) (ci := 2) rfl eo68 wc_X2_spread wn_X9_77 wi_X2_spread ws_X2_spread wz_X2 hy_X2_spread ⟨(Nat.le_of_ble_eq_true rfl), (Nat.le_of_ble_eq_true rfl)⟩ ⟨(Nat.le_refl _), (Nat.le_refl _)⟩ (Nat.le_of_ble_eq_true rfl) rfl dX9_agrees_68 ?_
          refine ev_iconst C (v := 1) dX9_agrees_71 (by decide) ?_
          refine ev_istore C (by decide) dX9_agrees_72 ?_
          exact (t_X9_agrees_74 C K6 hs)
theorem t_X9_agrees_6 (C : Cx p l s m args meth c B0 X RX9 "agrees" cX9_agrees 9 (some .boolean) [])   : ∀ (n : Nat) {l0 : Nat} {l1 : Int32} {l2 : Int32} {l3 : Int32} {l4 : Int32} {l5 : Int32} {h : aH} (hs : s_X9_agrees_6  n l0 l1 l2 l3 l4 l5 h = some (r, h')), Ev p l e { frames := 2, cells := mc, slots := ms, locals := 50 } s m args below meth c D B0 X ws0 r h' mc ms 9 mc ms 6 [some (.ref l0), some (.int l1), some (.int l2), some (.int l3), some (.int l4), some (.int l5), none, none, none] [] h
  | 0, _, _, _, _, _, _, _, hs => nomatch hs
  | n + 1, _, _, _, _, _, _, _, hs => t_X9_agrees_6_b C  (k6 := s_X9_agrees_6  n) (fun _ _ _ _ _ _ _ hs => t_X9_agrees_6 C  n hs) hs
theorem hy_X9_agrees : yX9_agrees.cls ≠ "java/lang/invoke/MethodHandle" ∧ yX9_agrees.cls ≠ "java/lang/invoke/VarHandle" ∧ (parseMethodDescriptor yX9_agrees.desc).map (fun d => d.parameters.length) = some 3 := by decide +kernel
theorem T_X9_agrees (o : Nat) (a1 : Int32) (a2 : Int32) (a3 : Int32) (h : aH) (r : aR) (h' : aH) (hs : s_X9_agrees o a1 a2 a3 h = some (r, h')) : Mt yX9_agrees (Cond.code yX9_agrees cX9_agrees 9 (some .boolean) :: aTB) 2 50 0 0 [.ref o, .int a1, .int a2, .int a3] h r h' := by
  unfold s_X9_agrees at hs
  refine Mt_of (k := 5) (by decide) rfl (fun p l e s m args below meth c D B0 X ws0 C => ?_)
  show Ev p l e { frames := 2, cells := 0, slots := 0, locals := 50 } s m args below meth c D B0 X ws0 r h' 0 0 9 0 0 0 [some (.ref o), some (.int a1), some (.int a2), some (.int a3), none, none, none, none, none] [] h
  refine ev_iconst C (v := 0) dX9_agrees_0 (by decide) ?_
  refine ev_istore C (by decide) dX9_agrees_1 ?_
  refine ev_iconst C (v := 0) dX9_agrees_3 (by decide) ?_
  refine ev_istore C (by decide) dX9_agrees_4 ?_
  exact (t_X9_agrees_6 C  FU hs)
end
-- X9_beginLane
theorem dX9_beginLane_0 : decode cX9_beginLane 0 = .ok (.aload_n 0, 1) := by decide +kernel
theorem dX9_beginLane_1 : decode cX9_beginLane 1 = .ok (.getfield 9, 3) := by decide +kernel
theorem dX9_beginLane_4 : decode cX9_beginLane 4 = .ok (.iconst 0, 1) := by decide +kernel
theorem dX9_beginLane_5 : decode cX9_beginLane 5 = .ok (.invokestatic 46, 3) := by decide +kernel
theorem dX9_beginLane_8 : decode cX9_beginLane 8 = .ok (.aload_n 0, 1) := by decide +kernel
theorem dX9_beginLane_9 : decode cX9_beginLane 9 = .ok (.getfield 30, 3) := by decide +kernel
theorem dX9_beginLane_12 : decode cX9_beginLane 12 = .ok (.iconst 2, 1) := by decide +kernel
theorem dX9_beginLane_13 : decode cX9_beginLane 13 = .ok (.iconst 0, 1) := by decide +kernel
theorem dX9_beginLane_14 : decode cX9_beginLane 14 = .ok (.iconst 0, 1) := by decide +kernel
theorem dX9_beginLane_15 : decode cX9_beginLane 15 = .ok (.aload_n 0, 1) := by decide +kernel
theorem dX9_beginLane_16 : decode cX9_beginLane 16 = .ok (.getfield 9, 3) := by decide +kernel
theorem dX9_beginLane_19 : decode cX9_beginLane 19 = .ok (.invokevirtual 77, 3) := by decide +kernel
theorem dX9_beginLane_22 : decode cX9_beginLane 22 = .ok (.iconst 0, 1) := by decide +kernel
theorem dX9_beginLane_23 : decode cX9_beginLane 23 = .ok (.istore_n 3, 1) := by decide +kernel
theorem dX9_beginLane_24 : decode cX9_beginLane 24 = .ok (.iload_n 3, 1) := by decide +kernel
theorem dX9_beginLane_25 : decode cX9_beginLane 25 = .ok (.aload_n 0, 1) := by decide +kernel
theorem dX9_beginLane_26 : decode cX9_beginLane 26 = .ok (.getfield 30, 3) := by decide +kernel
theorem dX9_beginLane_29 : decode cX9_beginLane 29 = .ok (.getfield 98, 3) := by decide +kernel
theorem dX9_beginLane_32 : decode cX9_beginLane 32 = .ok (.if_icmp .ge 82, 3) := by decide +kernel
theorem dX9_beginLane_35 : decode cX9_beginLane 35 = .ok (.aload_n 0, 1) := by decide +kernel
theorem dX9_beginLane_36 : decode cX9_beginLane 36 = .ok (.getfield 30, 3) := by decide +kernel
theorem dX9_beginLane_39 : decode cX9_beginLane 39 = .ok (.iconst 3, 1) := by decide +kernel
theorem dX9_beginLane_40 : decode cX9_beginLane 40 = .ok (.iload_n 3, 1) := by decide +kernel
theorem dX9_beginLane_41 : decode cX9_beginLane 41 = .ok (.iconst 0, 1) := by decide +kernel
theorem dX9_beginLane_42 : decode cX9_beginLane 42 = .ok (.aload_n 0, 1) := by decide +kernel
theorem dX9_beginLane_43 : decode cX9_beginLane 43 = .ok (.getfield 9, 3) := by decide +kernel
theorem dX9_beginLane_46 : decode cX9_beginLane 46 = .ok (.invokevirtual 77, 3) := by decide +kernel
theorem dX9_beginLane_49 : decode cX9_beginLane 49 = .ok (.iconst 0, 1) := by decide +kernel
theorem dX9_beginLane_50 : decode cX9_beginLane 50 = .ok (.istore 4, 2) := by decide +kernel
theorem dX9_beginLane_52 : decode cX9_beginLane 52 = .ok (.iload 4, 2) := by decide +kernel
theorem dX9_beginLane_54 : decode cX9_beginLane 54 = .ok (.aload_n 0, 1) := by decide +kernel
theorem dX9_beginLane_55 : decode cX9_beginLane 55 = .ok (.getfield 30, 3) := by decide +kernel
theorem dX9_beginLane_58 : decode cX9_beginLane 58 = .ok (.getfield 71, 3) := by decide +kernel
theorem dX9_beginLane_61 : decode cX9_beginLane 61 = .ok (.if_icmp .ge 47, 3) := by decide +kernel
theorem dX9_beginLane_64 : decode cX9_beginLane 64 = .ok (.aload_n 0, 1) := by decide +kernel
theorem dX9_beginLane_65 : decode cX9_beginLane 65 = .ok (.getfield 38, 3) := by decide +kernel
theorem dX9_beginLane_68 : decode cX9_beginLane 68 = .ok (.iload 4, 2) := by decide +kernel
theorem dX9_beginLane_70 : decode cX9_beginLane 70 = .ok (.invokevirtual 124, 3) := by decide +kernel
theorem dX9_beginLane_73 : decode cX9_beginLane 73 = .ok (.ifCond .eq 29, 3) := by decide +kernel
theorem dX9_beginLane_76 : decode cX9_beginLane 76 = .ok (.aload_n 0, 1) := by decide +kernel
theorem dX9_beginLane_77 : decode cX9_beginLane 77 = .ok (.iconst 0, 1) := by decide +kernel
theorem dX9_beginLane_78 : decode cX9_beginLane 78 = .ok (.iload 4, 2) := by decide +kernel
theorem dX9_beginLane_80 : decode cX9_beginLane 80 = .ok (.iload_n 2, 1) := by decide +kernel
theorem dX9_beginLane_81 : decode cX9_beginLane 81 = .ok (.invokevirtual 130, 3) := by decide +kernel
theorem dX9_beginLane_84 : decode cX9_beginLane 84 = .ok (.ifCond .eq 18, 3) := by decide +kernel
theorem dX9_beginLane_87 : decode cX9_beginLane 87 = .ok (.aload_n 0, 1) := by decide +kernel
theorem dX9_beginLane_88 : decode cX9_beginLane 88 = .ok (.getfield 24, 3) := by decide +kernel
theorem dX9_beginLane_91 : decode cX9_beginLane 91 = .ok (.iload_n 1, 1) := by decide +kernel
theorem dX9_beginLane_92 : decode cX9_beginLane 92 = .ok (.iload 4, 2) := by decide +kernel
theorem dX9_beginLane_94 : decode cX9_beginLane 94 = .ok (.iadd, 1) := by decide +kernel
theorem dX9_beginLane_95 : decode cX9_beginLane 95 = .ok (.dup2, 1) := by decide +kernel
theorem dX9_beginLane_96 : decode cX9_beginLane 96 = .ok (.iaload, 1) := by decide +kernel
theorem dX9_beginLane_97 : decode cX9_beginLane 97 = .ok (.iconst 1, 1) := by decide +kernel
theorem dX9_beginLane_98 : decode cX9_beginLane 98 = .ok (.iload_n 3, 1) := by decide +kernel
theorem dX9_beginLane_99 : decode cX9_beginLane 99 = .ok (.ishl, 1) := by decide +kernel
theorem dX9_beginLane_100 : decode cX9_beginLane 100 = .ok (.ior, 1) := by decide +kernel
theorem dX9_beginLane_101 : decode cX9_beginLane 101 = .ok (.iastore, 1) := by decide +kernel
theorem dX9_beginLane_102 : decode cX9_beginLane 102 = .ok (.iinc 4 1, 3) := by decide +kernel
theorem dX9_beginLane_105 : decode cX9_beginLane 105 = .ok (.goto (-53), 3) := by decide +kernel
theorem dX9_beginLane_108 : decode cX9_beginLane 108 = .ok (.iinc 3 1, 3) := by decide +kernel
theorem dX9_beginLane_111 : decode cX9_beginLane 111 = .ok (.goto (-87), 3) := by decide +kernel
theorem dX9_beginLane_114 : decode cX9_beginLane 114 = .ok (.return_, 1) := by decide +kernel
def s_X9_beginLane_52_b (k24 : Nat → Int32 → Int32 → Int32 → aH → aO) (k52 : Nat → Int32 → Int32 → Int32 → Int32 → aH → aO) (l0 : Nat) (l1 : Int32) (l2 : Int32) (l3 : Int32) (l4 : Int32) (h : aH) : aO :=
  (gO h (.ref l0) 9 0).bind fun x55 => (gI h (.ref x55) 2 12).bind fun x58 => if x58 ≤ l4 then (k24 l0 l1 l2 (l3 + 1) h) else ((gO h (.ref l0) 9 2).bind fun x65 => kO h x65 10 (cI (s_X10_isGood x65 l4 h) fun x70 h70 => if x70 = 0 then (k52 l0 l1 l2 l3 (l4 + 1) h70) else (kO h70 l0 9 (cI (s_X9_agrees l0 0 l4 l2 h70) fun x81 h81 => if x81 = 0 then (k52 l0 l1 l2 l3 (l4 + 1) h81) else ((gO h81 (.ref l0) 9 8).bind fun x88 => (ldI .int h81 (.ref x88) (l1 + l4)).bind fun x96 => (stI h81 (.ref x88) (l1 + l4) (x96 ||| (1 <<< (l3 &&& 31)))).bind fun h101 => k52 l0 l1 l2 l3 (l4 + 1) h101)))))
def s_X9_beginLane_52 (k24 : Nat → Int32 → Int32 → Int32 → aH → aO) (n : Nat) : Nat → Int32 → Int32 → Int32 → Int32 → aH → aO := lpF (fun _ _ _ _ _ _ => none) (s_X9_beginLane_52_b k24) n
def s_X9_beginLane_24_b  (k24 : Nat → Int32 → Int32 → Int32 → aH → aO) (l0 : Nat) (l1 : Int32) (l2 : Int32) (l3 : Int32) (h : aH) : aO :=
  (gO h (.ref l0) 9 0).bind fun x26 => (gI h (.ref x26) 2 15).bind fun x29 => if x29 ≤ l3 then (some (.inl none, h)) else ((gO h (.ref l0) 9 0).bind fun x36 => (gO h (.ref l0) 9 3).bind fun x43 => kO h x36 2 (cN (s_X2_spread x36 3 l3 0 x43 h) fun h46 => s_X9_beginLane_52 k24 FU l0 l1 l2 l3 0 h46))
def s_X9_beginLane_24  (n : Nat) : Nat → Int32 → Int32 → Int32 → aH → aO := lpF (fun _ _ _ _ _ => none) (s_X9_beginLane_24_b ) n
def s_X9_beginLane (o : Nat) (a1 : Int32) (a2 : Int32) (h : aH) : aO :=
  (gO h (.ref o) 9 3).bind fun x1 => cN (s_J7_fill_53178 x1 0 h) fun h5 => (gO h5 (.ref o) 9 0).bind fun x9 => (gO h5 (.ref o) 9 3).bind fun x16 => kO h5 x9 2 (cN (s_X2_spread x9 2 0 0 x16 h5) fun h19 => s_X9_beginLane_24 FU o a1 a2 0 h19)
section
variable {p : Program} {l : Launch} {e : Env} {s : State} {m : MethodId} {args : Array Value} {below : List Frame} {meth : Method} {c : Code} {D : va_G} {B0 : Nat} {X : Nat → Nat} {ws0 : va_W} {r : aR} {h' : aH} {mc ms : Nat}
theorem t_X9_beginLane_52_b (C : Cx p l s m args meth c B0 X RX9 "beginLane" cX9_beginLane 5 none []) {k24 : Nat → Int32 → Int32 → Int32 → aH → aO} (K24 : ∀ (l0 : Nat) (l1 : Int32) (l2 : Int32) (l3 : Int32) (h : aH), k24 l0 l1 l2 l3 h = some (r, h') → Ev p l e { frames := 3, cells := mc, slots := ms, locals := 78 } s m args below meth c D B0 X ws0 r h' mc ms 5 mc ms 24 [some (.ref l0), some (.int l1), some (.int l2), some (.int l3), none] [] h) {k52 : Nat → Int32 → Int32 → Int32 → Int32 → aH → aO} (K52 : ∀ (l0 : Nat) (l1 : Int32) (l2 : Int32) (l3 : Int32) (l4 : Int32) (h : aH), k52 l0 l1 l2 l3 l4 h = some (r, h') → Ev p l e { frames := 3, cells := mc, slots := ms, locals := 78 } s m args below meth c D B0 X ws0 r h' mc ms 5 mc ms 52 [some (.ref l0), some (.int l1), some (.int l2), some (.int l3), some (.int l4)] [] h) {l0 : Nat} {l1 : Int32} {l2 : Int32} {l3 : Int32} {l4 : Int32} {h : aH} (hs : s_X9_beginLane_52_b k24 k52 l0 l1 l2 l3 l4 h = some (r, h')) : Ev p l e { frames := 3, cells := mc, slots := ms, locals := 78 } s m args below meth c D B0 X ws0 r h' mc ms 5 mc ms 52 [some (.ref l0), some (.int l1), some (.int l2), some (.int l3), some (.int l4)] [] h := by
  unfold s_X9_beginLane_52_b at hs
  refine ev_iload C rfl dX9_beginLane_52 ?_
  refine ev_aload_n C (x := .ref l0) rfl trivial dX9_beginLane_54 ?_
  obtain ⟨x55, e55, hs⟩ := aB hs
  refine ev_get C (ci := 9) (k := 0) rfl wu_9 (by decide) wf_X9_30 (gO_F e55) dX9_beginLane_55 ?_
  obtain ⟨x58, e58, hs⟩ := aB hs
  refine ev_getN C (ci := 2) (k := 12) rfl wu_2 (by decide) wg_X9_71 (gI_F e58) dX9_beginLane_58 ?_
  refine ev_icmp_ge C (tgt := 108) (by decide) dX9_beginLane_61 (fun q61 => ?_) (fun q61 => ?_)
  · replace hs := (if_pos q61).symm.trans hs
    refine ev_iinc C (i := 3) (n := 1) (x := l3) (v := l3 + 1) rfl (congrArg (fun z => l3 + z) (show Int32.ofInt 1 = 1 by decide)) (by decide) dX9_beginLane_108 ?_
    refine ev_goto C (tgt := 24) (by decide) dX9_beginLane_111 ?_
    exact Ev.keep [true, true, true, true, false] (K24 _ _ _ _ _ hs)
  · replace hs := (if_neg q61).symm.trans hs
    refine ev_aload_n C (x := .ref l0) rfl trivial dX9_beginLane_64 ?_
    obtain ⟨x65, e65, hs⟩ := aB hs
    refine ev_get C (ci := 9) (k := 2) rfl wu_9 (by decide) wf_X9_38 (gO_F e65) dX9_beginLane_65 ?_
    refine ev_iload C rfl dX9_beginLane_68 ?_
    obtain ⟨eo70, hs⟩ := kO_at hs
    obtain ⟨x70, h70, e70, hs⟩ := cI_at hs
    refine ev_callVN C (T_X10_isGood _ _ _ _ _ e70) (ci := 10) rfl eo70 wc_X10_isGood wn_X9_124 wi_X10_isGood ws_X10_isGood wz_X10 hy_X10_isGood ⟨(Nat.le_of_ble_eq_true rfl), (Nat.le_of_ble_eq_true rfl)⟩ ⟨(Nat.le_refl _), (Nat.le_refl _)⟩ (Nat.le_of_ble_eq_true rfl) rfl dX9_beginLane_70 ?_
    refine ev_if_eq C (tgt := 102) (by decide) dX9_beginLane_73 (fun q73 => ?_) (fun q73 => ?_)
    · replace hs := (if_pos q73).symm.trans hs
      refine ev_iinc C (i := 4) (n := 1) (x := l4) (v := l4 + 1) rfl (congrArg (fun z => l4 + z) (show Int32.ofInt 1 = 1 by decide)) (by decide) dX9_beginLane_102 ?_
      refine ev_goto C (tgt := 52) (by decide) dX9_beginLane_105 ?_
      exact (K52 _ _ _ _ _ _ hs)
    · replace hs := (if_neg q73).symm.trans hs
      refine ev_aload_n C (x := .ref l0) rfl trivial dX9_beginLane_76 ?_
      refine ev_iconst C (v := 0) dX9_beginLane_77 (by decide) ?_
      refine ev_iload C rfl dX9_beginLane_78 ?_
      refine ev_iload_n C rfl dX9_beginLane_80 ?_
      obtain ⟨eo81, hs⟩ := kO_at hs
      obtain ⟨x81, h81, e81, hs⟩ := cI_at hs
      refine ev_callV C (T_X9_agrees _ _ _ _ _ _ _ e81) (ci := 9) rfl eo81 wc_X9_agrees wm_X9_130 wi_X9_agrees ws_X9_agrees wz_X9 hy_X9_agrees ⟨(Nat.le_of_ble_eq_true rfl), (Nat.le_of_ble_eq_true rfl)⟩ ⟨(Nat.le_refl _), (Nat.le_refl _)⟩ (Nat.le_of_ble_eq_true rfl) rfl dX9_beginLane_81 ?_
      refine ev_if_eq C (tgt := 102) (by decide) dX9_beginLane_84 (fun q84 => ?_) (fun q84 => ?_)
      · replace hs := (if_pos q84).symm.trans hs
        refine ev_iinc C (i := 4) (n := 1) (x := l4) (v := l4 + 1) rfl (congrArg (fun z => l4 + z) (show Int32.ofInt 1 = 1 by decide)) (by decide) dX9_beginLane_102 ?_
        refine ev_goto C (tgt := 52) (by decide) dX9_beginLane_105 ?_
        exact (K52 _ _ _ _ _ _ hs)
      · replace hs := (if_neg q84).symm.trans hs
        refine ev_aload_n C (x := .ref l0) rfl trivial dX9_beginLane_87 ?_
        obtain ⟨x88, e88, hs⟩ := aB hs
        refine ev_get C (ci := 9) (k := 8) rfl wu_9 (by decide) wf_X9_24 (gO_F e88) dX9_beginLane_88 ?_
        refine ev_iload_n C rfl dX9_beginLane_91 ?_
        refine ev_iload C rfl dX9_beginLane_92 ?_
        refine ev_iadd C dX9_beginLane_94 ?_
        refine ev_dup2 C rfl rfl dX9_beginLane_95 ?_
        obtain ⟨x96, e96, hs⟩ := aB hs
        refine ev_iald C e96 dX9_beginLane_96 ?_
        refine ev_iconst C (v := 1) dX9_beginLane_97 (by decide) ?_
        refine ev_iload_n C rfl dX9_beginLane_98 ?_
        refine ev_ishl C dX9_beginLane_99 ?_
        refine ev_ior C dX9_beginLane_100 ?_
        obtain ⟨h101, e101, hs⟩ := aB hs
        refine ev_iast C e101 dX9_beginLane_101 ?_
        refine ev_iinc C (i := 4) (n := 1) (x := l4) (v := l4 + 1) rfl (congrArg (fun z => l4 + z) (show Int32.ofInt 1 = 1 by decide)) (by decide) dX9_beginLane_102 ?_
        refine ev_goto C (tgt := 52) (by decide) dX9_beginLane_105 ?_
        exact (K52 _ _ _ _ _ _ hs)
theorem t_X9_beginLane_52 (C : Cx p l s m args meth c B0 X RX9 "beginLane" cX9_beginLane 5 none []) {k24 : Nat → Int32 → Int32 → Int32 → aH → aO} (K24 : ∀ (l0 : Nat) (l1 : Int32) (l2 : Int32) (l3 : Int32) (h : aH), k24 l0 l1 l2 l3 h = some (r, h') → Ev p l e { frames := 3, cells := mc, slots := ms, locals := 78 } s m args below meth c D B0 X ws0 r h' mc ms 5 mc ms 24 [some (.ref l0), some (.int l1), some (.int l2), some (.int l3), none] [] h) : ∀ (n : Nat) {l0 : Nat} {l1 : Int32} {l2 : Int32} {l3 : Int32} {l4 : Int32} {h : aH} (hs : s_X9_beginLane_52 k24 n l0 l1 l2 l3 l4 h = some (r, h')), Ev p l e { frames := 3, cells := mc, slots := ms, locals := 78 } s m args below meth c D B0 X ws0 r h' mc ms 5 mc ms 52 [some (.ref l0), some (.int l1), some (.int l2), some (.int l3), some (.int l4)] [] h
  | 0, _, _, _, _, _, _, hs => nomatch hs
  | n + 1, _, _, _, _, _, _, hs => t_X9_beginLane_52_b C K24 (k52 := s_X9_beginLane_52 k24 n) (fun _ _ _ _ _ _ hs => t_X9_beginLane_52 C K24 n hs) hs
theorem t_X9_beginLane_24_b (C : Cx p l s m args meth c B0 X RX9 "beginLane" cX9_beginLane 5 none [])   {k24 : Nat → Int32 → Int32 → Int32 → aH → aO} (K24 : ∀ (l0 : Nat) (l1 : Int32) (l2 : Int32) (l3 : Int32) (h : aH), k24 l0 l1 l2 l3 h = some (r, h') → Ev p l e { frames := 3, cells := mc, slots := ms, locals := 78 } s m args below meth c D B0 X ws0 r h' mc ms 5 mc ms 24 [some (.ref l0), some (.int l1), some (.int l2), some (.int l3), none] [] h) {l0 : Nat} {l1 : Int32} {l2 : Int32} {l3 : Int32} {h : aH} (hs : s_X9_beginLane_24_b  k24 l0 l1 l2 l3 h = some (r, h')) : Ev p l e { frames := 3, cells := mc, slots := ms, locals := 78 } s m args below meth c D B0 X ws0 r h' mc ms 5 mc ms 24 [some (.ref l0), some (.int l1), some (.int l2), some (.int l3), none] [] h := by
  unfold s_X9_beginLane_24_b at hs
  refine ev_iload_n C rfl dX9_beginLane_24 ?_
  refine ev_aload_n C (x := .ref l0) rfl trivial dX9_beginLane_25 ?_
  obtain ⟨x26, e26, hs⟩ := aB hs
  refine ev_get C (ci := 9) (k := 0) rfl wu_9 (by decide) wf_X9_30 (gO_F e26) dX9_beginLane_26 ?_
  obtain ⟨x29, e29, hs⟩ := aB hs
  refine ev_getN C (ci := 2) (k := 15) rfl wu_2 (by decide) wg_X9_98 (gI_F e29) dX9_beginLane_29 ?_
  refine ev_icmp_ge C (tgt := 114) (by decide) dX9_beginLane_32 (fun q32 => ?_) (fun q32 => ?_)
  · replace hs := (if_pos q32).symm.trans hs
    cases hs
    exact ev_vret C rfl rfl (Nat.le_refl _) (Nat.le_refl _) rfl dX9_beginLane_114
  · replace hs := (if_neg q32).symm.trans hs
    refine ev_aload_n C (x := .ref l0) rfl trivial dX9_beginLane_35 ?_
    obtain ⟨x36, e36, hs⟩ := aB hs
    refine ev_get C (ci := 9) (k := 0) rfl wu_9 (by decide) wf_X9_30 (gO_F e36) dX9_beginLane_36 ?_
    refine ev_iconst C (v := 3) dX9_beginLane_39 (by decide) ?_
    refine ev_iload_n C rfl dX9_beginLane_40 ?_
    refine ev_iconst C (v := 0) dX9_beginLane_41 (by decide) ?_
    refine ev_aload_n C (x := .ref l0) rfl trivial dX9_beginLane_42 ?_
    obtain ⟨x43, e43, hs⟩ := aB hs
    refine ev_get C (ci := 9) (k := 3) rfl wu_9 (by decide) wf_X9_9 (gO_F e43) dX9_beginLane_43 ?_
    obtain ⟨eo46, hs⟩ := kO_at hs
    obtain ⟨h46, e46, hs⟩ := cN_at hs
    refine ev_callVN C (T_X2_spread _ _ _ _ _ _ _ _ e46) (ci := 2) rfl eo46 wc_X2_spread wn_X9_77 wi_X2_spread ws_X2_spread wz_X2 hy_X2_spread ⟨(Nat.le_of_ble_eq_true rfl), (Nat.le_of_ble_eq_true rfl)⟩ ⟨(Nat.le_refl _), (Nat.le_refl _)⟩ (Nat.le_of_ble_eq_true rfl) rfl dX9_beginLane_46 ?_
    refine ev_iconst C (v := 0) dX9_beginLane_49 (by decide) ?_
    refine ev_istore C (by decide) dX9_beginLane_50 ?_
    exact (t_X9_beginLane_52 C K24 FU hs)
theorem t_X9_beginLane_24 (C : Cx p l s m args meth c B0 X RX9 "beginLane" cX9_beginLane 5 none [])   : ∀ (n : Nat) {l0 : Nat} {l1 : Int32} {l2 : Int32} {l3 : Int32} {h : aH} (hs : s_X9_beginLane_24  n l0 l1 l2 l3 h = some (r, h')), Ev p l e { frames := 3, cells := mc, slots := ms, locals := 78 } s m args below meth c D B0 X ws0 r h' mc ms 5 mc ms 24 [some (.ref l0), some (.int l1), some (.int l2), some (.int l3), none] [] h
  | 0, _, _, _, _, _, hs => nomatch hs
  | n + 1, _, _, _, _, _, hs => t_X9_beginLane_24_b C  (k24 := s_X9_beginLane_24  n) (fun _ _ _ _ _ hs => t_X9_beginLane_24 C  n hs) hs
theorem hy_X9_beginLane : yX9_beginLane.cls ≠ "java/lang/invoke/MethodHandle" ∧ yX9_beginLane.cls ≠ "java/lang/invoke/VarHandle" ∧ (parseMethodDescriptor yX9_beginLane.desc).map (fun d => d.parameters.length) = some 2 := by decide +kernel
theorem T_X9_beginLane (o : Nat) (a1 : Int32) (a2 : Int32) (h : aH) (r : aR) (h' : aH) (hs : s_X9_beginLane o a1 a2 h = some (r, h')) : Mt yX9_beginLane (Cond.code yX9_beginLane cX9_beginLane 5 none :: aTB) 3 78 0 0 [.ref o, .int a1, .int a2] h r h' := by
  unfold s_X9_beginLane at hs
  refine Mt_of (k := 2) (by decide) rfl (fun p l e s m args below meth c D B0 X ws0 C => ?_)
  show Ev p l e { frames := 3, cells := 0, slots := 0, locals := 78 } s m args below meth c D B0 X ws0 r h' 0 0 5 0 0 0 [some (.ref o), some (.int a1), some (.int a2), none, none] [] h
  refine ev_aload_n C (x := .ref o) rfl trivial dX9_beginLane_0 ?_
  obtain ⟨x1, e1, hs⟩ := aB hs
  refine ev_get C (ci := 9) (k := 3) rfl wu_9 (by decide) wf_X9_9 (gO_F e1) dX9_beginLane_1 ?_
  refine ev_iconst C (v := 0) dX9_beginLane_4 (by decide) ?_
  obtain ⟨h5, e5, hs⟩ := cN_at hs
  refine ev_callS C (T_J7_fill_53178 _ _ _ _ _ e5) wc_J7_fill_53178 wm_X9_46 wt_J7_fill_53178 wz_J7 hy_J7_fill_53178 ⟨(Nat.le_of_ble_eq_true rfl), (Nat.le_of_ble_eq_true rfl)⟩ ⟨(Nat.le_refl _), (Nat.le_refl _)⟩ (Nat.le_of_ble_eq_true rfl) rfl dX9_beginLane_5 ?_
  refine ev_aload_n C (x := .ref o) rfl trivial dX9_beginLane_8 ?_
  obtain ⟨x9, e9, hs⟩ := aB hs
  refine ev_get C (ci := 9) (k := 0) rfl wu_9 (by decide) wf_X9_30 (gO_F e9) dX9_beginLane_9 ?_
  refine ev_iconst C (v := 2) dX9_beginLane_12 (by decide) ?_
  refine ev_iconst C (v := 0) dX9_beginLane_13 (by decide) ?_
  refine ev_iconst C (v := 0) dX9_beginLane_14 (by decide) ?_
  refine ev_aload_n C (x := .ref o) rfl trivial dX9_beginLane_15 ?_
  obtain ⟨x16, e16, hs⟩ := aB hs
  refine ev_get C (ci := 9) (k := 3) rfl wu_9 (by decide) wf_X9_9 (gO_F e16) dX9_beginLane_16 ?_
  obtain ⟨eo19, hs⟩ := kO_at hs
  obtain ⟨h19, e19, hs⟩ := cN_at hs
  refine ev_callVN C (T_X2_spread _ _ _ _ _ _ _ _ e19) (ci := 2) rfl eo19 wc_X2_spread wn_X9_77 wi_X2_spread ws_X2_spread wz_X2 hy_X2_spread ⟨(Nat.le_of_ble_eq_true rfl), (Nat.le_of_ble_eq_true rfl)⟩ ⟨(Nat.le_refl _), (Nat.le_refl _)⟩ (Nat.le_of_ble_eq_true rfl) rfl dX9_beginLane_19 ?_
  refine ev_iconst C (v := 0) dX9_beginLane_22 (by decide) ?_
  refine ev_istore_n C (by decide) dX9_beginLane_23 ?_
  exact (t_X9_beginLane_24 C  FU hs)
end
-- X9_moveLane
theorem dX9_moveLane_0 : decode cX9_moveLane 0 = .ok (.aload_n 0, 1) := by decide +kernel
theorem dX9_moveLane_1 : decode cX9_moveLane 1 = .ok (.getfield 15, 3) := by decide +kernel
theorem dX9_moveLane_4 : decode cX9_moveLane 4 = .ok (.iload_n 3, 1) := by decide +kernel
theorem dX9_moveLane_5 : decode cX9_moveLane 5 = .ok (.iaload, 1) := by decide +kernel
theorem dX9_moveLane_6 : decode cX9_moveLane 6 = .ok (.istore 4, 2) := by decide +kernel
theorem dX9_moveLane_8 : decode cX9_moveLane 8 = .ok (.iload_n 2, 1) := by decide +kernel
theorem dX9_moveLane_9 : decode cX9_moveLane 9 = .ok (.iconst 1, 1) := by decide +kernel
theorem dX9_moveLane_10 : decode cX9_moveLane 10 = .ok (.if_icmp .lt 34, 3) := by decide +kernel
theorem dX9_moveLane_13 : decode cX9_moveLane 13 = .ok (.iload_n 2, 1) := by decide +kernel
theorem dX9_moveLane_14 : decode cX9_moveLane 14 = .ok (.aload_n 0, 1) := by decide +kernel
theorem dX9_moveLane_15 : decode cX9_moveLane 15 = .ok (.getfield 30, 3) := by decide +kernel
theorem dX9_moveLane_18 : decode cX9_moveLane 18 = .ok (.getfield 81, 3) := by decide +kernel
theorem dX9_moveLane_21 : decode cX9_moveLane 21 = .ok (.iconst 1, 1) := by decide +kernel
theorem dX9_moveLane_22 : decode cX9_moveLane 22 = .ok (.iaload, 1) := by decide +kernel
theorem dX9_moveLane_23 : decode cX9_moveLane 23 = .ok (.if_icmp .gt 21, 3) := by decide +kernel
theorem dX9_moveLane_26 : decode cX9_moveLane 26 = .ok (.aload_n 0, 1) := by decide +kernel
theorem dX9_moveLane_27 : decode cX9_moveLane 27 = .ok (.getfield 30, 3) := by decide +kernel
theorem dX9_moveLane_30 : decode cX9_moveLane 30 = .ok (.iload 4, 2) := by decide +kernel
theorem dX9_moveLane_32 : decode cX9_moveLane 32 = .ok (.iload_n 2, 1) := by decide +kernel
theorem dX9_moveLane_33 : decode cX9_moveLane 33 = .ok (.iconst 1, 1) := by decide +kernel
theorem dX9_moveLane_34 : decode cX9_moveLane 34 = .ok (.isub, 1) := by decide +kernel
theorem dX9_moveLane_35 : decode cX9_moveLane 35 = .ok (.aload_n 0, 1) := by decide +kernel
theorem dX9_moveLane_36 : decode cX9_moveLane 36 = .ok (.getfield 9, 3) := by decide +kernel
theorem dX9_moveLane_39 : decode cX9_moveLane 39 = .ok (.invokevirtual 134, 3) := by decide +kernel
theorem dX9_moveLane_42 : decode cX9_moveLane 42 = .ok (.istore 4, 2) := by decide +kernel
theorem dX9_moveLane_44 : decode cX9_moveLane 44 = .ok (.aload_n 0, 1) := by decide +kernel
theorem dX9_moveLane_45 : decode cX9_moveLane 45 = .ok (.getfield 30, 3) := by decide +kernel
theorem dX9_moveLane_48 : decode cX9_moveLane 48 = .ok (.iconst 1, 1) := by decide +kernel
theorem dX9_moveLane_49 : decode cX9_moveLane 49 = .ok (.iload 4, 2) := by decide +kernel
theorem dX9_moveLane_51 : decode cX9_moveLane 51 = .ok (.iconst 0, 1) := by decide +kernel
theorem dX9_moveLane_52 : decode cX9_moveLane 52 = .ok (.aload_n 0, 1) := by decide +kernel
theorem dX9_moveLane_53 : decode cX9_moveLane 53 = .ok (.getfield 9, 3) := by decide +kernel
theorem dX9_moveLane_56 : decode cX9_moveLane 56 = .ok (.invokevirtual 77, 3) := by decide +kernel
theorem dX9_moveLane_59 : decode cX9_moveLane 59 = .ok (.iconst 1, 1) := by decide +kernel
theorem dX9_moveLane_60 : decode cX9_moveLane 60 = .ok (.aload_n 0, 1) := by decide +kernel
theorem dX9_moveLane_61 : decode cX9_moveLane 61 = .ok (.getfield 30, 3) := by decide +kernel
theorem dX9_moveLane_64 : decode cX9_moveLane 64 = .ok (.getfield 98, 3) := by decide +kernel
theorem dX9_moveLane_67 : decode cX9_moveLane 67 = .ok (.invokestatic 138, 3) := by decide +kernel
theorem dX9_moveLane_70 : decode cX9_moveLane 70 = .ok (.istore 5, 2) := by decide +kernel
theorem dX9_moveLane_72 : decode cX9_moveLane 72 = .ok (.iconst 0, 1) := by decide +kernel
theorem dX9_moveLane_73 : decode cX9_moveLane 73 = .ok (.istore 6, 2) := by decide +kernel
theorem dX9_moveLane_75 : decode cX9_moveLane 75 = .ok (.iload 6, 2) := by decide +kernel
theorem dX9_moveLane_77 : decode cX9_moveLane 77 = .ok (.aload_n 0, 1) := by decide +kernel
theorem dX9_moveLane_78 : decode cX9_moveLane 78 = .ok (.getfield 30, 3) := by decide +kernel
theorem dX9_moveLane_81 : decode cX9_moveLane 81 = .ok (.getfield 141, 3) := by decide +kernel
theorem dX9_moveLane_84 : decode cX9_moveLane 84 = .ok (.if_icmp .ge 136, 3) := by decide +kernel
theorem dX9_moveLane_87 : decode cX9_moveLane 87 = .ok (.aload_n 0, 1) := by decide +kernel
theorem dX9_moveLane_88 : decode cX9_moveLane 88 = .ok (.getfield 30, 3) := by decide +kernel
theorem dX9_moveLane_91 : decode cX9_moveLane 91 = .ok (.iload 6, 2) := by decide +kernel
theorem dX9_moveLane_93 : decode cX9_moveLane 93 = .ok (.iconst 0, 1) := by decide +kernel
theorem dX9_moveLane_94 : decode cX9_moveLane 94 = .ok (.aload_n 0, 1) := by decide +kernel
theorem dX9_moveLane_95 : decode cX9_moveLane 95 = .ok (.getfield 9, 3) := by decide +kernel
theorem dX9_moveLane_98 : decode cX9_moveLane 98 = .ok (.invokevirtual 144, 3) := by decide +kernel
theorem dX9_moveLane_101 : decode cX9_moveLane 101 = .ok (.iconst 1, 1) := by decide +kernel
theorem dX9_moveLane_102 : decode cX9_moveLane 102 = .ok (.iload 6, 2) := by decide +kernel
theorem dX9_moveLane_104 : decode cX9_moveLane 104 = .ok (.iload 5, 2) := by decide +kernel
theorem dX9_moveLane_106 : decode cX9_moveLane 106 = .ok (.irem, 1) := by decide +kernel
theorem dX9_moveLane_107 : decode cX9_moveLane 107 = .ok (.ishl, 1) := by decide +kernel
theorem dX9_moveLane_108 : decode cX9_moveLane 108 = .ok (.istore 7, 2) := by decide +kernel
theorem dX9_moveLane_110 : decode cX9_moveLane 110 = .ok (.iconst 0, 1) := by decide +kernel
theorem dX9_moveLane_111 : decode cX9_moveLane 111 = .ok (.istore 8, 2) := by decide +kernel
theorem dX9_moveLane_113 : decode cX9_moveLane 113 = .ok (.iload 8, 2) := by decide +kernel
theorem dX9_moveLane_115 : decode cX9_moveLane 115 = .ok (.aload_n 0, 1) := by decide +kernel
theorem dX9_moveLane_116 : decode cX9_moveLane 116 = .ok (.getfield 30, 3) := by decide +kernel
theorem dX9_moveLane_119 : decode cX9_moveLane 119 = .ok (.getfield 71, 3) := by decide +kernel
theorem dX9_moveLane_122 : decode cX9_moveLane 122 = .ok (.if_icmp .ge 92, 3) := by decide +kernel
theorem dX9_moveLane_125 : decode cX9_moveLane 125 = .ok (.aload_n 0, 1) := by decide +kernel
theorem dX9_moveLane_126 : decode cX9_moveLane 126 = .ok (.getfield 24, 3) := by decide +kernel
theorem dX9_moveLane_129 : decode cX9_moveLane 129 = .ok (.iload_n 1, 1) := by decide +kernel
theorem dX9_moveLane_130 : decode cX9_moveLane 130 = .ok (.aload_n 0, 1) := by decide +kernel
theorem dX9_moveLane_131 : decode cX9_moveLane 131 = .ok (.getfield 30, 3) := by decide +kernel
theorem dX9_moveLane_134 : decode cX9_moveLane 134 = .ok (.getfield 71, 3) := by decide +kernel
theorem dX9_moveLane_137 : decode cX9_moveLane 137 = .ok (.isub, 1) := by decide +kernel
theorem dX9_moveLane_138 : decode cX9_moveLane 138 = .ok (.iload 8, 2) := by decide +kernel
theorem dX9_moveLane_140 : decode cX9_moveLane 140 = .ok (.iadd, 1) := by decide +kernel
theorem dX9_moveLane_141 : decode cX9_moveLane 141 = .ok (.iaload, 1) := by decide +kernel
theorem dX9_moveLane_142 : decode cX9_moveLane 142 = .ok (.iload 7, 2) := by decide +kernel
theorem dX9_moveLane_144 : decode cX9_moveLane 144 = .ok (.iand, 1) := by decide +kernel
theorem dX9_moveLane_145 : decode cX9_moveLane 145 = .ok (.ifCond .eq 63, 3) := by decide +kernel
theorem dX9_moveLane_148 : decode cX9_moveLane 148 = .ok (.aload_n 0, 1) := by decide +kernel
theorem dX9_moveLane_149 : decode cX9_moveLane 149 = .ok (.getfield 34, 3) := by decide +kernel
theorem dX9_moveLane_152 : decode cX9_moveLane 152 = .ok (.iload 8, 2) := by decide +kernel
theorem dX9_moveLane_154 : decode cX9_moveLane 154 = .ok (.iload 4, 2) := by decide +kernel
theorem dX9_moveLane_156 : decode cX9_moveLane 156 = .ok (.iload 6, 2) := by decide +kernel
theorem dX9_moveLane_158 : decode cX9_moveLane 158 = .ok (.invokevirtual 101, 3) := by decide +kernel
theorem dX9_moveLane_161 : decode cX9_moveLane 161 = .ok (.istore 9, 2) := by decide +kernel
theorem dX9_moveLane_163 : decode cX9_moveLane 163 = .ok (.iload 9, 2) := by decide +kernel
theorem dX9_moveLane_165 : decode cX9_moveLane 165 = .ok (.ifCond .lt 43, 3) := by decide +kernel
theorem dX9_moveLane_168 : decode cX9_moveLane 168 = .ok (.aload_n 0, 1) := by decide +kernel
theorem dX9_moveLane_169 : decode cX9_moveLane 169 = .ok (.getfield 24, 3) := by decide +kernel
theorem dX9_moveLane_172 : decode cX9_moveLane 172 = .ok (.iload_n 1, 1) := by decide +kernel
theorem dX9_moveLane_173 : decode cX9_moveLane 173 = .ok (.iload 9, 2) := by decide +kernel
theorem dX9_moveLane_175 : decode cX9_moveLane 175 = .ok (.iadd, 1) := by decide +kernel
theorem dX9_moveLane_176 : decode cX9_moveLane 176 = .ok (.iaload, 1) := by decide +kernel
theorem dX9_moveLane_177 : decode cX9_moveLane 177 = .ok (.iload 7, 2) := by decide +kernel
theorem dX9_moveLane_179 : decode cX9_moveLane 179 = .ok (.iand, 1) := by decide +kernel
theorem dX9_moveLane_180 : decode cX9_moveLane 180 = .ok (.ifCond .ne 28, 3) := by decide +kernel
theorem dX9_moveLane_183 : decode cX9_moveLane 183 = .ok (.aload_n 0, 1) := by decide +kernel
theorem dX9_moveLane_184 : decode cX9_moveLane 184 = .ok (.iload_n 3, 1) := by decide +kernel
theorem dX9_moveLane_185 : decode cX9_moveLane 185 = .ok (.iload 9, 2) := by decide +kernel
theorem dX9_moveLane_187 : decode cX9_moveLane 187 = .ok (.iload_n 2, 1) := by decide +kernel
theorem dX9_moveLane_188 : decode cX9_moveLane 188 = .ok (.invokevirtual 130, 3) := by decide +kernel
theorem dX9_moveLane_191 : decode cX9_moveLane 191 = .ok (.ifCond .eq 17, 3) := by decide +kernel
theorem dX9_moveLane_194 : decode cX9_moveLane 194 = .ok (.aload_n 0, 1) := by decide +kernel
theorem dX9_moveLane_195 : decode cX9_moveLane 195 = .ok (.getfield 24, 3) := by decide +kernel
theorem dX9_moveLane_198 : decode cX9_moveLane 198 = .ok (.iload_n 1, 1) := by decide +kernel
theorem dX9_moveLane_199 : decode cX9_moveLane 199 = .ok (.iload 9, 2) := by decide +kernel
theorem dX9_moveLane_201 : decode cX9_moveLane 201 = .ok (.iadd, 1) := by decide +kernel
theorem dX9_moveLane_202 : decode cX9_moveLane 202 = .ok (.dup2, 1) := by decide +kernel
theorem dX9_moveLane_203 : decode cX9_moveLane 203 = .ok (.iaload, 1) := by decide +kernel
theorem dX9_moveLane_204 : decode cX9_moveLane 204 = .ok (.iload 7, 2) := by decide +kernel
theorem dX9_moveLane_206 : decode cX9_moveLane 206 = .ok (.ior, 1) := by decide +kernel
theorem dX9_moveLane_207 : decode cX9_moveLane 207 = .ok (.iastore, 1) := by decide +kernel
theorem dX9_moveLane_208 : decode cX9_moveLane 208 = .ok (.iinc 8 1, 3) := by decide +kernel
theorem dX9_moveLane_211 : decode cX9_moveLane 211 = .ok (.goto (-98), 3) := by decide +kernel
theorem dX9_moveLane_214 : decode cX9_moveLane 214 = .ok (.iinc 6 1, 3) := by decide +kernel
theorem dX9_moveLane_217 : decode cX9_moveLane 217 = .ok (.goto (-142), 3) := by decide +kernel
theorem dX9_moveLane_220 : decode cX9_moveLane 220 = .ok (.return_, 1) := by decide +kernel
def s_X9_moveLane_113_b (k75 : Nat → Int32 → Int32 → Int32 → Int32 → Int32 → Int32 → aH → aO) (k113 : Nat → Int32 → Int32 → Int32 → Int32 → Int32 → Int32 → Int32 → Int32 → aH → aO) (l0 : Nat) (l1 : Int32) (l2 : Int32) (l3 : Int32) (l4 : Int32) (l5 : Int32) (l6 : Int32) (l7 : Int32) (l8 : Int32) (h : aH) : aO :=
  (gO h (.ref l0) 9 0).bind fun x116 => (gI h (.ref x116) 2 12).bind fun x119 => if x119 ≤ l8 then (k75 l0 l1 l2 l3 l4 l5 (l6 + 1) h) else ((gO h (.ref l0) 9 8).bind fun x126 => (gO h (.ref l0) 9 0).bind fun x131 => (gI h (.ref x131) 2 12).bind fun x134 => (ldI .int h (.ref x126) ((l1 - x134) + l8)).bind fun x141 => if (x141 &&& l7) = 0 then (k113 l0 l1 l2 l3 l4 l5 l6 l7 (l8 + 1) h) else ((gO h (.ref l0) 9 1).bind fun x149 => kO h x149 3 (cI (s_X3_leadOf x149 l8 l4 l6 h) fun x158 h158 => if x158 < 0 then (k113 l0 l1 l2 l3 l4 l5 l6 l7 (l8 + 1) h158) else ((gO h158 (.ref l0) 9 8).bind fun x169 => (ldI .int h158 (.ref x169) (l1 + x158)).bind fun x176 => if (x176 &&& l7) = 0 then (kO h158 l0 9 (cI (s_X9_agrees l0 l3 x158 l2 h158) fun x188 h188 => if x188 = 0 then (k113 l0 l1 l2 l3 l4 l5 l6 l7 (l8 + 1) h188) else ((gO h188 (.ref l0) 9 8).bind fun x195 => (ldI .int h188 (.ref x195) (l1 + x158)).bind fun x203 => (stI h188 (.ref x195) (l1 + x158) (x203 ||| l7)).bind fun h207 => k113 l0 l1 l2 l3 l4 l5 l6 l7 (l8 + 1) h207))) else (k113 l0 l1 l2 l3 l4 l5 l6 l7 (l8 + 1) h158)))))
def s_X9_moveLane_113 (k75 : Nat → Int32 → Int32 → Int32 → Int32 → Int32 → Int32 → aH → aO) (n : Nat) : Nat → Int32 → Int32 → Int32 → Int32 → Int32 → Int32 → Int32 → Int32 → aH → aO := lpF (fun _ _ _ _ _ _ _ _ _ _ => none) (s_X9_moveLane_113_b k75) n
def s_X9_moveLane_75_b  (k75 : Nat → Int32 → Int32 → Int32 → Int32 → Int32 → Int32 → aH → aO) (l0 : Nat) (l1 : Int32) (l2 : Int32) (l3 : Int32) (l4 : Int32) (l5 : Int32) (l6 : Int32) (h : aH) : aO :=
  (gO h (.ref l0) 9 0).bind fun x78 => (gI h (.ref x78) 2 14).bind fun x81 => if x81 ≤ l6 then (some (.inl none, h)) else ((gO h (.ref l0) 9 0).bind fun x88 => (gO h (.ref l0) 9 3).bind fun x95 => kO h x88 2 (cN (s_X2_spreadWorld x88 l6 0 x95 h) fun h98 => nz l5 (s_X9_moveLane_113 k75 FU l0 l1 l2 l3 l4 l5 l6 (1 <<< ((l6 - l6 / l5 * l5) &&& 31)) 0 h98)))
def s_X9_moveLane_75  (n : Nat) : Nat → Int32 → Int32 → Int32 → Int32 → Int32 → Int32 → aH → aO := lpF (fun _ _ _ _ _ _ _ _ => none) (s_X9_moveLane_75_b ) n
def s_X9_moveLane_44  (l0 : Nat) (l1 : Int32) (l2 : Int32) (l3 : Int32) (l4 : Int32) (h : aH) : aO :=
  (gO h (.ref l0) 9 0).bind fun x45 => (gO h (.ref l0) 9 3).bind fun x53 => kO h x45 2 (cN (s_X2_spread x45 1 l4 0 x53 h) fun h56 => (gO h56 (.ref l0) 9 0).bind fun x61 => (gI h56 (.ref x61) 2 15).bind fun x64 => s_X9_moveLane_75 FU l0 l1 l2 l3 l4 (jmax 1 x64) 0 h56)
def s_X9_moveLane (o : Nat) (a1 : Int32) (a2 : Int32) (a3 : Int32) (h : aH) : aO :=
  (gO h (.ref o) 9 5).bind fun x1 => (ldI .int h (.ref x1) a3).bind fun x5 => if a2 < 1 then (s_X9_moveLane_44 o a1 a2 a3 x5 h) else ((gO h (.ref o) 9 0).bind fun x15 => (gO h (.ref x15) 2 0).bind fun x18 => (ldI .int h (.ref x18) 1).bind fun x22 => if x22 < a2 then (s_X9_moveLane_44 o a1 a2 a3 x5 h) else ((gO h (.ref o) 9 0).bind fun x27 => (gO h (.ref o) 9 3).bind fun x36 => kO h x27 2 (cI (s_X2_failing x27 x5 (a2 - 1) x36 h) fun x39 h39 => s_X9_moveLane_44 o a1 a2 a3 x39 h39)))
section
variable {p : Program} {l : Launch} {e : Env} {s : State} {m : MethodId} {args : Array Value} {below : List Frame} {meth : Method} {c : Code} {D : va_G} {B0 : Nat} {X : Nat → Nat} {ws0 : va_W} {r : aR} {h' : aH} {mc ms : Nat}
theorem t_X9_moveLane_113_b (C : Cx p l s m args meth c B0 X RX9 "moveLane" cX9_moveLane 10 none []) {k75 : Nat → Int32 → Int32 → Int32 → Int32 → Int32 → Int32 → aH → aO} (K75 : ∀ (l0 : Nat) (l1 : Int32) (l2 : Int32) (l3 : Int32) (l4 : Int32) (l5 : Int32) (l6 : Int32) (h : aH), k75 l0 l1 l2 l3 l4 l5 l6 h = some (r, h') → Ev p l e { frames := 3, cells := mc, slots := ms, locals := 78 } s m args below meth c D B0 X ws0 r h' mc ms 10 mc ms 75 [some (.ref l0), some (.int l1), some (.int l2), some (.int l3), some (.int l4), some (.int l5), some (.int l6), none, none, none] [] h) {k113 : Nat → Int32 → Int32 → Int32 → Int32 → Int32 → Int32 → Int32 → Int32 → aH → aO} (K113 : ∀ (l0 : Nat) (l1 : Int32) (l2 : Int32) (l3 : Int32) (l4 : Int32) (l5 : Int32) (l6 : Int32) (l7 : Int32) (l8 : Int32) (h : aH), k113 l0 l1 l2 l3 l4 l5 l6 l7 l8 h = some (r, h') → Ev p l e { frames := 3, cells := mc, slots := ms, locals := 78 } s m args below meth c D B0 X ws0 r h' mc ms 10 mc ms 113 [some (.ref l0), some (.int l1), some (.int l2), some (.int l3), some (.int l4), some (.int l5), some (.int l6), some (.int l7), some (.int l8), none] [] h) {l0 : Nat} {l1 : Int32} {l2 : Int32} {l3 : Int32} {l4 : Int32} {l5 : Int32} {l6 : Int32} {l7 : Int32} {l8 : Int32} {h : aH} (hs : s_X9_moveLane_113_b k75 k113 l0 l1 l2 l3 l4 l5 l6 l7 l8 h = some (r, h')) : Ev p l e { frames := 3, cells := mc, slots := ms, locals := 78 } s m args below meth c D B0 X ws0 r h' mc ms 10 mc ms 113 [some (.ref l0), some (.int l1), some (.int l2), some (.int l3), some (.int l4), some (.int l5), some (.int l6), some (.int l7), some (.int l8), none] [] h := by
  unfold s_X9_moveLane_113_b at hs
  refine ev_iload C rfl dX9_moveLane_113 ?_
  refine ev_aload_n C (x := .ref l0) rfl trivial dX9_moveLane_115 ?_
  obtain ⟨x116, e116, hs⟩ := aB hs
  refine ev_get C (ci := 9) (k := 0) rfl wu_9 (by decide) wf_X9_30 (gO_F e116) dX9_moveLane_116 ?_
  obtain ⟨x119, e119, hs⟩ := aB hs
  refine ev_getN C (ci := 2) (k := 12) rfl wu_2 (by decide) wg_X9_71 (gI_F e119) dX9_moveLane_119 ?_
  refine ev_icmp_ge C (tgt := 214) (by decide) dX9_moveLane_122 (fun q122 => ?_) (fun q122 => ?_)
  · replace hs := (if_pos q122).symm.trans hs
    refine ev_iinc C (i := 6) (n := 1) (x := l6) (v := l6 + 1) rfl (congrArg (fun z => l6 + z) (show Int32.ofInt 1 = 1 by decide)) (by decide) dX9_moveLane_214 ?_
    refine ev_goto C (tgt := 75) (by decide) dX9_moveLane_217 ?_
    exact Ev.keep [true, true, true, true, true, true, true, false, false, true] (K75 _ _ _ _ _ _ _ _ hs)
  · replace hs := (if_neg q122).symm.trans hs
    refine ev_aload_n C (x := .ref l0) rfl trivial dX9_moveLane_125 ?_
    obtain ⟨x126, e126, hs⟩ := aB hs
    refine ev_get C (ci := 9) (k := 8) rfl wu_9 (by decide) wf_X9_24 (gO_F e126) dX9_moveLane_126 ?_
    refine ev_iload_n C rfl dX9_moveLane_129 ?_
    refine ev_aload_n C (x := .ref l0) rfl trivial dX9_moveLane_130 ?_
    obtain ⟨x131, e131, hs⟩ := aB hs
    refine ev_get C (ci := 9) (k := 0) rfl wu_9 (by decide) wf_X9_30 (gO_F e131) dX9_moveLane_131 ?_
    obtain ⟨x134, e134, hs⟩ := aB hs
    refine ev_getN C (ci := 2) (k := 12) rfl wu_2 (by decide) wg_X9_71 (gI_F e134) dX9_moveLane_134 ?_
    refine ev_isub C dX9_moveLane_137 ?_
    refine ev_iload C rfl dX9_moveLane_138 ?_
    refine ev_iadd C dX9_moveLane_140 ?_
    obtain ⟨x141, e141, hs⟩ := aB hs
    refine ev_iald C e141 dX9_moveLane_141 ?_
    refine ev_iload C rfl dX9_moveLane_142 ?_
    refine ev_iand C dX9_moveLane_144 ?_
    refine ev_if_eq C (tgt := 208) (by decide) dX9_moveLane_145 (fun q145 => ?_) (fun q145 => ?_)
    · replace hs := (if_pos q145).symm.trans hs
      refine ev_iinc C (i := 8) (n := 1) (x := l8) (v := l8 + 1) rfl (congrArg (fun z => l8 + z) (show Int32.ofInt 1 = 1 by decide)) (by decide) dX9_moveLane_208 ?_
      refine ev_goto C (tgt := 113) (by decide) dX9_moveLane_211 ?_
      exact (K113 _ _ _ _ _ _ _ _ _ _ hs)
    · replace hs := (if_neg q145).symm.trans hs
      refine ev_aload_n C (x := .ref l0) rfl trivial dX9_moveLane_148 ?_
      obtain ⟨x149, e149, hs⟩ := aB hs
      refine ev_get C (ci := 9) (k := 1) rfl wu_9 (by decide) wf_X9_34 (gO_F e149) dX9_moveLane_149 ?_
      refine ev_iload C rfl dX9_moveLane_152 ?_
      refine ev_iload C rfl dX9_moveLane_154 ?_
      refine ev_iload C rfl dX9_moveLane_156 ?_
      obtain ⟨eo158, hs⟩ := kO_at hs
      obtain ⟨x158, h158, e158, hs⟩ := cI_at hs
      refine ev_callVN C (T_X3_leadOf _ _ _ _ _ _ _ e158) (ci := 3) rfl eo158 wc_X3_leadOf wn_X9_101 wi_X3_leadOf ws_X3_leadOf wz_X3 hy_X3_leadOf ⟨(Nat.le_of_ble_eq_true rfl), (Nat.le_of_ble_eq_true rfl)⟩ ⟨(Nat.le_refl _), (Nat.le_refl _)⟩ (Nat.le_of_ble_eq_true rfl) rfl dX9_moveLane_158 ?_
      refine ev_istore C (by decide) dX9_moveLane_161 ?_
      refine ev_iload C rfl dX9_moveLane_163 ?_
      refine ev_if_lt C (tgt := 208) (by decide) dX9_moveLane_165 (fun q165 => ?_) (fun q165 => ?_)
      · replace hs := (if_pos q165).symm.trans hs
        refine ev_iinc C (i := 8) (n := 1) (x := l8) (v := l8 + 1) rfl (congrArg (fun z => l8 + z) (show Int32.ofInt 1 = 1 by decide)) (by decide) dX9_moveLane_208 ?_
        refine ev_goto C (tgt := 113) (by decide) dX9_moveLane_211 ?_
        exact Ev.keep [true, true, true, true, true, true, true, true, true, false] (K113 _ _ _ _ _ _ _ _ _ _ hs)
      · replace hs := (if_neg q165).symm.trans hs
        refine ev_aload_n C (x := .ref l0) rfl trivial dX9_moveLane_168 ?_
        obtain ⟨x169, e169, hs⟩ := aB hs
        refine ev_get C (ci := 9) (k := 8) rfl wu_9 (by decide) wf_X9_24 (gO_F e169) dX9_moveLane_169 ?_
        refine ev_iload_n C rfl dX9_moveLane_172 ?_
        refine ev_iload C rfl dX9_moveLane_173 ?_
        refine ev_iadd C dX9_moveLane_175 ?_
        obtain ⟨x176, e176, hs⟩ := aB hs
        refine ev_iald C e176 dX9_moveLane_176 ?_
        refine ev_iload C rfl dX9_moveLane_177 ?_
        refine ev_iand C dX9_moveLane_179 ?_
        refine ev_if_ne C (tgt := 208) (by decide) dX9_moveLane_180 (fun q180 => ?_) (fun q180 => ?_)
        · replace hs := (if_neg q180).symm.trans hs
          refine ev_iinc C (i := 8) (n := 1) (x := l8) (v := l8 + 1) rfl (congrArg (fun z => l8 + z) (show Int32.ofInt 1 = 1 by decide)) (by decide) dX9_moveLane_208 ?_
          refine ev_goto C (tgt := 113) (by decide) dX9_moveLane_211 ?_
          exact Ev.keep [true, true, true, true, true, true, true, true, true, false] (K113 _ _ _ _ _ _ _ _ _ _ hs)
        · replace hs := (if_pos q180).symm.trans hs
          refine ev_aload_n C (x := .ref l0) rfl trivial dX9_moveLane_183 ?_
          refine ev_iload_n C rfl dX9_moveLane_184 ?_
          refine ev_iload C rfl dX9_moveLane_185 ?_
          refine ev_iload_n C rfl dX9_moveLane_187 ?_
          obtain ⟨eo188, hs⟩ := kO_at hs
          obtain ⟨x188, h188, e188, hs⟩ := cI_at hs
          refine ev_callV C (T_X9_agrees _ _ _ _ _ _ _ e188) (ci := 9) rfl eo188 wc_X9_agrees wm_X9_130 wi_X9_agrees ws_X9_agrees wz_X9 hy_X9_agrees ⟨(Nat.le_of_ble_eq_true rfl), (Nat.le_of_ble_eq_true rfl)⟩ ⟨(Nat.le_refl _), (Nat.le_refl _)⟩ (Nat.le_of_ble_eq_true rfl) rfl dX9_moveLane_188 ?_
          refine ev_if_eq C (tgt := 208) (by decide) dX9_moveLane_191 (fun q191 => ?_) (fun q191 => ?_)
          · replace hs := (if_pos q191).symm.trans hs
            refine ev_iinc C (i := 8) (n := 1) (x := l8) (v := l8 + 1) rfl (congrArg (fun z => l8 + z) (show Int32.ofInt 1 = 1 by decide)) (by decide) dX9_moveLane_208 ?_
            refine ev_goto C (tgt := 113) (by decide) dX9_moveLane_211 ?_
            exact Ev.keep [true, true, true, true, true, true, true, true, true, false] (K113 _ _ _ _ _ _ _ _ _ _ hs)
          · replace hs := (if_neg q191).symm.trans hs
            refine ev_aload_n C (x := .ref l0) rfl trivial dX9_moveLane_194 ?_
            obtain ⟨x195, e195, hs⟩ := aB hs
            refine ev_get C (ci := 9) (k := 8) rfl wu_9 (by decide) wf_X9_24 (gO_F e195) dX9_moveLane_195 ?_
            refine ev_iload_n C rfl dX9_moveLane_198 ?_
            refine ev_iload C rfl dX9_moveLane_199 ?_
            refine ev_iadd C dX9_moveLane_201 ?_
            refine ev_dup2 C rfl rfl dX9_moveLane_202 ?_
            obtain ⟨x203, e203, hs⟩ := aB hs
            refine ev_iald C e203 dX9_moveLane_203 ?_
            refine ev_iload C rfl dX9_moveLane_204 ?_
            refine ev_ior C dX9_moveLane_206 ?_
            obtain ⟨h207, e207, hs⟩ := aB hs
            refine ev_iast C e207 dX9_moveLane_207 ?_
            refine ev_iinc C (i := 8) (n := 1) (x := l8) (v := l8 + 1) rfl (congrArg (fun z => l8 + z) (show Int32.ofInt 1 = 1 by decide)) (by decide) dX9_moveLane_208 ?_
            refine ev_goto C (tgt := 113) (by decide) dX9_moveLane_211 ?_
            exact Ev.keep [true, true, true, true, true, true, true, true, true, false] (K113 _ _ _ _ _ _ _ _ _ _ hs)
theorem t_X9_moveLane_113 (C : Cx p l s m args meth c B0 X RX9 "moveLane" cX9_moveLane 10 none []) {k75 : Nat → Int32 → Int32 → Int32 → Int32 → Int32 → Int32 → aH → aO} (K75 : ∀ (l0 : Nat) (l1 : Int32) (l2 : Int32) (l3 : Int32) (l4 : Int32) (l5 : Int32) (l6 : Int32) (h : aH), k75 l0 l1 l2 l3 l4 l5 l6 h = some (r, h') → Ev p l e { frames := 3, cells := mc, slots := ms, locals := 78 } s m args below meth c D B0 X ws0 r h' mc ms 10 mc ms 75 [some (.ref l0), some (.int l1), some (.int l2), some (.int l3), some (.int l4), some (.int l5), some (.int l6), none, none, none] [] h) : ∀ (n : Nat) {l0 : Nat} {l1 : Int32} {l2 : Int32} {l3 : Int32} {l4 : Int32} {l5 : Int32} {l6 : Int32} {l7 : Int32} {l8 : Int32} {h : aH} (hs : s_X9_moveLane_113 k75 n l0 l1 l2 l3 l4 l5 l6 l7 l8 h = some (r, h')), Ev p l e { frames := 3, cells := mc, slots := ms, locals := 78 } s m args below meth c D B0 X ws0 r h' mc ms 10 mc ms 113 [some (.ref l0), some (.int l1), some (.int l2), some (.int l3), some (.int l4), some (.int l5), some (.int l6), some (.int l7), some (.int l8), none] [] h
  | 0, _, _, _, _, _, _, _, _, _, _, hs => nomatch hs
  | n + 1, _, _, _, _, _, _, _, _, _, _, hs => t_X9_moveLane_113_b C K75 (k113 := s_X9_moveLane_113 k75 n) (fun _ _ _ _ _ _ _ _ _ _ hs => t_X9_moveLane_113 C K75 n hs) hs
theorem t_X9_moveLane_75_b (C : Cx p l s m args meth c B0 X RX9 "moveLane" cX9_moveLane 10 none [])   {k75 : Nat → Int32 → Int32 → Int32 → Int32 → Int32 → Int32 → aH → aO} (K75 : ∀ (l0 : Nat) (l1 : Int32) (l2 : Int32) (l3 : Int32) (l4 : Int32) (l5 : Int32) (l6 : Int32) (h : aH), k75 l0 l1 l2 l3 l4 l5 l6 h = some (r, h') → Ev p l e { frames := 3, cells := mc, slots := ms, locals := 78 } s m args below meth c D B0 X ws0 r h' mc ms 10 mc ms 75 [some (.ref l0), some (.int l1), some (.int l2), some (.int l3), some (.int l4), some (.int l5), some (.int l6), none, none, none] [] h) {l0 : Nat} {l1 : Int32} {l2 : Int32} {l3 : Int32} {l4 : Int32} {l5 : Int32} {l6 : Int32} {h : aH} (hs : s_X9_moveLane_75_b  k75 l0 l1 l2 l3 l4 l5 l6 h = some (r, h')) : Ev p l e { frames := 3, cells := mc, slots := ms, locals := 78 } s m args below meth c D B0 X ws0 r h' mc ms 10 mc ms 75 [some (.ref l0), some (.int l1), some (.int l2), some (.int l3), some (.int l4), some (.int l5), some (.int l6), none, none, none] [] h := by
  unfold s_X9_moveLane_75_b at hs
  refine ev_iload C rfl dX9_moveLane_75 ?_
  refine ev_aload_n C (x := .ref l0) rfl trivial dX9_moveLane_77 ?_
  obtain ⟨x78, e78, hs⟩ := aB hs
  refine ev_get C (ci := 9) (k := 0) rfl wu_9 (by decide) wf_X9_30 (gO_F e78) dX9_moveLane_78 ?_
  obtain ⟨x81, e81, hs⟩ := aB hs
  refine ev_getN C (ci := 2) (k := 14) rfl wu_2 (by decide) wg_X9_141 (gI_F e81) dX9_moveLane_81 ?_
  refine ev_icmp_ge C (tgt := 220) (by decide) dX9_moveLane_84 (fun q84 => ?_) (fun q84 => ?_)
  · replace hs := (if_pos q84).symm.trans hs
    cases hs
    exact ev_vret C rfl rfl (Nat.le_refl _) (Nat.le_refl _) rfl dX9_moveLane_220
  · replace hs := (if_neg q84).symm.trans hs
    refine ev_aload_n C (x := .ref l0) rfl trivial dX9_moveLane_87 ?_
    obtain ⟨x88, e88, hs⟩ := aB hs
    refine ev_get C (ci := 9) (k := 0) rfl wu_9 (by decide) wf_X9_30 (gO_F e88) dX9_moveLane_88 ?_
    refine ev_iload C rfl dX9_moveLane_91 ?_
    refine ev_iconst C (v := 0) dX9_moveLane_93 (by decide) ?_
    refine ev_aload_n C (x := .ref l0) rfl trivial dX9_moveLane_94 ?_
    obtain ⟨x95, e95, hs⟩ := aB hs
    refine ev_get C (ci := 9) (k := 3) rfl wu_9 (by decide) wf_X9_9 (gO_F e95) dX9_moveLane_95 ?_
    obtain ⟨eo98, hs⟩ := kO_at hs
    obtain ⟨h98, e98, hs⟩ := cN_at hs
    refine ev_callVN C (T_X2_spreadWorld _ _ _ _ _ _ _ e98) (ci := 2) rfl eo98 wc_X2_spreadWorld wn_X9_144 wi_X2_spreadWorld ws_X2_spreadWorld wz_X2 hy_X2_spreadWorld ⟨(Nat.le_of_ble_eq_true rfl), (Nat.le_of_ble_eq_true rfl)⟩ ⟨(Nat.le_refl _), (Nat.le_refl _)⟩ (Nat.le_of_ble_eq_true rfl) rfl dX9_moveLane_98 ?_
    refine ev_iconst C (v := 1) dX9_moveLane_101 (by decide) ?_
    refine ev_iload C rfl dX9_moveLane_102 ?_
    refine ev_iload C rfl dX9_moveLane_104 ?_
    obtain ⟨n106, hs⟩ := nz_at hs
    refine ev_irem C n106 dX9_moveLane_106 ?_
    refine ev_ishl C dX9_moveLane_107 ?_
    refine ev_istore C (by decide) dX9_moveLane_108 ?_
    refine ev_iconst C (v := 0) dX9_moveLane_110 (by decide) ?_
    refine ev_istore C (by decide) dX9_moveLane_111 ?_
    exact (t_X9_moveLane_113 C K75 FU hs)
theorem t_X9_moveLane_75 (C : Cx p l s m args meth c B0 X RX9 "moveLane" cX9_moveLane 10 none [])   : ∀ (n : Nat) {l0 : Nat} {l1 : Int32} {l2 : Int32} {l3 : Int32} {l4 : Int32} {l5 : Int32} {l6 : Int32} {h : aH} (hs : s_X9_moveLane_75  n l0 l1 l2 l3 l4 l5 l6 h = some (r, h')), Ev p l e { frames := 3, cells := mc, slots := ms, locals := 78 } s m args below meth c D B0 X ws0 r h' mc ms 10 mc ms 75 [some (.ref l0), some (.int l1), some (.int l2), some (.int l3), some (.int l4), some (.int l5), some (.int l6), none, none, none] [] h
  | 0, _, _, _, _, _, _, _, _, hs => nomatch hs
  | n + 1, _, _, _, _, _, _, _, _, hs => t_X9_moveLane_75_b C  (k75 := s_X9_moveLane_75  n) (fun _ _ _ _ _ _ _ _ hs => t_X9_moveLane_75 C  n hs) hs
theorem t_X9_moveLane_44 (C : Cx p l s m args meth c B0 X RX9 "moveLane" cX9_moveLane 10 none [])   {l0 : Nat} {l1 : Int32} {l2 : Int32} {l3 : Int32} {l4 : Int32} {h : aH} (hs : s_X9_moveLane_44  l0 l1 l2 l3 l4 h = some (r, h')) : Ev p l e { frames := 3, cells := mc, slots := ms, locals := 78 } s m args below meth c D B0 X ws0 r h' mc ms 10 mc ms 44 [some (.ref l0), some (.int l1), some (.int l2), some (.int l3), some (.int l4), none, none, none, none, none] [] h := by
  unfold s_X9_moveLane_44 at hs
  refine ev_aload_n C (x := .ref l0) rfl trivial dX9_moveLane_44 ?_
  obtain ⟨x45, e45, hs⟩ := aB hs
  refine ev_get C (ci := 9) (k := 0) rfl wu_9 (by decide) wf_X9_30 (gO_F e45) dX9_moveLane_45 ?_
  refine ev_iconst C (v := 1) dX9_moveLane_48 (by decide) ?_
  refine ev_iload C rfl dX9_moveLane_49 ?_
  refine ev_iconst C (v := 0) dX9_moveLane_51 (by decide) ?_
  refine ev_aload_n C (x := .ref l0) rfl trivial dX9_moveLane_52 ?_
  obtain ⟨x53, e53, hs⟩ := aB hs
  refine ev_get C (ci := 9) (k := 3) rfl wu_9 (by decide) wf_X9_9 (gO_F e53) dX9_moveLane_53 ?_
  obtain ⟨eo56, hs⟩ := kO_at hs
  obtain ⟨h56, e56, hs⟩ := cN_at hs
  refine ev_callVN C (T_X2_spread _ _ _ _ _ _ _ _ e56) (ci := 2) rfl eo56 wc_X2_spread wn_X9_77 wi_X2_spread ws_X2_spread wz_X2 hy_X2_spread ⟨(Nat.le_of_ble_eq_true rfl), (Nat.le_of_ble_eq_true rfl)⟩ ⟨(Nat.le_refl _), (Nat.le_refl _)⟩ (Nat.le_of_ble_eq_true rfl) rfl dX9_moveLane_56 ?_
  refine ev_iconst C (v := 1) dX9_moveLane_59 (by decide) ?_
  refine ev_aload_n C (x := .ref l0) rfl trivial dX9_moveLane_60 ?_
  obtain ⟨x61, e61, hs⟩ := aB hs
  refine ev_get C (ci := 9) (k := 0) rfl wu_9 (by decide) wf_X9_30 (gO_F e61) dX9_moveLane_61 ?_
  obtain ⟨x64, e64, hs⟩ := aB hs
  refine ev_getN C (ci := 2) (k := 15) rfl wu_2 (by decide) wg_X9_98 (gI_F e64) dX9_moveLane_64 ?_
  refine ev_mmax C wm_X9_138 wt_mmax wz_J9 wc_mmax (Nat.le_of_ble_eq_true rfl) (Nat.le_of_ble_eq_true rfl) (Nat.le_refl _) (Nat.le_refl _) dX9_moveLane_67 ?_
  refine ev_istore C (by decide) dX9_moveLane_70 ?_
  refine ev_iconst C (v := 0) dX9_moveLane_72 (by decide) ?_
  refine ev_istore C (by decide) dX9_moveLane_73 ?_
  exact (t_X9_moveLane_75 C  FU hs)
theorem hy_X9_moveLane : yX9_moveLane.cls ≠ "java/lang/invoke/MethodHandle" ∧ yX9_moveLane.cls ≠ "java/lang/invoke/VarHandle" ∧ (parseMethodDescriptor yX9_moveLane.desc).map (fun d => d.parameters.length) = some 3 := by decide +kernel
theorem T_X9_moveLane (o : Nat) (a1 : Int32) (a2 : Int32) (a3 : Int32) (h : aH) (r : aR) (h' : aH) (hs : s_X9_moveLane o a1 a2 a3 h = some (r, h')) : Mt yX9_moveLane (Cond.code yX9_moveLane cX9_moveLane 10 none :: aTB) 3 78 0 0 [.ref o, .int a1, .int a2, .int a3] h r h' := by
  unfold s_X9_moveLane at hs
  refine Mt_of (k := 6) (by decide) rfl (fun p l e s m args below meth c D B0 X ws0 C => ?_)
  show Ev p l e { frames := 3, cells := 0, slots := 0, locals := 78 } s m args below meth c D B0 X ws0 r h' 0 0 10 0 0 0 [some (.ref o), some (.int a1), some (.int a2), some (.int a3), none, none, none, none, none, none] [] h
  refine ev_aload_n C (x := .ref o) rfl trivial dX9_moveLane_0 ?_
  obtain ⟨x1, e1, hs⟩ := aB hs
  refine ev_get C (ci := 9) (k := 5) rfl wu_9 (by decide) wf_X9_15 (gO_F e1) dX9_moveLane_1 ?_
  refine ev_iload_n C rfl dX9_moveLane_4 ?_
  obtain ⟨x5, e5, hs⟩ := aB hs
  refine ev_iald C e5 dX9_moveLane_5 ?_
  refine ev_istore C (by decide) dX9_moveLane_6 ?_
  refine ev_iload_n C rfl dX9_moveLane_8 ?_
  refine ev_iconst C (v := 1) dX9_moveLane_9 (by decide) ?_
  refine ev_icmp_lt C (tgt := 44) (by decide) dX9_moveLane_10 (fun q10 => ?_) (fun q10 => ?_)
  · replace hs := (if_pos q10).symm.trans hs
    exact (t_X9_moveLane_44 C  hs)
  · replace hs := (if_neg q10).symm.trans hs
    refine ev_iload_n C rfl dX9_moveLane_13 ?_
    refine ev_aload_n C (x := .ref o) rfl trivial dX9_moveLane_14 ?_
    obtain ⟨x15, e15, hs⟩ := aB hs
    refine ev_get C (ci := 9) (k := 0) rfl wu_9 (by decide) wf_X9_30 (gO_F e15) dX9_moveLane_15 ?_
    obtain ⟨x18, e18, hs⟩ := aB hs
    refine ev_getN C (ci := 2) (k := 0) rfl wu_2 (by decide) wg_X9_81 (gO_F e18) dX9_moveLane_18 ?_
    refine ev_iconst C (v := 1) dX9_moveLane_21 (by decide) ?_
    obtain ⟨x22, e22, hs⟩ := aB hs
    refine ev_iald C e22 dX9_moveLane_22 ?_
    refine ev_icmp_gt C (tgt := 44) (by decide) dX9_moveLane_23 (fun q23 => ?_) (fun q23 => ?_)
    · replace hs := (if_pos q23).symm.trans hs
      exact (t_X9_moveLane_44 C  hs)
    · replace hs := (if_neg q23).symm.trans hs
      refine ev_aload_n C (x := .ref o) rfl trivial dX9_moveLane_26 ?_
      obtain ⟨x27, e27, hs⟩ := aB hs
      refine ev_get C (ci := 9) (k := 0) rfl wu_9 (by decide) wf_X9_30 (gO_F e27) dX9_moveLane_27 ?_
      refine ev_iload C rfl dX9_moveLane_30 ?_
      refine ev_iload_n C rfl dX9_moveLane_32 ?_
      refine ev_iconst C (v := 1) dX9_moveLane_33 (by decide) ?_
      refine ev_isub C dX9_moveLane_34 ?_
      refine ev_aload_n C (x := .ref o) rfl trivial dX9_moveLane_35 ?_
      obtain ⟨x36, e36, hs⟩ := aB hs
      refine ev_get C (ci := 9) (k := 3) rfl wu_9 (by decide) wf_X9_9 (gO_F e36) dX9_moveLane_36 ?_
      obtain ⟨eo39, hs⟩ := kO_at hs
      obtain ⟨x39, h39, e39, hs⟩ := cI_at hs
      refine ev_callVN C (T_X2_failing _ _ _ _ _ _ _ e39) (ci := 2) rfl eo39 wc_X2_failing wn_X9_134 wi_X2_failing ws_X2_failing wz_X2 hy_X2_failing ⟨(Nat.le_of_ble_eq_true rfl), (Nat.le_of_ble_eq_true rfl)⟩ ⟨(Nat.le_refl _), (Nat.le_refl _)⟩ (Nat.le_of_ble_eq_true rfl) rfl dX9_moveLane_39 ?_
      refine ev_istore C (by decide) dX9_moveLane_42 ?_
      exact (t_X9_moveLane_44 C  hs)
end
-- X9_bring
theorem dX9_bring_0 : decode cX9_bring 0 = .ok (.aload_n 0, 1) := by decide +kernel
theorem dX9_bring_1 : decode cX9_bring 1 = .ok (.iload 4, 2) := by decide +kernel
theorem dX9_bring_3 : decode cX9_bring 3 = .ok (.putfield 106, 3) := by decide +kernel
theorem dX9_bring_6 : decode cX9_bring 6 = .ok (.aload_n 0, 1) := by decide +kernel
theorem dX9_bring_7 : decode cX9_bring 7 = .ok (.aload_n 0, 1) := by decide +kernel
theorem dX9_bring_8 : decode cX9_bring 8 = .ok (.getfield 24, 3) := by decide +kernel
theorem dX9_bring_11 : decode cX9_bring 11 = .ok (.sipush 186, 3) := by decide +kernel
theorem dX9_bring_14 : decode cX9_bring 14 = .ok (.aload_n 0, 1) := by decide +kernel
theorem dX9_bring_15 : decode cX9_bring 15 = .ok (.getfield 30, 3) := by decide +kernel
theorem dX9_bring_18 : decode cX9_bring 18 = .ok (.getfield 71, 3) := by decide +kernel
theorem dX9_bring_21 : decode cX9_bring 21 = .ok (.imul, 1) := by decide +kernel
theorem dX9_bring_22 : decode cX9_bring 22 = .ok (.invokestatic 109, 3) := by decide +kernel
theorem dX9_bring_25 : decode cX9_bring 25 = .ok (.putfield 24, 3) := by decide +kernel
theorem dX9_bring_28 : decode cX9_bring 28 = .ok (.aload_n 0, 1) := by decide +kernel
theorem dX9_bring_29 : decode cX9_bring 29 = .ok (.getfield 27, 3) := by decide +kernel
theorem dX9_bring_32 : decode cX9_bring 32 = .ok (.iload_n 1, 1) := by decide +kernel
theorem dX9_bring_33 : decode cX9_bring 33 = .ok (.iaload, 1) := by decide +kernel
theorem dX9_bring_34 : decode cX9_bring 34 = .ok (.iconst 1, 1) := by decide +kernel
theorem dX9_bring_35 : decode cX9_bring 35 = .ok (.iadd, 1) := by decide +kernel
theorem dX9_bring_36 : decode cX9_bring 36 = .ok (.istore 5, 2) := by decide +kernel
theorem dX9_bring_38 : decode cX9_bring 38 = .ok (.iload 5, 2) := by decide +kernel
theorem dX9_bring_40 : decode cX9_bring 40 = .ok (.iload_n 3, 1) := by decide +kernel
theorem dX9_bring_41 : decode cX9_bring 41 = .ok (.if_icmp .gt 70, 3) := by decide +kernel
theorem dX9_bring_44 : decode cX9_bring 44 = .ok (.aload_n 0, 1) := by decide +kernel
theorem dX9_bring_45 : decode cX9_bring 45 = .ok (.iload_n 1, 1) := by decide +kernel
theorem dX9_bring_46 : decode cX9_bring 46 = .ok (.iload 5, 2) := by decide +kernel
theorem dX9_bring_48 : decode cX9_bring 48 = .ok (.invokevirtual 68, 3) := by decide +kernel
theorem dX9_bring_51 : decode cX9_bring 51 = .ok (.istore 6, 2) := by decide +kernel
theorem dX9_bring_53 : decode cX9_bring 53 = .ok (.aload_n 0, 1) := by decide +kernel
theorem dX9_bring_54 : decode cX9_bring 54 = .ok (.getfield 24, 3) := by decide +kernel
theorem dX9_bring_57 : decode cX9_bring 57 = .ok (.iload 6, 2) := by decide +kernel
theorem dX9_bring_59 : decode cX9_bring 59 = .ok (.iload 6, 2) := by decide +kernel
theorem dX9_bring_61 : decode cX9_bring 61 = .ok (.aload_n 0, 1) := by decide +kernel
theorem dX9_bring_62 : decode cX9_bring 62 = .ok (.getfield 30, 3) := by decide +kernel
theorem dX9_bring_65 : decode cX9_bring 65 = .ok (.getfield 71, 3) := by decide +kernel
theorem dX9_bring_68 : decode cX9_bring 68 = .ok (.iadd, 1) := by decide +kernel
theorem dX9_bring_69 : decode cX9_bring 69 = .ok (.iconst 0, 1) := by decide +kernel
theorem dX9_bring_70 : decode cX9_bring 70 = .ok (.invokestatic 113, 3) := by decide +kernel
theorem dX9_bring_73 : decode cX9_bring 73 = .ok (.iload 5, 2) := by decide +kernel
theorem dX9_bring_75 : decode cX9_bring 75 = .ok (.ifCond .ne 13, 3) := by decide +kernel
theorem dX9_bring_78 : decode cX9_bring 78 = .ok (.aload_n 0, 1) := by decide +kernel
theorem dX9_bring_79 : decode cX9_bring 79 = .ok (.iload 6, 2) := by decide +kernel
theorem dX9_bring_81 : decode cX9_bring 81 = .ok (.iload_n 2, 1) := by decide +kernel
theorem dX9_bring_82 : decode cX9_bring 82 = .ok (.invokevirtual 116, 3) := by decide +kernel
theorem dX9_bring_85 : decode cX9_bring 85 = .ok (.goto 12, 3) := by decide +kernel
theorem dX9_bring_88 : decode cX9_bring 88 = .ok (.aload_n 0, 1) := by decide +kernel
theorem dX9_bring_89 : decode cX9_bring 89 = .ok (.iload 6, 2) := by decide +kernel
theorem dX9_bring_91 : decode cX9_bring 91 = .ok (.iload_n 2, 1) := by decide +kernel
theorem dX9_bring_92 : decode cX9_bring 92 = .ok (.iload 5, 2) := by decide +kernel
theorem dX9_bring_94 : decode cX9_bring 94 = .ok (.invokevirtual 120, 3) := by decide +kernel
theorem dX9_bring_97 : decode cX9_bring 97 = .ok (.aload_n 0, 1) := by decide +kernel
theorem dX9_bring_98 : decode cX9_bring 98 = .ok (.getfield 27, 3) := by decide +kernel
theorem dX9_bring_101 : decode cX9_bring 101 = .ok (.iload_n 1, 1) := by decide +kernel
theorem dX9_bring_102 : decode cX9_bring 102 = .ok (.iload 5, 2) := by decide +kernel
theorem dX9_bring_104 : decode cX9_bring 104 = .ok (.iastore, 1) := by decide +kernel
theorem dX9_bring_105 : decode cX9_bring 105 = .ok (.iinc 5 1, 3) := by decide +kernel
theorem dX9_bring_108 : decode cX9_bring 108 = .ok (.goto (-70), 3) := by decide +kernel
theorem dX9_bring_111 : decode cX9_bring 111 = .ok (.return_, 1) := by decide +kernel
def s_X9_bring_97 (k38 : Nat → Int32 → Int32 → Int32 → Int32 → aH → aO) (l0 : Nat) (l1 : Int32) (l2 : Int32) (l3 : Int32) (l5 : Int32) (h : aH) : aO :=
  (gO h (.ref l0) 9 9).bind fun x98 => (stI h (.ref x98) l1 l5).bind fun h104 => k38 l0 l1 l2 l3 (l5 + 1) h104
def s_X9_bring_38_b  (k38 : Nat → Int32 → Int32 → Int32 → Int32 → aH → aO) (l0 : Nat) (l1 : Int32) (l2 : Int32) (l3 : Int32) (l5 : Int32) (h : aH) : aO :=
  if l3 < l5 then (some (.inl none, h)) else (kO h l0 9 (cI (s_X9_startOf l0 l1 l5 h) fun x48 h48 => (gO h48 (.ref l0) 9 8).bind fun x54 => (gO h48 (.ref l0) 9 0).bind fun x62 => (gI h48 (.ref x62) 2 12).bind fun x65 => cN (s_J7_fill_fda19 x54 x48 (x48 + x65) 0 h48) fun h70 => if l5 = 0 then (kO h70 l0 9 (cN (s_X9_beginLane l0 x48 l2 h70) fun h82 => s_X9_bring_97 k38 l0 l1 l2 l3 l5 h82)) else (kO h70 l0 9 (cN (s_X9_moveLane l0 x48 l2 l5 h70) fun h94 => s_X9_bring_97 k38 l0 l1 l2 l3 l5 h94))))
def s_X9_bring_38  (n : Nat) : Nat → Int32 → Int32 → Int32 → Int32 → aH → aO := lpF (fun _ _ _ _ _ _ => none) (s_X9_bring_38_b ) n
def s_X9_bring (o : Nat) (a1 : Int32) (a2 : Int32) (a3 : Int32) (a4 : Int32) (h : aH) : aP :=
  (pF h (.ref o) 9 10 (.int a4)).bind fun h3 => (gO h3 (.ref o) 9 8).bind fun x8 => (gO h3 (.ref o) 9 0).bind fun x15 => (gI h3 (.ref x15) 2 12).bind fun x18 => dR (s_X11_longEnough x8 (186 * x18) h3) fun x22 h22 n22 y22 => ck (0 + n22) (0 + y22) (wC (0 + n22) (0 + y22) ((pF h22 (.ref o) 9 8 (.ref x22)).bind fun h25 => (gO h25 (.ref o) 9 9).bind fun x29 => (ldI .int h25 (.ref x29) a1).bind fun x33 => s_X9_bring_38 FU o a1 a2 a3 (x33 + 1) h25))
section
variable {p : Program} {l : Launch} {e : Env} {s : State} {m : MethodId} {args : Array Value} {below : List Frame} {meth : Method} {c : Code} {D : va_G} {B0 : Nat} {X : Nat → Nat} {ws0 : va_W} {r : aR} {h' : aH} {mc ms : Nat}
theorem t_X9_bring_97 (C : Cx p l s m args meth c B0 X RX9 "bring" cX9_bring 7 none []) {k38 : Nat → Int32 → Int32 → Int32 → Int32 → aH → aO} (K38 : ∀ (l0 : Nat) (l1 : Int32) (l2 : Int32) (l3 : Int32) (l5 : Int32) (h : aH), k38 l0 l1 l2 l3 l5 h = some (r, h') → Ev p l e { frames := 4, cells := mc, slots := ms, locals := 107 } s m args below meth c D B0 X ws0 r h' mc ms 7 mc ms 38 [some (.ref l0), some (.int l1), some (.int l2), some (.int l3), none, some (.int l5), none] [] h) {l0 : Nat} {l1 : Int32} {l2 : Int32} {l3 : Int32} {l5 : Int32} {h : aH} (hs : s_X9_bring_97 k38 l0 l1 l2 l3 l5 h = some (r, h')) : Ev p l e { frames := 4, cells := mc, slots := ms, locals := 107 } s m args below meth c D B0 X ws0 r h' mc ms 7 mc ms 97 [some (.ref l0), some (.int l1), some (.int l2), some (.int l3), none, some (.int l5), none] [] h := by
  unfold s_X9_bring_97 at hs
  refine ev_aload_n C (x := .ref l0) rfl trivial dX9_bring_97 ?_
  obtain ⟨x98, e98, hs⟩ := aB hs
  refine ev_get C (ci := 9) (k := 9) rfl wu_9 (by decide) wf_X9_27 (gO_F e98) dX9_bring_98 ?_
  refine ev_iload_n C rfl dX9_bring_101 ?_
  refine ev_iload C rfl dX9_bring_102 ?_
  obtain ⟨h104, e104, hs⟩ := aB hs
  refine ev_iast C e104 dX9_bring_104 ?_
  refine ev_iinc C (i := 5) (n := 1) (x := l5) (v := l5 + 1) rfl (congrArg (fun z => l5 + z) (show Int32.ofInt 1 = 1 by decide)) (by decide) dX9_bring_105 ?_
  refine ev_goto C (tgt := 38) (by decide) dX9_bring_108 ?_
  exact (K38 _ _ _ _ _ _ hs)
theorem t_X9_bring_38_b (C : Cx p l s m args meth c B0 X RX9 "bring" cX9_bring 7 none [])   {k38 : Nat → Int32 → Int32 → Int32 → Int32 → aH → aO} (K38 : ∀ (l0 : Nat) (l1 : Int32) (l2 : Int32) (l3 : Int32) (l5 : Int32) (h : aH), k38 l0 l1 l2 l3 l5 h = some (r, h') → Ev p l e { frames := 4, cells := mc, slots := ms, locals := 107 } s m args below meth c D B0 X ws0 r h' mc ms 7 mc ms 38 [some (.ref l0), some (.int l1), some (.int l2), some (.int l3), none, some (.int l5), none] [] h) {l0 : Nat} {l1 : Int32} {l2 : Int32} {l3 : Int32} {l5 : Int32} {h : aH} (hs : s_X9_bring_38_b  k38 l0 l1 l2 l3 l5 h = some (r, h')) : Ev p l e { frames := 4, cells := mc, slots := ms, locals := 107 } s m args below meth c D B0 X ws0 r h' mc ms 7 mc ms 38 [some (.ref l0), some (.int l1), some (.int l2), some (.int l3), none, some (.int l5), none] [] h := by
  unfold s_X9_bring_38_b at hs
  refine ev_iload C rfl dX9_bring_38 ?_
  refine ev_iload_n C rfl dX9_bring_40 ?_
  refine ev_icmp_gt C (tgt := 111) (by decide) dX9_bring_41 (fun q41 => ?_) (fun q41 => ?_)
  · replace hs := (if_pos q41).symm.trans hs
    cases hs
    exact ev_vret C rfl rfl (Nat.le_refl _) (Nat.le_refl _) rfl dX9_bring_111
  · replace hs := (if_neg q41).symm.trans hs
    refine ev_aload_n C (x := .ref l0) rfl trivial dX9_bring_44 ?_
    refine ev_iload_n C rfl dX9_bring_45 ?_
    refine ev_iload C rfl dX9_bring_46 ?_
    obtain ⟨eo48, hs⟩ := kO_at hs
    obtain ⟨x48, h48, e48, hs⟩ := cI_at hs
    refine ev_callV C (T_X9_startOf _ _ _ _ _ _ e48) (ci := 9) rfl eo48 wc_X9_startOf wm_X9_68 wi_X9_startOf ws_X9_startOf wz_X9 hy_X9_startOf ⟨(Nat.le_of_ble_eq_true rfl), (Nat.le_of_ble_eq_true rfl)⟩ ⟨(Nat.le_refl _), (Nat.le_refl _)⟩ (Nat.le_of_ble_eq_true rfl) rfl dX9_bring_48 ?_
    refine ev_istore C (by decide) dX9_bring_51 ?_
    refine ev_aload_n C (x := .ref l0) rfl trivial dX9_bring_53 ?_
    obtain ⟨x54, e54, hs⟩ := aB hs
    refine ev_get C (ci := 9) (k := 8) rfl wu_9 (by decide) wf_X9_24 (gO_F e54) dX9_bring_54 ?_
    refine ev_iload C rfl dX9_bring_57 ?_
    refine ev_iload C rfl dX9_bring_59 ?_
    refine ev_aload_n C (x := .ref l0) rfl trivial dX9_bring_61 ?_
    obtain ⟨x62, e62, hs⟩ := aB hs
    refine ev_get C (ci := 9) (k := 0) rfl wu_9 (by decide) wf_X9_30 (gO_F e62) dX9_bring_62 ?_
    obtain ⟨x65, e65, hs⟩ := aB hs
    refine ev_getN C (ci := 2) (k := 12) rfl wu_2 (by decide) wg_X9_71 (gI_F e65) dX9_bring_65 ?_
    refine ev_iadd C dX9_bring_68 ?_
    refine ev_iconst C (v := 0) dX9_bring_69 (by decide) ?_
    obtain ⟨h70, e70, hs⟩ := cN_at hs
    refine ev_callS C (T_J7_fill_fda19 _ _ _ _ _ _ _ e70) wc_J7_fill_fda19 wm_X9_113 wt_J7_fill_fda19 wz_J7 hy_J7_fill_fda19 ⟨(Nat.le_of_ble_eq_true rfl), (Nat.le_of_ble_eq_true rfl)⟩ ⟨(Nat.le_refl _), (Nat.le_refl _)⟩ (Nat.le_of_ble_eq_true rfl) rfl dX9_bring_70 ?_
    refine ev_iload C rfl dX9_bring_73 ?_
    refine ev_if_ne C (tgt := 88) (by decide) dX9_bring_75 (fun q75 => ?_) (fun q75 => ?_)
    · replace hs := (if_neg q75).symm.trans hs
      refine ev_aload_n C (x := .ref l0) rfl trivial dX9_bring_88 ?_
      refine ev_iload C rfl dX9_bring_89 ?_
      refine ev_iload_n C rfl dX9_bring_91 ?_
      refine ev_iload C rfl dX9_bring_92 ?_
      obtain ⟨eo94, hs⟩ := kO_at hs
      obtain ⟨h94, e94, hs⟩ := cN_at hs
      refine ev_callV C (T_X9_moveLane _ _ _ _ _ _ _ e94) (ci := 9) rfl eo94 wc_X9_moveLane wm_X9_120 wi_X9_moveLane ws_X9_moveLane wz_X9 hy_X9_moveLane ⟨(Nat.le_of_ble_eq_true rfl), (Nat.le_of_ble_eq_true rfl)⟩ ⟨(Nat.le_refl _), (Nat.le_refl _)⟩ (Nat.le_of_ble_eq_true rfl) rfl dX9_bring_94 ?_
      exact Ev.keep [true, true, true, true, true, true, false] (t_X9_bring_97 C K38 hs)
    · replace hs := (if_pos q75).symm.trans hs
      refine ev_aload_n C (x := .ref l0) rfl trivial dX9_bring_78 ?_
      refine ev_iload C rfl dX9_bring_79 ?_
      refine ev_iload_n C rfl dX9_bring_81 ?_
      obtain ⟨eo82, hs⟩ := kO_at hs
      obtain ⟨h82, e82, hs⟩ := cN_at hs
      refine ev_callV C (T_X9_beginLane _ _ _ _ _ _ e82) (ci := 9) rfl eo82 wc_X9_beginLane wm_X9_116 wi_X9_beginLane ws_X9_beginLane wz_X9 hy_X9_beginLane ⟨(Nat.le_of_ble_eq_true rfl), (Nat.le_of_ble_eq_true rfl)⟩ ⟨(Nat.le_refl _), (Nat.le_refl _)⟩ (Nat.le_of_ble_eq_true rfl) rfl dX9_bring_82 ?_
      refine ev_goto C (tgt := 97) (by decide) dX9_bring_85 ?_
      exact Ev.keep [true, true, true, true, true, true, false] (t_X9_bring_97 C K38 hs)
theorem t_X9_bring_38 (C : Cx p l s m args meth c B0 X RX9 "bring" cX9_bring 7 none [])   : ∀ (n : Nat) {l0 : Nat} {l1 : Int32} {l2 : Int32} {l3 : Int32} {l5 : Int32} {h : aH} (hs : s_X9_bring_38  n l0 l1 l2 l3 l5 h = some (r, h')), Ev p l e { frames := 4, cells := mc, slots := ms, locals := 107 } s m args below meth c D B0 X ws0 r h' mc ms 7 mc ms 38 [some (.ref l0), some (.int l1), some (.int l2), some (.int l3), none, some (.int l5), none] [] h
  | 0, _, _, _, _, _, _, hs => nomatch hs
  | n + 1, _, _, _, _, _, _, hs => t_X9_bring_38_b C  (k38 := s_X9_bring_38  n) (fun _ _ _ _ _ _ hs => t_X9_bring_38 C  n hs) hs
theorem hy_X9_bring : yX9_bring.cls ≠ "java/lang/invoke/MethodHandle" ∧ yX9_bring.cls ≠ "java/lang/invoke/VarHandle" ∧ (parseMethodDescriptor yX9_bring.desc).map (fun d => d.parameters.length) = some 4 := by decide +kernel
theorem T_X9_bring (o : Nat) (a1 : Int32) (a2 : Int32) (a3 : Int32) (a4 : Int32) (h : aH) (r : aR) (h' : aH) (mc ms : Nat) (hs : s_X9_bring o a1 a2 a3 a4 h = some (r, h', mc, ms)) : Mt yX9_bring (Cond.code yX9_bring cX9_bring 7 none :: aTB) 4 107 mc ms [.ref o, .int a1, .int a2, .int a3, .int a4] h r h' := by
  unfold s_X9_bring at hs
  refine Mt_of (k := 2) (by decide) rfl (fun p l e s m args below meth c D B0 X ws0 C => ?_)
  show Ev p l e { frames := 4, cells := mc, slots := ms, locals := 107 } s m args below meth c D B0 X ws0 r h' mc ms 7 0 0 0 [some (.ref o), some (.int a1), some (.int a2), some (.int a3), some (.int a4), none, none] [] h
  refine ev_aload_n C (x := .ref o) rfl trivial dX9_bring_0 ?_
  refine ev_iload C rfl dX9_bring_1 ?_
  obtain ⟨h3, e3, hs⟩ := aB hs
  refine ev_put C (ci := 9) (k := 10) rfl wu_9 (by decide) tyX9 tyX9_ok nmX9 wf_X9_106 rfl trivial e3 dX9_bring_3 ?_
  refine ev_aload_n C (x := .ref o) rfl trivial dX9_bring_6 ?_
  refine ev_aload_n C (x := .ref o) rfl trivial dX9_bring_7 ?_
  obtain ⟨x8, e8, hs⟩ := aB hs
  refine ev_get C (ci := 9) (k := 8) rfl wu_9 (by decide) wf_X9_24 (gO_F e8) dX9_bring_8 ?_
  refine ev_sipush C (v := 186) dX9_bring_11 (by decide) ?_
  refine ev_aload_n C (x := .ref o) rfl trivial dX9_bring_14 ?_
  obtain ⟨x15, e15, hs⟩ := aB hs
  refine ev_get C (ci := 9) (k := 0) rfl wu_9 (by decide) wf_X9_30 (gO_F e15) dX9_bring_15 ?_
  obtain ⟨x18, e18, hs⟩ := aB hs
  refine ev_getN C (ci := 2) (k := 12) rfl wu_2 (by decide) wg_X9_71 (gI_F e18) dX9_bring_18 ?_
  refine ev_imul C dX9_bring_21 ?_
  obtain ⟨x22, h22, n22, y22, e22, hs⟩ := dR_at hs
  obtain ⟨c22, z22, hs⟩ := ck_at hs
  refine ev_callSN C (T_X11_longEnough _ _ _ _ _ _ _ e22) wc_X11_longEnough wn_X9_109 wt_X11_longEnough wz_X11 hy_X11_longEnough ⟨(Nat.le_of_ble_eq_true rfl), (Nat.le_of_ble_eq_true rfl)⟩ ⟨c22, z22⟩ (Nat.le_of_ble_eq_true rfl) rfl dX9_bring_22 ?_
  obtain ⟨hw9, rfl, rfl⟩ := wC_at hs
  have hs := hw9
  obtain ⟨h25, e25, hs⟩ := aB hs
  refine ev_put C (ci := 9) (k := 8) rfl wu_9 (by decide) tyX9 tyX9_ok nmX9 wf_X9_24 rfl trivial e25 dX9_bring_25 ?_
  refine ev_aload_n C (x := .ref o) rfl trivial dX9_bring_28 ?_
  obtain ⟨x29, e29, hs⟩ := aB hs
  refine ev_get C (ci := 9) (k := 9) rfl wu_9 (by decide) wf_X9_27 (gO_F e29) dX9_bring_29 ?_
  refine ev_iload_n C rfl dX9_bring_32 ?_
  obtain ⟨x33, e33, hs⟩ := aB hs
  refine ev_iald C e33 dX9_bring_33 ?_
  refine ev_iconst C (v := 1) dX9_bring_34 (by decide) ?_
  refine ev_iadd C dX9_bring_35 ?_
  refine ev_istore C (by decide) dX9_bring_36 ?_
  exact Ev.keep [true, true, true, true, false, true, true] (t_X9_bring_38 C  FU hs)
end
-- X9_cellsIn
theorem dX9_cellsIn_0 : decode cX9_cellsIn 0 = .ok (.aload_n 0, 1) := by decide +kernel
theorem dX9_cellsIn_1 : decode cX9_cellsIn 1 = .ok (.iload_n 1, 1) := by decide +kernel
theorem dX9_cellsIn_2 : decode cX9_cellsIn 2 = .ok (.iload_n 2, 1) := by decide +kernel
theorem dX9_cellsIn_3 : decode cX9_cellsIn 3 = .ok (.invokevirtual 68, 3) := by decide +kernel
theorem dX9_cellsIn_6 : decode cX9_cellsIn 6 = .ok (.istore_n 3, 1) := by decide +kernel
theorem dX9_cellsIn_7 : decode cX9_cellsIn 7 = .ok (.iconst 0, 1) := by decide +kernel
theorem dX9_cellsIn_8 : decode cX9_cellsIn 8 = .ok (.istore 4, 2) := by decide +kernel
theorem dX9_cellsIn_10 : decode cX9_cellsIn 10 = .ok (.iconst 0, 1) := by decide +kernel
theorem dX9_cellsIn_11 : decode cX9_cellsIn 11 = .ok (.istore 5, 2) := by decide +kernel
theorem dX9_cellsIn_13 : decode cX9_cellsIn 13 = .ok (.iload 5, 2) := by decide +kernel
theorem dX9_cellsIn_15 : decode cX9_cellsIn 15 = .ok (.aload_n 0, 1) := by decide +kernel
theorem dX9_cellsIn_16 : decode cX9_cellsIn 16 = .ok (.getfield 30, 3) := by decide +kernel
theorem dX9_cellsIn_19 : decode cX9_cellsIn 19 = .ok (.getfield 71, 3) := by decide +kernel
theorem dX9_cellsIn_22 : decode cX9_cellsIn 22 = .ok (.if_icmp .ge 24, 3) := by decide +kernel
theorem dX9_cellsIn_25 : decode cX9_cellsIn 25 = .ok (.aload_n 0, 1) := by decide +kernel
theorem dX9_cellsIn_26 : decode cX9_cellsIn 26 = .ok (.getfield 24, 3) := by decide +kernel
theorem dX9_cellsIn_29 : decode cX9_cellsIn 29 = .ok (.iload_n 3, 1) := by decide +kernel
theorem dX9_cellsIn_30 : decode cX9_cellsIn 30 = .ok (.iload 5, 2) := by decide +kernel
theorem dX9_cellsIn_32 : decode cX9_cellsIn 32 = .ok (.iadd, 1) := by decide +kernel
theorem dX9_cellsIn_33 : decode cX9_cellsIn 33 = .ok (.iaload, 1) := by decide +kernel
theorem dX9_cellsIn_34 : decode cX9_cellsIn 34 = .ok (.ifCond .eq 6, 3) := by decide +kernel
theorem dX9_cellsIn_37 : decode cX9_cellsIn 37 = .ok (.iinc 4 1, 3) := by decide +kernel
theorem dX9_cellsIn_40 : decode cX9_cellsIn 40 = .ok (.iinc 5 1, 3) := by decide +kernel
theorem dX9_cellsIn_43 : decode cX9_cellsIn 43 = .ok (.goto (-30), 3) := by decide +kernel
theorem dX9_cellsIn_46 : decode cX9_cellsIn 46 = .ok (.iload 4, 2) := by decide +kernel
theorem dX9_cellsIn_48 : decode cX9_cellsIn 48 = .ok (.ireturn, 1) := by decide +kernel
def s_X9_cellsIn_13_b  (k13 : Nat → Int32 → Int32 → Int32 → aH → aO) (l0 : Nat) (l3 : Int32) (l4 : Int32) (l5 : Int32) (h : aH) : aO :=
  (gO h (.ref l0) 9 0).bind fun x16 => (gI h (.ref x16) 2 12).bind fun x19 => if x19 ≤ l5 then (some (.inl (some (.int l4)), h)) else ((gO h (.ref l0) 9 8).bind fun x26 => (ldI .int h (.ref x26) (l3 + l5)).bind fun x33 => if x33 = 0 then (k13 l0 l3 l4 (l5 + 1) h) else (k13 l0 l3 (l4 + 1) (l5 + 1) h))
def s_X9_cellsIn_13  (n : Nat) : Nat → Int32 → Int32 → Int32 → aH → aO := lpF (fun _ _ _ _ _ => none) (s_X9_cellsIn_13_b ) n
def s_X9_cellsIn (o : Nat) (a1 : Int32) (a2 : Int32) (h : aH) : aO :=
  kO h o 9 (cI (s_X9_startOf o a1 a2 h) fun x3 h3 => s_X9_cellsIn_13 FU o x3 0 0 h3)
section
variable {p : Program} {l : Launch} {e : Env} {s : State} {m : MethodId} {args : Array Value} {below : List Frame} {meth : Method} {c : Code} {D : va_G} {B0 : Nat} {X : Nat → Nat} {ws0 : va_W} {r : aR} {h' : aH} {mc ms : Nat}
theorem t_X9_cellsIn_13_b (C : Cx p l s m args meth c B0 X RX9 "cellsIn" cX9_cellsIn 6 (some .int) [])   {k13 : Nat → Int32 → Int32 → Int32 → aH → aO} (K13 : ∀ (l0 : Nat) (l3 : Int32) (l4 : Int32) (l5 : Int32) (h : aH), k13 l0 l3 l4 l5 h = some (r, h') → Ev p l e { frames := 1, cells := mc, slots := ms, locals := 22 } s m args below meth c D B0 X ws0 r h' mc ms 6 mc ms 13 [some (.ref l0), none, none, some (.int l3), some (.int l4), some (.int l5)] [] h) {l0 : Nat} {l3 : Int32} {l4 : Int32} {l5 : Int32} {h : aH} (hs : s_X9_cellsIn_13_b  k13 l0 l3 l4 l5 h = some (r, h')) : Ev p l e { frames := 1, cells := mc, slots := ms, locals := 22 } s m args below meth c D B0 X ws0 r h' mc ms 6 mc ms 13 [some (.ref l0), none, none, some (.int l3), some (.int l4), some (.int l5)] [] h := by
  unfold s_X9_cellsIn_13_b at hs
  refine ev_iload C rfl dX9_cellsIn_13 ?_
  refine ev_aload_n C (x := .ref l0) rfl trivial dX9_cellsIn_15 ?_
  obtain ⟨x16, e16, hs⟩ := aB hs
  refine ev_get C (ci := 9) (k := 0) rfl wu_9 (by decide) wf_X9_30 (gO_F e16) dX9_cellsIn_16 ?_
  obtain ⟨x19, e19, hs⟩ := aB hs
  refine ev_getN C (ci := 2) (k := 12) rfl wu_2 (by decide) wg_X9_71 (gI_F e19) dX9_cellsIn_19 ?_
  refine ev_icmp_ge C (tgt := 46) (by decide) dX9_cellsIn_22 (fun q22 => ?_) (fun q22 => ?_)
  · replace hs := (if_pos q22).symm.trans hs
    refine ev_iload C rfl dX9_cellsIn_46 ?_
    cases hs
    exact ev_iret C rfl rfl (Nat.le_refl _) (Nat.le_refl _) rfl dX9_cellsIn_48
  · replace hs := (if_neg q22).symm.trans hs
    refine ev_aload_n C (x := .ref l0) rfl trivial dX9_cellsIn_25 ?_
    obtain ⟨x26, e26, hs⟩ := aB hs
    refine ev_get C (ci := 9) (k := 8) rfl wu_9 (by decide) wf_X9_24 (gO_F e26) dX9_cellsIn_26 ?_
    refine ev_iload_n C rfl dX9_cellsIn_29 ?_
    refine ev_iload C rfl dX9_cellsIn_30 ?_
    refine ev_iadd C dX9_cellsIn_32 ?_
    obtain ⟨x33, e33, hs⟩ := aB hs
    refine ev_iald C e33 dX9_cellsIn_33 ?_
    refine ev_if_eq C (tgt := 40) (by decide) dX9_cellsIn_34 (fun q34 => ?_) (fun q34 => ?_)
    · replace hs := (if_pos q34).symm.trans hs
      refine ev_iinc C (i := 5) (n := 1) (x := l5) (v := l5 + 1) rfl (congrArg (fun z => l5 + z) (show Int32.ofInt 1 = 1 by decide)) (by decide) dX9_cellsIn_40 ?_
      refine ev_goto C (tgt := 13) (by decide) dX9_cellsIn_43 ?_
      exact (K13 _ _ _ _ _ hs)
    · replace hs := (if_neg q34).symm.trans hs
      refine ev_iinc C (i := 4) (n := 1) (x := l4) (v := l4 + 1) rfl (congrArg (fun z => l4 + z) (show Int32.ofInt 1 = 1 by decide)) (by decide) dX9_cellsIn_37 ?_
      refine ev_iinc C (i := 5) (n := 1) (x := l5) (v := l5 + 1) rfl (congrArg (fun z => l5 + z) (show Int32.ofInt 1 = 1 by decide)) (by decide) dX9_cellsIn_40 ?_
      refine ev_goto C (tgt := 13) (by decide) dX9_cellsIn_43 ?_
      exact (K13 _ _ _ _ _ hs)
theorem t_X9_cellsIn_13 (C : Cx p l s m args meth c B0 X RX9 "cellsIn" cX9_cellsIn 6 (some .int) [])   : ∀ (n : Nat) {l0 : Nat} {l3 : Int32} {l4 : Int32} {l5 : Int32} {h : aH} (hs : s_X9_cellsIn_13  n l0 l3 l4 l5 h = some (r, h')), Ev p l e { frames := 1, cells := mc, slots := ms, locals := 22 } s m args below meth c D B0 X ws0 r h' mc ms 6 mc ms 13 [some (.ref l0), none, none, some (.int l3), some (.int l4), some (.int l5)] [] h
  | 0, _, _, _, _, _, hs => nomatch hs
  | n + 1, _, _, _, _, _, hs => t_X9_cellsIn_13_b C  (k13 := s_X9_cellsIn_13  n) (fun _ _ _ _ _ hs => t_X9_cellsIn_13 C  n hs) hs
theorem hy_X9_cellsIn : yX9_cellsIn.cls ≠ "java/lang/invoke/MethodHandle" ∧ yX9_cellsIn.cls ≠ "java/lang/invoke/VarHandle" ∧ (parseMethodDescriptor yX9_cellsIn.desc).map (fun d => d.parameters.length) = some 2 := by decide +kernel
theorem T_X9_cellsIn (o : Nat) (a1 : Int32) (a2 : Int32) (h : aH) (r : aR) (h' : aH) (hs : s_X9_cellsIn o a1 a2 h = some (r, h')) : Mt yX9_cellsIn (Cond.code yX9_cellsIn cX9_cellsIn 6 (some .int) :: aTB) 1 22 0 0 [.ref o, .int a1, .int a2] h r h' := by
  unfold s_X9_cellsIn at hs
  refine Mt_of (k := 3) (by decide) rfl (fun p l e s m args below meth c D B0 X ws0 C => ?_)
  show Ev p l e { frames := 1, cells := 0, slots := 0, locals := 22 } s m args below meth c D B0 X ws0 r h' 0 0 6 0 0 0 [some (.ref o), some (.int a1), some (.int a2), none, none, none] [] h
  refine ev_aload_n C (x := .ref o) rfl trivial dX9_cellsIn_0 ?_
  refine ev_iload_n C rfl dX9_cellsIn_1 ?_
  refine ev_iload_n C rfl dX9_cellsIn_2 ?_
  obtain ⟨eo3, hs⟩ := kO_at hs
  obtain ⟨x3, h3, e3, hs⟩ := cI_at hs
  refine ev_callV C (T_X9_startOf _ _ _ _ _ _ e3) (ci := 9) rfl eo3 wc_X9_startOf wm_X9_68 wi_X9_startOf ws_X9_startOf wz_X9 hy_X9_startOf ⟨(Nat.le_of_ble_eq_true rfl), (Nat.le_of_ble_eq_true rfl)⟩ ⟨(Nat.le_refl _), (Nat.le_refl _)⟩ (Nat.le_of_ble_eq_true rfl) rfl dX9_cellsIn_3 ?_
  refine ev_istore_n C (by decide) dX9_cellsIn_6 ?_
  refine ev_iconst C (v := 0) dX9_cellsIn_7 (by decide) ?_
  refine ev_istore C (by decide) dX9_cellsIn_8 ?_
  refine ev_iconst C (v := 0) dX9_cellsIn_10 (by decide) ?_
  refine ev_istore C (by decide) dX9_cellsIn_11 ?_
  exact Ev.keep [true, false, false, true, true, true] (t_X9_cellsIn_13 C  FU hs)
end
-- X9_cellsBy
theorem dX9_cellsBy_0 : decode cX9_cellsBy 0 = .ok (.aload_n 0, 1) := by decide +kernel
theorem dX9_cellsBy_1 : decode cX9_cellsBy 1 = .ok (.iload_n 1, 1) := by decide +kernel
theorem dX9_cellsBy_2 : decode cX9_cellsBy 2 = .ok (.iload_n 1, 1) := by decide +kernel
theorem dX9_cellsBy_3 : decode cX9_cellsBy 3 = .ok (.aload_n 0, 1) := by decide +kernel
theorem dX9_cellsBy_4 : decode cX9_cellsBy 4 = .ok (.getfield 42, 3) := by decide +kernel
theorem dX9_cellsBy_7 : decode cX9_cellsBy 7 = .ok (.bipush 30, 2) := by decide +kernel
theorem dX9_cellsBy_9 : decode cX9_cellsBy 9 = .ok (.invokevirtual 61, 3) := by decide +kernel
theorem dX9_cellsBy_12 : decode cX9_cellsBy 12 = .ok (.aload_n 0, 1) := by decide +kernel
theorem dX9_cellsBy_13 : decode cX9_cellsBy 13 = .ok (.iload_n 1, 1) := by decide +kernel
theorem dX9_cellsBy_14 : decode cX9_cellsBy 14 = .ok (.aload_n 0, 1) := by decide +kernel
theorem dX9_cellsBy_15 : decode cX9_cellsBy 15 = .ok (.getfield 42, 3) := by decide +kernel
theorem dX9_cellsBy_18 : decode cX9_cellsBy 18 = .ok (.invokevirtual 65, 3) := by decide +kernel
theorem dX9_cellsBy_21 : decode cX9_cellsBy 21 = .ok (.ireturn, 1) := by decide +kernel
def s_X9_cellsBy (o : Nat) (a1 : Int32) (h : aH) : aP :=
  (gI h (.ref o) 9 4).bind fun x4 => kO h o 9 (dN (s_X9_bring o a1 a1 x4 30 h) fun h9 n9 y9 => ck (0 + n9) (0 + y9) (wC (0 + n9) (0 + y9) ((gI h9 (.ref o) 9 4).bind fun x15 => kO h9 o 9 (cI (s_X9_cellsIn o a1 x15 h9) fun x18 h18 => some (.inl (some (.int x18)), h18)))))
section
variable {p : Program} {l : Launch} {e : Env} {s : State} {m : MethodId} {args : Array Value} {below : List Frame} {meth : Method} {c : Code} {D : va_G} {B0 : Nat} {X : Nat → Nat} {ws0 : va_W} {r : aR} {h' : aH} {mc ms : Nat}
theorem hy_X9_cellsBy : yX9_cellsBy.cls ≠ "java/lang/invoke/MethodHandle" ∧ yX9_cellsBy.cls ≠ "java/lang/invoke/VarHandle" ∧ (parseMethodDescriptor yX9_cellsBy.desc).map (fun d => d.parameters.length) = some 1 := by decide +kernel
theorem T_X9_cellsBy (o : Nat) (a1 : Int32) (h : aH) (r : aR) (h' : aH) (mc ms : Nat) (hs : s_X9_cellsBy o a1 h = some (r, h', mc, ms)) : Mt yX9_cellsBy (Cond.code yX9_cellsBy cX9_cellsBy 2 (some .int) :: aTB) 5 133 mc ms [.ref o, .int a1] h r h' := by
  unfold s_X9_cellsBy at hs
  refine Mt_of (k := 0) (by decide) rfl (fun p l e s m args below meth c D B0 X ws0 C => ?_)
  show Ev p l e { frames := 5, cells := mc, slots := ms, locals := 133 } s m args below meth c D B0 X ws0 r h' mc ms 2 0 0 0 [some (.ref o), some (.int a1)] [] h
  refine ev_aload_n C (x := .ref o) rfl trivial dX9_cellsBy_0 ?_
  refine ev_iload_n C rfl dX9_cellsBy_1 ?_
  refine ev_iload_n C rfl dX9_cellsBy_2 ?_
  refine ev_aload_n C (x := .ref o) rfl trivial dX9_cellsBy_3 ?_
  obtain ⟨x4, e4, hs⟩ := aB hs
  refine ev_get C (ci := 9) (k := 4) rfl wu_9 (by decide) wf_X9_42 (gI_F e4) dX9_cellsBy_4 ?_
  refine ev_bipush C (v := 30) dX9_cellsBy_7 (by decide) ?_
  obtain ⟨eo9, hs⟩ := kO_at hs
  obtain ⟨h9, n9, y9, e9, hs⟩ := dN_at hs
  obtain ⟨c9, z9, hs⟩ := ck_at hs
  refine ev_callV C (T_X9_bring _ _ _ _ _ _ _ _ _ _ e9) (ci := 9) rfl eo9 wc_X9_bring wm_X9_61 wi_X9_bring ws_X9_bring wz_X9 hy_X9_bring ⟨(Nat.le_of_ble_eq_true rfl), (Nat.le_of_ble_eq_true rfl)⟩ ⟨c9, z9⟩ (Nat.le_of_ble_eq_true rfl) rfl dX9_cellsBy_9 ?_
  obtain ⟨hw9, rfl, rfl⟩ := wC_at hs
  have hs := hw9
  refine ev_aload_n C (x := .ref o) rfl trivial dX9_cellsBy_12 ?_
  refine ev_iload_n C rfl dX9_cellsBy_13 ?_
  refine ev_aload_n C (x := .ref o) rfl trivial dX9_cellsBy_14 ?_
  obtain ⟨x15, e15, hs⟩ := aB hs
  refine ev_get C (ci := 9) (k := 4) rfl wu_9 (by decide) wf_X9_42 (gI_F e15) dX9_cellsBy_15 ?_
  obtain ⟨eo18, hs⟩ := kO_at hs
  obtain ⟨x18, h18, e18, hs⟩ := cI_at hs
  refine ev_callV C (T_X9_cellsIn _ _ _ _ _ _ e18) (ci := 9) rfl eo18 wc_X9_cellsIn wm_X9_65 wi_X9_cellsIn ws_X9_cellsIn wz_X9 hy_X9_cellsIn ⟨(Nat.le_of_ble_eq_true rfl), (Nat.le_of_ble_eq_true rfl)⟩ ⟨(Nat.le_refl _), (Nat.le_refl _)⟩ (Nat.le_of_ble_eq_true rfl) rfl dX9_cellsBy_18 ?_
  cases hs
  exact ev_iret C rfl rfl (Nat.le_refl _) (Nat.le_refl _) rfl dX9_cellsBy_21
end
-- X9_cellsAsKnown
theorem dX9_cellsAsKnown_0 : decode cX9_cellsAsKnown 0 = .ok (.aload_n 0, 1) := by decide +kernel
theorem dX9_cellsAsKnown_1 : decode cX9_cellsAsKnown 1 = .ok (.getfield 27, 3) := by decide +kernel
theorem dX9_cellsAsKnown_4 : decode cX9_cellsAsKnown 4 = .ok (.iconst 5, 1) := by decide +kernel
theorem dX9_cellsAsKnown_5 : decode cX9_cellsAsKnown 5 = .ok (.iconst (-1), 1) := by decide +kernel
theorem dX9_cellsAsKnown_6 : decode cX9_cellsAsKnown 6 = .ok (.iastore, 1) := by decide +kernel
theorem dX9_cellsAsKnown_7 : decode cX9_cellsAsKnown 7 = .ok (.aload_n 0, 1) := by decide +kernel
theorem dX9_cellsAsKnown_8 : decode cX9_cellsAsKnown 8 = .ok (.iconst 5, 1) := by decide +kernel
theorem dX9_cellsAsKnown_9 : decode cX9_cellsAsKnown 9 = .ok (.iconst 0, 1) := by decide +kernel
theorem dX9_cellsAsKnown_10 : decode cX9_cellsAsKnown 10 = .ok (.iload_n 1, 1) := by decide +kernel
theorem dX9_cellsAsKnown_11 : decode cX9_cellsAsKnown 11 = .ok (.iload_n 1, 1) := by decide +kernel
theorem dX9_cellsAsKnown_12 : decode cX9_cellsAsKnown 12 = .ok (.invokevirtual 61, 3) := by decide +kernel
theorem dX9_cellsAsKnown_15 : decode cX9_cellsAsKnown 15 = .ok (.aload_n 0, 1) := by decide +kernel
theorem dX9_cellsAsKnown_16 : decode cX9_cellsAsKnown 16 = .ok (.iconst 5, 1) := by decide +kernel
theorem dX9_cellsAsKnown_17 : decode cX9_cellsAsKnown 17 = .ok (.iload_n 1, 1) := by decide +kernel
theorem dX9_cellsAsKnown_18 : decode cX9_cellsAsKnown 18 = .ok (.invokevirtual 65, 3) := by decide +kernel
theorem dX9_cellsAsKnown_21 : decode cX9_cellsAsKnown 21 = .ok (.ireturn, 1) := by decide +kernel
def s_X9_cellsAsKnown (o : Nat) (a1 : Int32) (h : aH) : aP :=
  (gO h (.ref o) 9 9).bind fun x1 => (stI h (.ref x1) 5 (-1)).bind fun h6 => kO h6 o 9 (dN (s_X9_bring o 5 0 a1 a1 h6) fun h12 n12 y12 => ck (0 + n12) (0 + y12) (wC (0 + n12) (0 + y12) (kO h12 o 9 (cI (s_X9_cellsIn o 5 a1 h12) fun x18 h18 => some (.inl (some (.int x18)), h18)))))
section
variable {p : Program} {l : Launch} {e : Env} {s : State} {m : MethodId} {args : Array Value} {below : List Frame} {meth : Method} {c : Code} {D : va_G} {B0 : Nat} {X : Nat → Nat} {ws0 : va_W} {r : aR} {h' : aH} {mc ms : Nat}
theorem hy_X9_cellsAsKnown : yX9_cellsAsKnown.cls ≠ "java/lang/invoke/MethodHandle" ∧ yX9_cellsAsKnown.cls ≠ "java/lang/invoke/VarHandle" ∧ (parseMethodDescriptor yX9_cellsAsKnown.desc).map (fun d => d.parameters.length) = some 1 := by decide +kernel
theorem T_X9_cellsAsKnown (o : Nat) (a1 : Int32) (h : aH) (r : aR) (h' : aH) (mc ms : Nat) (hs : s_X9_cellsAsKnown o a1 h = some (r, h', mc, ms)) : Mt yX9_cellsAsKnown (Cond.code yX9_cellsAsKnown cX9_cellsAsKnown 2 (some .int) :: aTB) 5 133 mc ms [.ref o, .int a1] h r h' := by
  unfold s_X9_cellsAsKnown at hs
  refine Mt_of (k := 0) (by decide) rfl (fun p l e s m args below meth c D B0 X ws0 C => ?_)
  show Ev p l e { frames := 5, cells := mc, slots := ms, locals := 133 } s m args below meth c D B0 X ws0 r h' mc ms 2 0 0 0 [some (.ref o), some (.int a1)] [] h
  refine ev_aload_n C (x := .ref o) rfl trivial dX9_cellsAsKnown_0 ?_
  obtain ⟨x1, e1, hs⟩ := aB hs
  refine ev_get C (ci := 9) (k := 9) rfl wu_9 (by decide) wf_X9_27 (gO_F e1) dX9_cellsAsKnown_1 ?_
  refine ev_iconst C (v := 5) dX9_cellsAsKnown_4 (by decide) ?_
  refine ev_iconst C (v := (-1)) dX9_cellsAsKnown_5 (by decide) ?_
  obtain ⟨h6, e6, hs⟩ := aB hs
  refine ev_iast C e6 dX9_cellsAsKnown_6 ?_
  refine ev_aload_n C (x := .ref o) rfl trivial dX9_cellsAsKnown_7 ?_
  refine ev_iconst C (v := 5) dX9_cellsAsKnown_8 (by decide) ?_
  refine ev_iconst C (v := 0) dX9_cellsAsKnown_9 (by decide) ?_
  refine ev_iload_n C rfl dX9_cellsAsKnown_10 ?_
  refine ev_iload_n C rfl dX9_cellsAsKnown_11 ?_
  obtain ⟨eo12, hs⟩ := kO_at hs
  obtain ⟨h12, n12, y12, e12, hs⟩ := dN_at hs
  obtain ⟨c12, z12, hs⟩ := ck_at hs
  refine ev_callV C (T_X9_bring _ _ _ _ _ _ _ _ _ _ e12) (ci := 9) rfl eo12 wc_X9_bring wm_X9_61 wi_X9_bring ws_X9_bring wz_X9 hy_X9_bring ⟨(Nat.le_of_ble_eq_true rfl), (Nat.le_of_ble_eq_true rfl)⟩ ⟨c12, z12⟩ (Nat.le_of_ble_eq_true rfl) rfl dX9_cellsAsKnown_12 ?_
  obtain ⟨hw9, rfl, rfl⟩ := wC_at hs
  have hs := hw9
  refine ev_aload_n C (x := .ref o) rfl trivial dX9_cellsAsKnown_15 ?_
  refine ev_iconst C (v := 5) dX9_cellsAsKnown_16 (by decide) ?_
  refine ev_iload_n C rfl dX9_cellsAsKnown_17 ?_
  obtain ⟨eo18, hs⟩ := kO_at hs
  obtain ⟨x18, h18, e18, hs⟩ := cI_at hs
  refine ev_callV C (T_X9_cellsIn _ _ _ _ _ _ e18) (ci := 9) rfl eo18 wc_X9_cellsIn wm_X9_65 wi_X9_cellsIn ws_X9_cellsIn wz_X9 hy_X9_cellsIn ⟨(Nat.le_of_ble_eq_true rfl), (Nat.le_of_ble_eq_true rfl)⟩ ⟨(Nat.le_refl _), (Nat.le_refl _)⟩ (Nat.le_of_ble_eq_true rfl) rfl dX9_cellsAsKnown_18 ?_
  cases hs
  exact ev_iret C rfl rfl (Nat.le_refl _) (Nat.le_refl _) rfl dX9_cellsAsKnown_21
end
-- X9_mayBe
theorem dX9_mayBe_0 : decode cX9_mayBe 0 = .ok (.aload_n 0, 1) := by decide +kernel
theorem dX9_mayBe_1 : decode cX9_mayBe 1 = .ok (.iconst 0, 1) := by decide +kernel
theorem dX9_mayBe_2 : decode cX9_mayBe 2 = .ok (.iconst 0, 1) := by decide +kernel
theorem dX9_mayBe_3 : decode cX9_mayBe 3 = .ok (.aload_n 0, 1) := by decide +kernel
theorem dX9_mayBe_4 : decode cX9_mayBe 4 = .ok (.getfield 42, 3) := by decide +kernel
theorem dX9_mayBe_7 : decode cX9_mayBe 7 = .ok (.bipush 30, 2) := by decide +kernel
theorem dX9_mayBe_9 : decode cX9_mayBe 9 = .ok (.invokevirtual 61, 3) := by decide +kernel
theorem dX9_mayBe_12 : decode cX9_mayBe 12 = .ok (.aload_n 0, 1) := by decide +kernel
theorem dX9_mayBe_13 : decode cX9_mayBe 13 = .ok (.getfield 24, 3) := by decide +kernel
theorem dX9_mayBe_16 : decode cX9_mayBe 16 = .ok (.aload_n 0, 1) := by decide +kernel
theorem dX9_mayBe_17 : decode cX9_mayBe 17 = .ok (.iconst 0, 1) := by decide +kernel
theorem dX9_mayBe_18 : decode cX9_mayBe 18 = .ok (.aload_n 0, 1) := by decide +kernel
theorem dX9_mayBe_19 : decode cX9_mayBe 19 = .ok (.getfield 42, 3) := by decide +kernel
theorem dX9_mayBe_22 : decode cX9_mayBe 22 = .ok (.invokevirtual 68, 3) := by decide +kernel
theorem dX9_mayBe_25 : decode cX9_mayBe 25 = .ok (.iload_n 1, 1) := by decide +kernel
theorem dX9_mayBe_26 : decode cX9_mayBe 26 = .ok (.iadd, 1) := by decide +kernel
theorem dX9_mayBe_27 : decode cX9_mayBe 27 = .ok (.iaload, 1) := by decide +kernel
theorem dX9_mayBe_28 : decode cX9_mayBe 28 = .ok (.ifCond .eq 7, 3) := by decide +kernel
theorem dX9_mayBe_31 : decode cX9_mayBe 31 = .ok (.iconst 1, 1) := by decide +kernel
theorem dX9_mayBe_32 : decode cX9_mayBe 32 = .ok (.goto 4, 3) := by decide +kernel
theorem dX9_mayBe_35 : decode cX9_mayBe 35 = .ok (.iconst 0, 1) := by decide +kernel
theorem dX9_mayBe_36 : decode cX9_mayBe 36 = .ok (.ireturn, 1) := by decide +kernel
def s_X9_mayBe (o : Nat) (a1 : Int32) (h : aH) : aP :=
  (gI h (.ref o) 9 4).bind fun x4 => kO h o 9 (dN (s_X9_bring o 0 0 x4 30 h) fun h9 n9 y9 => ck (0 + n9) (0 + y9) (wC (0 + n9) (0 + y9) ((gO h9 (.ref o) 9 8).bind fun x13 => (gI h9 (.ref o) 9 4).bind fun x19 => kO h9 o 9 (cI (s_X9_startOf o 0 x19 h9) fun x22 h22 => (ldI .int h22 (.ref x13) (x22 + a1)).bind fun x27 => if x27 = 0 then (rtZ 0 h22) else (rtZ 1 h22)))))
section
variable {p : Program} {l : Launch} {e : Env} {s : State} {m : MethodId} {args : Array Value} {below : List Frame} {meth : Method} {c : Code} {D : va_G} {B0 : Nat} {X : Nat → Nat} {ws0 : va_W} {r : aR} {h' : aH} {mc ms : Nat}
theorem hy_X9_mayBe : yX9_mayBe.cls ≠ "java/lang/invoke/MethodHandle" ∧ yX9_mayBe.cls ≠ "java/lang/invoke/VarHandle" ∧ (parseMethodDescriptor yX9_mayBe.desc).map (fun d => d.parameters.length) = some 1 := by decide +kernel
theorem T_X9_mayBe (o : Nat) (a1 : Int32) (h : aH) (r : aR) (h' : aH) (mc ms : Nat) (hs : s_X9_mayBe o a1 h = some (r, h', mc, ms)) : Mt yX9_mayBe (Cond.code yX9_mayBe cX9_mayBe 2 (some .boolean) :: aTB) 5 133 mc ms [.ref o, .int a1] h r h' := by
  unfold s_X9_mayBe at hs
  refine Mt_of (k := 0) (by decide) rfl (fun p l e s m args below meth c D B0 X ws0 C => ?_)
  show Ev p l e { frames := 5, cells := mc, slots := ms, locals := 133 } s m args below meth c D B0 X ws0 r h' mc ms 2 0 0 0 [some (.ref o), some (.int a1)] [] h
  refine ev_aload_n C (x := .ref o) rfl trivial dX9_mayBe_0 ?_
  refine ev_iconst C (v := 0) dX9_mayBe_1 (by decide) ?_
  refine ev_iconst C (v := 0) dX9_mayBe_2 (by decide) ?_
  refine ev_aload_n C (x := .ref o) rfl trivial dX9_mayBe_3 ?_
  obtain ⟨x4, e4, hs⟩ := aB hs
  refine ev_get C (ci := 9) (k := 4) rfl wu_9 (by decide) wf_X9_42 (gI_F e4) dX9_mayBe_4 ?_
  refine ev_bipush C (v := 30) dX9_mayBe_7 (by decide) ?_
  obtain ⟨eo9, hs⟩ := kO_at hs
  obtain ⟨h9, n9, y9, e9, hs⟩ := dN_at hs
  obtain ⟨c9, z9, hs⟩ := ck_at hs
  refine ev_callV C (T_X9_bring _ _ _ _ _ _ _ _ _ _ e9) (ci := 9) rfl eo9 wc_X9_bring wm_X9_61 wi_X9_bring ws_X9_bring wz_X9 hy_X9_bring ⟨(Nat.le_of_ble_eq_true rfl), (Nat.le_of_ble_eq_true rfl)⟩ ⟨c9, z9⟩ (Nat.le_of_ble_eq_true rfl) rfl dX9_mayBe_9 ?_
  obtain ⟨hw9, rfl, rfl⟩ := wC_at hs
  have hs := hw9
  refine ev_aload_n C (x := .ref o) rfl trivial dX9_mayBe_12 ?_
  obtain ⟨x13, e13, hs⟩ := aB hs
  refine ev_get C (ci := 9) (k := 8) rfl wu_9 (by decide) wf_X9_24 (gO_F e13) dX9_mayBe_13 ?_
  refine ev_aload_n C (x := .ref o) rfl trivial dX9_mayBe_16 ?_
  refine ev_iconst C (v := 0) dX9_mayBe_17 (by decide) ?_
  refine ev_aload_n C (x := .ref o) rfl trivial dX9_mayBe_18 ?_
  obtain ⟨x19, e19, hs⟩ := aB hs
  refine ev_get C (ci := 9) (k := 4) rfl wu_9 (by decide) wf_X9_42 (gI_F e19) dX9_mayBe_19 ?_
  obtain ⟨eo22, hs⟩ := kO_at hs
  obtain ⟨x22, h22, e22, hs⟩ := cI_at hs
  refine ev_callV C (T_X9_startOf _ _ _ _ _ _ e22) (ci := 9) rfl eo22 wc_X9_startOf wm_X9_68 wi_X9_startOf ws_X9_startOf wz_X9 hy_X9_startOf ⟨(Nat.le_of_ble_eq_true rfl), (Nat.le_of_ble_eq_true rfl)⟩ ⟨(Nat.le_refl _), (Nat.le_refl _)⟩ (Nat.le_of_ble_eq_true rfl) rfl dX9_mayBe_22 ?_
  refine ev_iload_n C rfl dX9_mayBe_25 ?_
  refine ev_iadd C dX9_mayBe_26 ?_
  obtain ⟨x27, e27, hs⟩ := aB hs
  refine ev_iald C e27 dX9_mayBe_27 ?_
  refine ev_if_eq C (tgt := 35) (by decide) dX9_mayBe_28 (fun q28 => ?_) (fun q28 => ?_)
  · replace hs := (if_pos q28).symm.trans hs
    refine ev_iconst C (v := 0) dX9_mayBe_35 (by decide) ?_
    obtain ⟨hz, rfl, rfl⟩ := rtZ_at hs
    exact ev_zret C rfl hz rfl (Nat.le_refl _) (Nat.le_refl _) rfl dX9_mayBe_36
  · replace hs := (if_neg q28).symm.trans hs
    refine ev_iconst C (v := 1) dX9_mayBe_31 (by decide) ?_
    refine ev_goto C (tgt := 36) (by decide) dX9_mayBe_32 ?_
    obtain ⟨hz, rfl, rfl⟩ := rtZ_at hs
    exact ev_zret C rfl hz rfl (Nat.le_refl _) (Nat.le_refl _) rfl dX9_mayBe_36
end
-- X9_bound
theorem dX9_bound_0 : decode cX9_bound 0 = .ok (.aload_n 0, 1) := by decide +kernel
theorem dX9_bound_1 : decode cX9_bound 1 = .ok (.iconst 0, 1) := by decide +kernel
theorem dX9_bound_2 : decode cX9_bound 2 = .ok (.iconst 0, 1) := by decide +kernel
theorem dX9_bound_3 : decode cX9_bound 3 = .ok (.aload_n 0, 1) := by decide +kernel
theorem dX9_bound_4 : decode cX9_bound 4 = .ok (.getfield 42, 3) := by decide +kernel
theorem dX9_bound_7 : decode cX9_bound 7 = .ok (.bipush 30, 2) := by decide +kernel
theorem dX9_bound_9 : decode cX9_bound 9 = .ok (.invokevirtual 61, 3) := by decide +kernel
theorem dX9_bound_12 : decode cX9_bound 12 = .ok (.ldc 76, 2) := by decide +kernel
theorem dX9_bound_14 : decode cX9_bound 14 = .ok (.istore_n 3, 1) := by decide +kernel
theorem dX9_bound_15 : decode cX9_bound 15 = .ok (.iconst 0, 1) := by decide +kernel
theorem dX9_bound_16 : decode cX9_bound 16 = .ok (.istore 4, 2) := by decide +kernel
theorem dX9_bound_18 : decode cX9_bound 18 = .ok (.iload 4, 2) := by decide +kernel
theorem dX9_bound_20 : decode cX9_bound 20 = .ok (.aload_n 0, 1) := by decide +kernel
theorem dX9_bound_21 : decode cX9_bound 21 = .ok (.getfield 30, 3) := by decide +kernel
theorem dX9_bound_24 : decode cX9_bound 24 = .ok (.getfield 71, 3) := by decide +kernel
theorem dX9_bound_27 : decode cX9_bound 27 = .ok (.if_icmp .ge 97, 3) := by decide +kernel
theorem dX9_bound_30 : decode cX9_bound 30 = .ok (.aload_n 0, 1) := by decide +kernel
theorem dX9_bound_31 : decode cX9_bound 31 = .ok (.getfield 24, 3) := by decide +kernel
theorem dX9_bound_34 : decode cX9_bound 34 = .ok (.aload_n 0, 1) := by decide +kernel
theorem dX9_bound_35 : decode cX9_bound 35 = .ok (.iconst 0, 1) := by decide +kernel
theorem dX9_bound_36 : decode cX9_bound 36 = .ok (.aload_n 0, 1) := by decide +kernel
theorem dX9_bound_37 : decode cX9_bound 37 = .ok (.getfield 42, 3) := by decide +kernel
theorem dX9_bound_40 : decode cX9_bound 40 = .ok (.invokevirtual 68, 3) := by decide +kernel
theorem dX9_bound_43 : decode cX9_bound 43 = .ok (.iload 4, 2) := by decide +kernel
theorem dX9_bound_45 : decode cX9_bound 45 = .ok (.iadd, 1) := by decide +kernel
theorem dX9_bound_46 : decode cX9_bound 46 = .ok (.iaload, 1) := by decide +kernel
theorem dX9_bound_47 : decode cX9_bound 47 = .ok (.ifCond .eq 71, 3) := by decide +kernel
theorem dX9_bound_50 : decode cX9_bound 50 = .ok (.aload_n 0, 1) := by decide +kernel
theorem dX9_bound_51 : decode cX9_bound 51 = .ok (.getfield 30, 3) := by decide +kernel
theorem dX9_bound_54 : decode cX9_bound 54 = .ok (.iconst 0, 1) := by decide +kernel
theorem dX9_bound_55 : decode cX9_bound 55 = .ok (.iload 4, 2) := by decide +kernel
theorem dX9_bound_57 : decode cX9_bound 57 = .ok (.iconst 0, 1) := by decide +kernel
theorem dX9_bound_58 : decode cX9_bound 58 = .ok (.aload_n 0, 1) := by decide +kernel
theorem dX9_bound_59 : decode cX9_bound 59 = .ok (.getfield 9, 3) := by decide +kernel
theorem dX9_bound_62 : decode cX9_bound 62 = .ok (.invokevirtual 77, 3) := by decide +kernel
theorem dX9_bound_65 : decode cX9_bound 65 = .ok (.aload_n 0, 1) := by decide +kernel
theorem dX9_bound_66 : decode cX9_bound 66 = .ok (.getfield 9, 3) := by decide +kernel
theorem dX9_bound_69 : decode cX9_bound 69 = .ok (.iload_n 1, 1) := by decide +kernel
theorem dX9_bound_70 : decode cX9_bound 70 = .ok (.iaload, 1) := by decide +kernel
theorem dX9_bound_71 : decode cX9_bound 71 = .ok (.istore 5, 2) := by decide +kernel
theorem dX9_bound_73 : decode cX9_bound 73 = .ok (.iload_n 2, 1) := by decide +kernel
theorem dX9_bound_74 : decode cX9_bound 74 = .ok (.ifCond .eq 17, 3) := by decide +kernel
theorem dX9_bound_77 : decode cX9_bound 77 = .ok (.iload 5, 2) := by decide +kernel
theorem dX9_bound_79 : decode cX9_bound 79 = .ok (.iload_n 3, 1) := by decide +kernel
theorem dX9_bound_80 : decode cX9_bound 80 = .ok (.if_icmp .le 7, 3) := by decide +kernel
theorem dX9_bound_83 : decode cX9_bound 83 = .ok (.iconst 1, 1) := by decide +kernel
theorem dX9_bound_84 : decode cX9_bound 84 = .ok (.goto 18, 3) := by decide +kernel
theorem dX9_bound_87 : decode cX9_bound 87 = .ok (.iconst 0, 1) := by decide +kernel
theorem dX9_bound_88 : decode cX9_bound 88 = .ok (.goto 14, 3) := by decide +kernel
theorem dX9_bound_91 : decode cX9_bound 91 = .ok (.iload 5, 2) := by decide +kernel
theorem dX9_bound_93 : decode cX9_bound 93 = .ok (.iload_n 3, 1) := by decide +kernel
theorem dX9_bound_94 : decode cX9_bound 94 = .ok (.if_icmp .ge 7, 3) := by decide +kernel
theorem dX9_bound_97 : decode cX9_bound 97 = .ok (.iconst 1, 1) := by decide +kernel
theorem dX9_bound_98 : decode cX9_bound 98 = .ok (.goto 4, 3) := by decide +kernel
theorem dX9_bound_101 : decode cX9_bound 101 = .ok (.iconst 0, 1) := by decide +kernel
theorem dX9_bound_102 : decode cX9_bound 102 = .ok (.istore 6, 2) := by decide +kernel
theorem dX9_bound_104 : decode cX9_bound 104 = .ok (.iload_n 3, 1) := by decide +kernel
theorem dX9_bound_105 : decode cX9_bound 105 = .ok (.ldc 76, 2) := by decide +kernel
theorem dX9_bound_107 : decode cX9_bound 107 = .ok (.if_icmp .eq 8, 3) := by decide +kernel
theorem dX9_bound_110 : decode cX9_bound 110 = .ok (.iload 6, 2) := by decide +kernel
theorem dX9_bound_112 : decode cX9_bound 112 = .ok (.ifCond .eq 6, 3) := by decide +kernel
theorem dX9_bound_115 : decode cX9_bound 115 = .ok (.iload 5, 2) := by decide +kernel
theorem dX9_bound_117 : decode cX9_bound 117 = .ok (.istore_n 3, 1) := by decide +kernel
theorem dX9_bound_118 : decode cX9_bound 118 = .ok (.iinc 4 1, 3) := by decide +kernel
theorem dX9_bound_121 : decode cX9_bound 121 = .ok (.goto (-103), 3) := by decide +kernel
theorem dX9_bound_124 : decode cX9_bound 124 = .ok (.iload_n 3, 1) := by decide +kernel
theorem dX9_bound_125 : decode cX9_bound 125 = .ok (.ireturn, 1) := by decide +kernel
def s_X9_bound_115 (k18 : Nat → Int32 → Int32 → Int32 → Int32 → aH → aO) (l0 : Nat) (l1 : Int32) (l2 : Int32) (l4 : Int32) (l5 : Int32) (h : aH) : aO :=
  k18 l0 l1 l2 l5 (l4 + 1) h
def s_X9_bound_102 (k18 : Nat → Int32 → Int32 → Int32 → Int32 → aH → aO) (l0 : Nat) (l1 : Int32) (l2 : Int32) (l3 : Int32) (l4 : Int32) (l5 : Int32) (s0 : Int32) (h : aH) : aO :=
  if l3 = (-2147483648) then (s_X9_bound_115 k18 l0 l1 l2 l4 l5 h) else (if s0 = 0 then (k18 l0 l1 l2 l3 (l4 + 1) h) else (s_X9_bound_115 k18 l0 l1 l2 l4 l5 h))
def s_X9_bound_18_b  (k18 : Nat → Int32 → Int32 → Int32 → Int32 → aH → aO) (l0 : Nat) (l1 : Int32) (l2 : Int32) (l3 : Int32) (l4 : Int32) (h : aH) : aO :=
  (gO h (.ref l0) 9 0).bind fun x21 => (gI h (.ref x21) 2 12).bind fun x24 => if x24 ≤ l4 then (some (.inl (some (.int l3)), h)) else ((gO h (.ref l0) 9 8).bind fun x31 => (gI h (.ref l0) 9 4).bind fun x37 => kO h l0 9 (cI (s_X9_startOf l0 0 x37 h) fun x40 h40 => (ldI .int h40 (.ref x31) (x40 + l4)).bind fun x46 => if x46 = 0 then (k18 l0 l1 l2 l3 (l4 + 1) h40) else ((gO h40 (.ref l0) 9 0).bind fun x51 => (gO h40 (.ref l0) 9 3).bind fun x59 => kO h40 x51 2 (cN (s_X2_spread x51 0 l4 0 x59 h40) fun h62 => (gO h62 (.ref l0) 9 3).bind fun x66 => (ldI .int h62 (.ref x66) l1).bind fun x70 => if l2 = 0 then (if l3 ≤ x70 then (s_X9_bound_102 k18 l0 l1 l2 l3 l4 x70 0 h62) else (s_X9_bound_102 k18 l0 l1 l2 l3 l4 x70 1 h62)) else (if x70 ≤ l3 then (s_X9_bound_102 k18 l0 l1 l2 l3 l4 x70 0 h62) else (s_X9_bound_102 k18 l0 l1 l2 l3 l4 x70 1 h62))))))
def s_X9_bound_18  (n : Nat) : Nat → Int32 → Int32 → Int32 → Int32 → aH → aO := lpF (fun _ _ _ _ _ _ => none) (s_X9_bound_18_b ) n
def s_X9_bound (o : Nat) (a1 : Int32) (a2 : Int32) (h : aH) : aP :=
  (gI h (.ref o) 9 4).bind fun x4 => kO h o 9 (dN (s_X9_bring o 0 0 x4 30 h) fun h9 n9 y9 => ck (0 + n9) (0 + y9) (wC (0 + n9) (0 + y9) (s_X9_bound_18 FU o a1 a2 (-2147483648) 0 h9)))
section
variable {p : Program} {l : Launch} {e : Env} {s : State} {m : MethodId} {args : Array Value} {below : List Frame} {meth : Method} {c : Code} {D : va_G} {B0 : Nat} {X : Nat → Nat} {ws0 : va_W} {r : aR} {h' : aH} {mc ms : Nat}
theorem t_X9_bound_115 (C : Cx p l s m args meth c B0 X RX9 "bound" cX9_bound 7 (some .int) []) {k18 : Nat → Int32 → Int32 → Int32 → Int32 → aH → aO} (K18 : ∀ (l0 : Nat) (l1 : Int32) (l2 : Int32) (l3 : Int32) (l4 : Int32) (h : aH), k18 l0 l1 l2 l3 l4 h = some (r, h') → Ev p l e { frames := 5, cells := mc, slots := ms, locals := 133 } s m args below meth c D B0 X ws0 r h' mc ms 7 mc ms 18 [some (.ref l0), some (.int l1), some (.int l2), some (.int l3), some (.int l4), none, none] [] h) {l0 : Nat} {l1 : Int32} {l2 : Int32} {l4 : Int32} {l5 : Int32} {h : aH} (hs : s_X9_bound_115 k18 l0 l1 l2 l4 l5 h = some (r, h')) : Ev p l e { frames := 5, cells := mc, slots := ms, locals := 133 } s m args below meth c D B0 X ws0 r h' mc ms 7 mc ms 115 [some (.ref l0), some (.int l1), some (.int l2), none, some (.int l4), some (.int l5), none] [] h := by
  unfold s_X9_bound_115 at hs
  refine ev_iload C rfl dX9_bound_115 ?_
  refine ev_istore_n C (by decide) dX9_bound_117 ?_
  refine ev_iinc C (i := 4) (n := 1) (x := l4) (v := l4 + 1) rfl (congrArg (fun z => l4 + z) (show Int32.ofInt 1 = 1 by decide)) (by decide) dX9_bound_118 ?_
  refine ev_goto C (tgt := 18) (by decide) dX9_bound_121 ?_
  exact Ev.keep [true, true, true, true, true, false, true] (K18 _ _ _ _ _ _ hs)
theorem t_X9_bound_102 (C : Cx p l s m args meth c B0 X RX9 "bound" cX9_bound 7 (some .int) []) {k18 : Nat → Int32 → Int32 → Int32 → Int32 → aH → aO} (K18 : ∀ (l0 : Nat) (l1 : Int32) (l2 : Int32) (l3 : Int32) (l4 : Int32) (h : aH), k18 l0 l1 l2 l3 l4 h = some (r, h') → Ev p l e { frames := 5, cells := mc, slots := ms, locals := 133 } s m args below meth c D B0 X ws0 r h' mc ms 7 mc ms 18 [some (.ref l0), some (.int l1), some (.int l2), some (.int l3), some (.int l4), none, none] [] h) {l0 : Nat} {l1 : Int32} {l2 : Int32} {l3 : Int32} {l4 : Int32} {l5 : Int32} {s0 : Int32} {h : aH} (hs : s_X9_bound_102 k18 l0 l1 l2 l3 l4 l5 s0 h = some (r, h')) : Ev p l e { frames := 5, cells := mc, slots := ms, locals := 133 } s m args below meth c D B0 X ws0 r h' mc ms 7 mc ms 102 [some (.ref l0), some (.int l1), some (.int l2), some (.int l3), some (.int l4), some (.int l5), none] [.int s0] h := by
  unfold s_X9_bound_102 at hs
  refine ev_istore C (by decide) dX9_bound_102 ?_
  refine ev_iload_n C rfl dX9_bound_104 ?_
  refine ev_ldc C wv_X9_76 dX9_bound_105 ?_
  refine ev_icmp_eq C (tgt := 115) (by decide) dX9_bound_107 (fun q107 => ?_) (fun q107 => ?_)
  · replace hs := (if_pos q107).symm.trans hs
    exact Ev.keep [true, true, true, false, true, true, false] (t_X9_bound_115 C K18 hs)
  · replace hs := (if_neg q107).symm.trans hs
    refine ev_iload C rfl dX9_bound_110 ?_
    refine ev_if_eq C (tgt := 118) (by decide) dX9_bound_112 (fun q112 => ?_) (fun q112 => ?_)
    · replace hs := (if_pos q112).symm.trans hs
      refine ev_iinc C (i := 4) (n := 1) (x := l4) (v := l4 + 1) rfl (congrArg (fun z => l4 + z) (show Int32.ofInt 1 = 1 by decide)) (by decide) dX9_bound_118 ?_
      refine ev_goto C (tgt := 18) (by decide) dX9_bound_121 ?_
      exact Ev.keep [true, true, true, true, true, false, false] (K18 _ _ _ _ _ _ hs)
    · replace hs := (if_neg q112).symm.trans hs
      exact Ev.keep [true, true, true, false, true, true, false] (t_X9_bound_115 C K18 hs)
theorem t_X9_bound_18_b (C : Cx p l s m args meth c B0 X RX9 "bound" cX9_bound 7 (some .int) [])   {k18 : Nat → Int32 → Int32 → Int32 → Int32 → aH → aO} (K18 : ∀ (l0 : Nat) (l1 : Int32) (l2 : Int32) (l3 : Int32) (l4 : Int32) (h : aH), k18 l0 l1 l2 l3 l4 h = some (r, h') → Ev p l e { frames := 5, cells := mc, slots := ms, locals := 133 } s m args below meth c D B0 X ws0 r h' mc ms 7 mc ms 18 [some (.ref l0), some (.int l1), some (.int l2), some (.int l3), some (.int l4), none, none] [] h) {l0 : Nat} {l1 : Int32} {l2 : Int32} {l3 : Int32} {l4 : Int32} {h : aH} (hs : s_X9_bound_18_b  k18 l0 l1 l2 l3 l4 h = some (r, h')) : Ev p l e { frames := 5, cells := mc, slots := ms, locals := 133 } s m args below meth c D B0 X ws0 r h' mc ms 7 mc ms 18 [some (.ref l0), some (.int l1), some (.int l2), some (.int l3), some (.int l4), none, none] [] h := by
  unfold s_X9_bound_18_b at hs
  refine ev_iload C rfl dX9_bound_18 ?_
  refine ev_aload_n C (x := .ref l0) rfl trivial dX9_bound_20 ?_
  obtain ⟨x21, e21, hs⟩ := aB hs
  refine ev_get C (ci := 9) (k := 0) rfl wu_9 (by decide) wf_X9_30 (gO_F e21) dX9_bound_21 ?_
  obtain ⟨x24, e24, hs⟩ := aB hs
  refine ev_getN C (ci := 2) (k := 12) rfl wu_2 (by decide) wg_X9_71 (gI_F e24) dX9_bound_24 ?_
  refine ev_icmp_ge C (tgt := 124) (by decide) dX9_bound_27 (fun q27 => ?_) (fun q27 => ?_)
  · replace hs := (if_pos q27).symm.trans hs
    refine ev_iload_n C rfl dX9_bound_124 ?_
    cases hs
    exact ev_iret C rfl rfl (Nat.le_refl _) (Nat.le_refl _) rfl dX9_bound_125
  · replace hs := (if_neg q27).symm.trans hs
    refine ev_aload_n C (x := .ref l0) rfl trivial dX9_bound_30 ?_
    obtain ⟨x31, e31, hs⟩ := aB hs
    refine ev_get C (ci := 9) (k := 8) rfl wu_9 (by decide) wf_X9_24 (gO_F e31) dX9_bound_31 ?_
    refine ev_aload_n C (x := .ref l0) rfl trivial dX9_bound_34 ?_
    refine ev_iconst C (v := 0) dX9_bound_35 (by decide) ?_
    refine ev_aload_n C (x := .ref l0) rfl trivial dX9_bound_36 ?_
    obtain ⟨x37, e37, hs⟩ := aB hs
    refine ev_get C (ci := 9) (k := 4) rfl wu_9 (by decide) wf_X9_42 (gI_F e37) dX9_bound_37 ?_
    obtain ⟨eo40, hs⟩ := kO_at hs
    obtain ⟨x40, h40, e40, hs⟩ := cI_at hs
    refine ev_callV C (T_X9_startOf _ _ _ _ _ _ e40) (ci := 9) rfl eo40 wc_X9_startOf wm_X9_68 wi_X9_startOf ws_X9_startOf wz_X9 hy_X9_startOf ⟨(Nat.le_of_ble_eq_true rfl), (Nat.le_of_ble_eq_true rfl)⟩ ⟨(Nat.le_refl _), (Nat.le_refl _)⟩ (Nat.le_of_ble_eq_true rfl) rfl dX9_bound_40 ?_
    refine ev_iload C rfl dX9_bound_43 ?_
    refine ev_iadd C dX9_bound_45 ?_
    obtain ⟨x46, e46, hs⟩ := aB hs
    refine ev_iald C e46 dX9_bound_46 ?_
    refine ev_if_eq C (tgt := 118) (by decide) dX9_bound_47 (fun q47 => ?_) (fun q47 => ?_)
    · replace hs := (if_pos q47).symm.trans hs
      refine ev_iinc C (i := 4) (n := 1) (x := l4) (v := l4 + 1) rfl (congrArg (fun z => l4 + z) (show Int32.ofInt 1 = 1 by decide)) (by decide) dX9_bound_118 ?_
      refine ev_goto C (tgt := 18) (by decide) dX9_bound_121 ?_
      exact (K18 _ _ _ _ _ _ hs)
    · replace hs := (if_neg q47).symm.trans hs
      refine ev_aload_n C (x := .ref l0) rfl trivial dX9_bound_50 ?_
      obtain ⟨x51, e51, hs⟩ := aB hs
      refine ev_get C (ci := 9) (k := 0) rfl wu_9 (by decide) wf_X9_30 (gO_F e51) dX9_bound_51 ?_
      refine ev_iconst C (v := 0) dX9_bound_54 (by decide) ?_
      refine ev_iload C rfl dX9_bound_55 ?_
      refine ev_iconst C (v := 0) dX9_bound_57 (by decide) ?_
      refine ev_aload_n C (x := .ref l0) rfl trivial dX9_bound_58 ?_
      obtain ⟨x59, e59, hs⟩ := aB hs
      refine ev_get C (ci := 9) (k := 3) rfl wu_9 (by decide) wf_X9_9 (gO_F e59) dX9_bound_59 ?_
      obtain ⟨eo62, hs⟩ := kO_at hs
      obtain ⟨h62, e62, hs⟩ := cN_at hs
      refine ev_callVN C (T_X2_spread _ _ _ _ _ _ _ _ e62) (ci := 2) rfl eo62 wc_X2_spread wn_X9_77 wi_X2_spread ws_X2_spread wz_X2 hy_X2_spread ⟨(Nat.le_of_ble_eq_true rfl), (Nat.le_of_ble_eq_true rfl)⟩ ⟨(Nat.le_refl _), (Nat.le_refl _)⟩ (Nat.le_of_ble_eq_true rfl) rfl dX9_bound_62 ?_
      refine ev_aload_n C (x := .ref l0) rfl trivial dX9_bound_65 ?_
      obtain ⟨x66, e66, hs⟩ := aB hs
      refine ev_get C (ci := 9) (k := 3) rfl wu_9 (by decide) wf_X9_9 (gO_F e66) dX9_bound_66 ?_
      refine ev_iload_n C rfl dX9_bound_69 ?_
      obtain ⟨x70, e70, hs⟩ := aB hs
      refine ev_iald C e70 dX9_bound_70 ?_
      refine ev_istore C (by decide) dX9_bound_71 ?_
      refine ev_iload_n C rfl dX9_bound_73 ?_
      refine ev_if_eq C (tgt := 91) (by decide) dX9_bound_74 (fun q74 => ?_) (fun q74 => ?_)
      · replace hs := (if_pos q74).symm.trans hs
        refine ev_iload C rfl dX9_bound_91 ?_
        refine ev_iload_n C rfl dX9_bound_93 ?_
        refine ev_icmp_ge C (tgt := 101) (by decide) dX9_bound_94 (fun q94 => ?_) (fun q94 => ?_)
        · replace hs := (if_pos q94).symm.trans hs
          refine ev_iconst C (v := 0) dX9_bound_101 (by decide) ?_
          exact (t_X9_bound_102 C K18 hs)
        · replace hs := (if_neg q94).symm.trans hs
          refine ev_iconst C (v := 1) dX9_bound_97 (by decide) ?_
          refine ev_goto C (tgt := 102) (by decide) dX9_bound_98 ?_
          exact (t_X9_bound_102 C K18 hs)
      · replace hs := (if_neg q74).symm.trans hs
        refine ev_iload C rfl dX9_bound_77 ?_
        refine ev_iload_n C rfl dX9_bound_79 ?_
        refine ev_icmp_le C (tgt := 87) (by decide) dX9_bound_80 (fun q80 => ?_) (fun q80 => ?_)
        · replace hs := (if_pos q80).symm.trans hs
          refine ev_iconst C (v := 0) dX9_bound_87 (by decide) ?_
          refine ev_goto C (tgt := 102) (by decide) dX9_bound_88 ?_
          exact (t_X9_bound_102 C K18 hs)
        · replace hs := (if_neg q80).symm.trans hs
          refine ev_iconst C (v := 1) dX9_bound_83 (by decide) ?_
          refine ev_goto C (tgt := 102) (by decide) dX9_bound_84 ?_
          exact (t_X9_bound_102 C K18 hs)
theorem t_X9_bound_18 (C : Cx p l s m args meth c B0 X RX9 "bound" cX9_bound 7 (some .int) [])   : ∀ (n : Nat) {l0 : Nat} {l1 : Int32} {l2 : Int32} {l3 : Int32} {l4 : Int32} {h : aH} (hs : s_X9_bound_18  n l0 l1 l2 l3 l4 h = some (r, h')), Ev p l e { frames := 5, cells := mc, slots := ms, locals := 133 } s m args below meth c D B0 X ws0 r h' mc ms 7 mc ms 18 [some (.ref l0), some (.int l1), some (.int l2), some (.int l3), some (.int l4), none, none] [] h
  | 0, _, _, _, _, _, _, hs => nomatch hs
  | n + 1, _, _, _, _, _, _, hs => t_X9_bound_18_b C  (k18 := s_X9_bound_18  n) (fun _ _ _ _ _ _ hs => t_X9_bound_18 C  n hs) hs
theorem hy_X9_bound : yX9_bound.cls ≠ "java/lang/invoke/MethodHandle" ∧ yX9_bound.cls ≠ "java/lang/invoke/VarHandle" ∧ (parseMethodDescriptor yX9_bound.desc).map (fun d => d.parameters.length) = some 2 := by decide +kernel
theorem T_X9_bound (o : Nat) (a1 : Int32) (a2 : Int32) (h : aH) (r : aR) (h' : aH) (mc ms : Nat) (hs : s_X9_bound o a1 a2 h = some (r, h', mc, ms)) : Mt yX9_bound (Cond.code yX9_bound cX9_bound 7 (some .int) :: aTB) 5 133 mc ms [.ref o, .int a1, .int a2] h r h' := by
  unfold s_X9_bound at hs
  refine Mt_of (k := 4) (by decide) rfl (fun p l e s m args below meth c D B0 X ws0 C => ?_)
  show Ev p l e { frames := 5, cells := mc, slots := ms, locals := 133 } s m args below meth c D B0 X ws0 r h' mc ms 7 0 0 0 [some (.ref o), some (.int a1), some (.int a2), none, none, none, none] [] h
  refine ev_aload_n C (x := .ref o) rfl trivial dX9_bound_0 ?_
  refine ev_iconst C (v := 0) dX9_bound_1 (by decide) ?_
  refine ev_iconst C (v := 0) dX9_bound_2 (by decide) ?_
  refine ev_aload_n C (x := .ref o) rfl trivial dX9_bound_3 ?_
  obtain ⟨x4, e4, hs⟩ := aB hs
  refine ev_get C (ci := 9) (k := 4) rfl wu_9 (by decide) wf_X9_42 (gI_F e4) dX9_bound_4 ?_
  refine ev_bipush C (v := 30) dX9_bound_7 (by decide) ?_
  obtain ⟨eo9, hs⟩ := kO_at hs
  obtain ⟨h9, n9, y9, e9, hs⟩ := dN_at hs
  obtain ⟨c9, z9, hs⟩ := ck_at hs
  refine ev_callV C (T_X9_bring _ _ _ _ _ _ _ _ _ _ e9) (ci := 9) rfl eo9 wc_X9_bring wm_X9_61 wi_X9_bring ws_X9_bring wz_X9 hy_X9_bring ⟨(Nat.le_of_ble_eq_true rfl), (Nat.le_of_ble_eq_true rfl)⟩ ⟨c9, z9⟩ (Nat.le_of_ble_eq_true rfl) rfl dX9_bound_9 ?_
  obtain ⟨hw9, rfl, rfl⟩ := wC_at hs
  have hs := hw9
  refine ev_ldc C wv_X9_76 dX9_bound_12 ?_
  refine ev_istore_n C (by decide) dX9_bound_14 ?_
  refine ev_iconst C (v := 0) dX9_bound_15 (by decide) ?_
  refine ev_istore C (by decide) dX9_bound_16 ?_
  exact (t_X9_bound_18 C  FU hs)
end
-- X9_onlyFault
theorem dX9_onlyFault_0 : decode cX9_onlyFault 0 = .ok (.bipush (-3), 2) := by decide +kernel
theorem dX9_onlyFault_2 : decode cX9_onlyFault 2 = .ok (.istore_n 1, 1) := by decide +kernel
theorem dX9_onlyFault_3 : decode cX9_onlyFault 3 = .ok (.iconst 0, 1) := by decide +kernel
theorem dX9_onlyFault_4 : decode cX9_onlyFault 4 = .ok (.istore_n 2, 1) := by decide +kernel
theorem dX9_onlyFault_5 : decode cX9_onlyFault 5 = .ok (.iload_n 2, 1) := by decide +kernel
theorem dX9_onlyFault_6 : decode cX9_onlyFault 6 = .ok (.aload_n 0, 1) := by decide +kernel
theorem dX9_onlyFault_7 : decode cX9_onlyFault 7 = .ok (.getfield 30, 3) := by decide +kernel
theorem dX9_onlyFault_10 : decode cX9_onlyFault 10 = .ok (.getfield 81, 3) := by decide +kernel
theorem dX9_onlyFault_13 : decode cX9_onlyFault 13 = .ok (.iconst 1, 1) := by decide +kernel
theorem dX9_onlyFault_14 : decode cX9_onlyFault 14 = .ok (.iaload, 1) := by decide +kernel
theorem dX9_onlyFault_15 : decode cX9_onlyFault 15 = .ok (.aload_n 0, 1) := by decide +kernel
theorem dX9_onlyFault_16 : decode cX9_onlyFault 16 = .ok (.getfield 30, 3) := by decide +kernel
theorem dX9_onlyFault_19 : decode cX9_onlyFault 19 = .ok (.getfield 81, 3) := by decide +kernel
theorem dX9_onlyFault_22 : decode cX9_onlyFault 22 = .ok (.iconst 4, 1) := by decide +kernel
theorem dX9_onlyFault_23 : decode cX9_onlyFault 23 = .ok (.iaload, 1) := by decide +kernel
theorem dX9_onlyFault_24 : decode cX9_onlyFault 24 = .ok (.iadd, 1) := by decide +kernel
theorem dX9_onlyFault_25 : decode cX9_onlyFault 25 = .ok (.if_icmp .gt 35, 3) := by decide +kernel
theorem dX9_onlyFault_28 : decode cX9_onlyFault 28 = .ok (.iload_n 2, 1) := by decide +kernel
theorem dX9_onlyFault_29 : decode cX9_onlyFault 29 = .ok (.iconst 5, 1) := by decide +kernel
theorem dX9_onlyFault_30 : decode cX9_onlyFault 30 = .ok (.if_icmp .ge 30, 3) := by decide +kernel
theorem dX9_onlyFault_33 : decode cX9_onlyFault 33 = .ok (.aload_n 0, 1) := by decide +kernel
theorem dX9_onlyFault_34 : decode cX9_onlyFault 34 = .ok (.iload_n 2, 1) := by decide +kernel
theorem dX9_onlyFault_35 : decode cX9_onlyFault 35 = .ok (.invokevirtual 84, 3) := by decide +kernel
theorem dX9_onlyFault_38 : decode cX9_onlyFault 38 = .ok (.ifCond .le 16, 3) := by decide +kernel
theorem dX9_onlyFault_41 : decode cX9_onlyFault 41 = .ok (.iload_n 1, 1) := by decide +kernel
theorem dX9_onlyFault_42 : decode cX9_onlyFault 42 = .ok (.bipush (-3), 2) := by decide +kernel
theorem dX9_onlyFault_44 : decode cX9_onlyFault 44 = .ok (.if_icmp .ne 7, 3) := by decide +kernel
theorem dX9_onlyFault_47 : decode cX9_onlyFault 47 = .ok (.iload_n 2, 1) := by decide +kernel
theorem dX9_onlyFault_48 : decode cX9_onlyFault 48 = .ok (.goto 5, 3) := by decide +kernel
theorem dX9_onlyFault_51 : decode cX9_onlyFault 51 = .ok (.bipush (-2), 2) := by decide +kernel
theorem dX9_onlyFault_53 : decode cX9_onlyFault 53 = .ok (.istore_n 1, 1) := by decide +kernel
theorem dX9_onlyFault_54 : decode cX9_onlyFault 54 = .ok (.iinc 2 1, 3) := by decide +kernel
theorem dX9_onlyFault_57 : decode cX9_onlyFault 57 = .ok (.goto (-52), 3) := by decide +kernel
theorem dX9_onlyFault_60 : decode cX9_onlyFault 60 = .ok (.iload_n 1, 1) := by decide +kernel
theorem dX9_onlyFault_61 : decode cX9_onlyFault 61 = .ok (.ireturn, 1) := by decide +kernel
def s_X9_onlyFault_53 (k5 : Nat → Int32 → Int32 → aH → Nat → Nat → aP) (l0 : Nat) (l2 : Int32) (s0 : Int32) (h : aH) (c9 z9 : Nat) : aP :=
  k5 l0 s0 (l2 + 1) h c9 z9
def s_X9_onlyFault_5_b  (k5 : Nat → Int32 → Int32 → aH → Nat → Nat → aP) (l0 : Nat) (l1 : Int32) (l2 : Int32) (h : aH) (c9 z9 : Nat) : aP :=
  (gO h (.ref l0) 9 0).bind fun x7 => (gO h (.ref x7) 2 0).bind fun x10 => (ldI .int h (.ref x10) 1).bind fun x14 => (gO h (.ref l0) 9 0).bind fun x16 => (gO h (.ref x16) 2 0).bind fun x19 => (ldI .int h (.ref x19) 4).bind fun x23 => if (x14 + x23) < l2 then (wC c9 z9 (some (.inl (some (.int l1)), h))) else (if 5 ≤ l2 then (wC c9 z9 (some (.inl (some (.int l1)), h))) else (kO h l0 9 (dI (s_X9_cellsBy l0 l2 h) fun x35 h35 n35 y35 => ck (c9 + n35) (z9 + y35) (if x35 ≤ 0 then (k5 l0 l1 (l2 + 1) h35 (c9 + n35) (z9 + y35)) else (if l1 = (-3) then (s_X9_onlyFault_53 k5 l0 l2 l2 h35 (c9 + n35) (z9 + y35)) else (s_X9_onlyFault_53 k5 l0 l2 (-2) h35 (c9 + n35) (z9 + y35)))))))
def s_X9_onlyFault_5  (n : Nat) : Nat → Int32 → Int32 → aH → Nat → Nat → aP := lpF (fun _ _ _ _ _ _ => none) (s_X9_onlyFault_5_b ) n
def s_X9_onlyFault (o : Nat) (h : aH) : aP :=
  s_X9_onlyFault_5 FU o (-3) 0 h 0 0
section
variable {p : Program} {l : Launch} {e : Env} {s : State} {m : MethodId} {args : Array Value} {below : List Frame} {meth : Method} {c : Code} {D : va_G} {B0 : Nat} {X : Nat → Nat} {ws0 : va_W} {r : aR} {h' : aH} {mc ms : Nat}
theorem t_X9_onlyFault_53 (C : Cx p l s m args meth c B0 X RX9 "onlyFault" cX9_onlyFault 3 (some .int) []) {k5 : Nat → Int32 → Int32 → aH → Nat → Nat → aP} (K5 : ∀ (l0 : Nat) (l1 : Int32) (l2 : Int32) (h : aH) (c9 z9 : Nat), k5 l0 l1 l2 h c9 z9 = some (r, h', mc, ms) → Ev p l e { frames := 6, cells := mc, slots := ms, locals := 154 } s m args below meth c D B0 X ws0 r h' mc ms 3 c9 z9 5 [some (.ref l0), some (.int l1), some (.int l2)] [] h) {l0 : Nat} {l2 : Int32} {s0 : Int32} {h : aH} {c9 z9 : Nat} (hs : s_X9_onlyFault_53 k5 l0 l2 s0 h c9 z9 = some (r, h', mc, ms)) : Ev p l e { frames := 6, cells := mc, slots := ms, locals := 154 } s m args below meth c D B0 X ws0 r h' mc ms 3 c9 z9 53 [some (.ref l0), none, some (.int l2)] [.int s0] h := by
  unfold s_X9_onlyFault_53 at hs
  refine ev_istore_n C (by decide) dX9_onlyFault_53 ?_
  refine ev_iinc C (i := 2) (n := 1) (x := l2) (v := l2 + 1) rfl (congrArg (fun z => l2 + z) (show Int32.ofInt 1 = 1 by decide)) (by decide) dX9_onlyFault_54 ?_
  refine ev_goto C (tgt := 5) (by decide) dX9_onlyFault_57 ?_
  exact (K5 _ _ _ _ _ _ hs)
theorem t_X9_onlyFault_5_b (C : Cx p l s m args meth c B0 X RX9 "onlyFault" cX9_onlyFault 3 (some .int) [])   {k5 : Nat → Int32 → Int32 → aH → Nat → Nat → aP} (K5 : ∀ (l0 : Nat) (l1 : Int32) (l2 : Int32) (h : aH) (c9 z9 : Nat), k5 l0 l1 l2 h c9 z9 = some (r, h', mc, ms) → Ev p l e { frames := 6, cells := mc, slots := ms, locals := 154 } s m args below meth c D B0 X ws0 r h' mc ms 3 c9 z9 5 [some (.ref l0), some (.int l1), some (.int l2)] [] h) {l0 : Nat} {l1 : Int32} {l2 : Int32} {h : aH} {c9 z9 : Nat} (hs : s_X9_onlyFault_5_b  k5 l0 l1 l2 h c9 z9 = some (r, h', mc, ms)) : Ev p l e { frames := 6, cells := mc, slots := ms, locals := 154 } s m args below meth c D B0 X ws0 r h' mc ms 3 c9 z9 5 [some (.ref l0), some (.int l1), some (.int l2)] [] h := by
  unfold s_X9_onlyFault_5_b at hs
  refine ev_iload_n C rfl dX9_onlyFault_5 ?_
  refine ev_aload_n C (x := .ref l0) rfl trivial dX9_onlyFault_6 ?_
  obtain ⟨x7, e7, hs⟩ := aB hs
  refine ev_get C (ci := 9) (k := 0) rfl wu_9 (by decide) wf_X9_30 (gO_F e7) dX9_onlyFault_7 ?_
  obtain ⟨x10, e10, hs⟩ := aB hs
  refine ev_getN C (ci := 2) (k := 0) rfl wu_2 (by decide) wg_X9_81 (gO_F e10) dX9_onlyFault_10 ?_
  refine ev_iconst C (v := 1) dX9_onlyFault_13 (by decide) ?_
  obtain ⟨x14, e14, hs⟩ := aB hs
  refine ev_iald C e14 dX9_onlyFault_14 ?_
  refine ev_aload_n C (x := .ref l0) rfl trivial dX9_onlyFault_15 ?_
  obtain ⟨x16, e16, hs⟩ := aB hs
  refine ev_get C (ci := 9) (k := 0) rfl wu_9 (by decide) wf_X9_30 (gO_F e16) dX9_onlyFault_16 ?_
  obtain ⟨x19, e19, hs⟩ := aB hs
  refine ev_getN C (ci := 2) (k := 0) rfl wu_2 (by decide) wg_X9_81 (gO_F e19) dX9_onlyFault_19 ?_
  refine ev_iconst C (v := 4) dX9_onlyFault_22 (by decide) ?_
  obtain ⟨x23, e23, hs⟩ := aB hs
  refine ev_iald C e23 dX9_onlyFault_23 ?_
  refine ev_iadd C dX9_onlyFault_24 ?_
  refine ev_icmp_gt C (tgt := 60) (by decide) dX9_onlyFault_25 (fun q25 => ?_) (fun q25 => ?_)
  · replace hs := (if_pos q25).symm.trans hs
    obtain ⟨hw9, rfl, rfl⟩ := wC_at hs
    have hs := hw9
    refine ev_iload_n C rfl dX9_onlyFault_60 ?_
    cases hs
    exact ev_iret C rfl rfl (Nat.le_refl _) (Nat.le_refl _) rfl dX9_onlyFault_61
  · replace hs := (if_neg q25).symm.trans hs
    refine ev_iload_n C rfl dX9_onlyFault_28 ?_
    refine ev_iconst C (v := 5) dX9_onlyFault_29 (by decide) ?_
    refine ev_icmp_ge C (tgt := 60) (by decide) dX9_onlyFault_30 (fun q30 => ?_) (fun q30 => ?_)
    · replace hs := (if_pos q30).symm.trans hs
      obtain ⟨hw9, rfl, rfl⟩ := wC_at hs
      have hs := hw9
      refine ev_iload_n C rfl dX9_onlyFault_60 ?_
      cases hs
      exact ev_iret C rfl rfl (Nat.le_refl _) (Nat.le_refl _) rfl dX9_onlyFault_61
    · replace hs := (if_neg q30).symm.trans hs
      refine ev_aload_n C (x := .ref l0) rfl trivial dX9_onlyFault_33 ?_
      refine ev_iload_n C rfl dX9_onlyFault_34 ?_
      obtain ⟨eo35, hs⟩ := kO_at hs
      obtain ⟨x35, h35, n35, y35, e35, hs⟩ := dI_at hs
      obtain ⟨c35, z35, hs⟩ := ck_at hs
      refine ev_callV C (T_X9_cellsBy _ _ _ _ _ _ _ e35) (ci := 9) rfl eo35 wc_X9_cellsBy wm_X9_84 wi_X9_cellsBy ws_X9_cellsBy wz_X9 hy_X9_cellsBy ⟨(Nat.le_of_ble_eq_true rfl), (Nat.le_of_ble_eq_true rfl)⟩ ⟨c35, z35⟩ (Nat.le_of_ble_eq_true rfl) rfl dX9_onlyFault_35 ?_
      refine ev_if_le C (tgt := 54) (by decide) dX9_onlyFault_38 (fun q38 => ?_) (fun q38 => ?_)
      · replace hs := (if_pos q38).symm.trans hs
        refine ev_iinc C (i := 2) (n := 1) (x := l2) (v := l2 + 1) rfl (congrArg (fun z => l2 + z) (show Int32.ofInt 1 = 1 by decide)) (by decide) dX9_onlyFault_54 ?_
        refine ev_goto C (tgt := 5) (by decide) dX9_onlyFault_57 ?_
        exact (K5 _ _ _ _ _ _ hs)
      · replace hs := (if_neg q38).symm.trans hs
        refine ev_iload_n C rfl dX9_onlyFault_41 ?_
        refine ev_bipush C (v := (-3)) dX9_onlyFault_42 (by decide) ?_
        refine ev_icmp_ne C (tgt := 51) (by decide) dX9_onlyFault_44 (fun q44 => ?_) (fun q44 => ?_)
        · replace hs := (if_neg q44).symm.trans hs
          refine ev_bipush C (v := (-2)) dX9_onlyFault_51 (by decide) ?_
          exact Ev.keep [true, false, true] (t_X9_onlyFault_53 C K5 hs)
        · replace hs := (if_pos q44).symm.trans hs
          refine ev_iload_n C rfl dX9_onlyFault_47 ?_
          refine ev_goto C (tgt := 53) (by decide) dX9_onlyFault_48 ?_
          exact Ev.keep [true, false, true] (t_X9_onlyFault_53 C K5 hs)
theorem t_X9_onlyFault_5 (C : Cx p l s m args meth c B0 X RX9 "onlyFault" cX9_onlyFault 3 (some .int) [])   : ∀ (n : Nat) {l0 : Nat} {l1 : Int32} {l2 : Int32} {h : aH} {c9 z9 : Nat} (hs : s_X9_onlyFault_5  n l0 l1 l2 h c9 z9 = some (r, h', mc, ms)), Ev p l e { frames := 6, cells := mc, slots := ms, locals := 154 } s m args below meth c D B0 X ws0 r h' mc ms 3 c9 z9 5 [some (.ref l0), some (.int l1), some (.int l2)] [] h
  | 0, _, _, _, _, _, _, hs => nomatch hs
  | n + 1, _, _, _, _, _, _, hs => t_X9_onlyFault_5_b C  (k5 := s_X9_onlyFault_5  n) (fun _ _ _ _ _ _ hs => t_X9_onlyFault_5 C  n hs) hs
theorem hy_X9_onlyFault : yX9_onlyFault.cls ≠ "java/lang/invoke/MethodHandle" ∧ yX9_onlyFault.cls ≠ "java/lang/invoke/VarHandle" ∧ (parseMethodDescriptor yX9_onlyFault.desc).map (fun d => d.parameters.length) = some 0 := by decide +kernel
theorem T_X9_onlyFault (o : Nat) (h : aH) (r : aR) (h' : aH) (mc ms : Nat) (hs : s_X9_onlyFault o h = some (r, h', mc, ms)) : Mt yX9_onlyFault (Cond.code yX9_onlyFault cX9_onlyFault 3 (some .int) :: aTB) 6 154 mc ms [.ref o] h r h' := by
  unfold s_X9_onlyFault at hs
  refine Mt_of (k := 2) (by decide) rfl (fun p l e s m args below meth c D B0 X ws0 C => ?_)
  show Ev p l e { frames := 6, cells := mc, slots := ms, locals := 154 } s m args below meth c D B0 X ws0 r h' mc ms 3 0 0 0 [some (.ref o), none, none] [] h
  refine ev_bipush C (v := (-3)) dX9_onlyFault_0 (by decide) ?_
  refine ev_istore_n C (by decide) dX9_onlyFault_2 ?_
  refine ev_iconst C (v := 0) dX9_onlyFault_3 (by decide) ?_
  refine ev_istore_n C (by decide) dX9_onlyFault_4 ?_
  exact (t_X9_onlyFault_5 C  FU hs)
end
-- X9_fitting
theorem dX9_fitting_0 : decode cX9_fitting 0 = .ok (.aload_n 0, 1) := by decide +kernel
theorem dX9_fitting_1 : decode cX9_fitting 1 = .ok (.iconst 0, 1) := by decide +kernel
theorem dX9_fitting_2 : decode cX9_fitting 2 = .ok (.iconst 0, 1) := by decide +kernel
theorem dX9_fitting_3 : decode cX9_fitting 3 = .ok (.aload_n 0, 1) := by decide +kernel
theorem dX9_fitting_4 : decode cX9_fitting 4 = .ok (.getfield 42, 3) := by decide +kernel
theorem dX9_fitting_7 : decode cX9_fitting 7 = .ok (.bipush 30, 2) := by decide +kernel
theorem dX9_fitting_9 : decode cX9_fitting 9 = .ok (.invokevirtual 61, 3) := by decide +kernel
theorem dX9_fitting_12 : decode cX9_fitting 12 = .ok (.iconst 0, 1) := by decide +kernel
theorem dX9_fitting_13 : decode cX9_fitting 13 = .ok (.istore_n 1, 1) := by decide +kernel
theorem dX9_fitting_14 : decode cX9_fitting 14 = .ok (.iconst 0, 1) := by decide +kernel
theorem dX9_fitting_15 : decode cX9_fitting 15 = .ok (.istore_n 2, 1) := by decide +kernel
theorem dX9_fitting_16 : decode cX9_fitting 16 = .ok (.iload_n 2, 1) := by decide +kernel
theorem dX9_fitting_17 : decode cX9_fitting 17 = .ok (.aload_n 0, 1) := by decide +kernel
theorem dX9_fitting_18 : decode cX9_fitting 18 = .ok (.getfield 30, 3) := by decide +kernel
theorem dX9_fitting_21 : decode cX9_fitting 21 = .ok (.getfield 71, 3) := by decide +kernel
theorem dX9_fitting_24 : decode cX9_fitting 24 = .ok (.if_icmp .ge 28, 3) := by decide +kernel
theorem dX9_fitting_27 : decode cX9_fitting 27 = .ok (.iload_n 1, 1) := by decide +kernel
theorem dX9_fitting_28 : decode cX9_fitting 28 = .ok (.aload_n 0, 1) := by decide +kernel
theorem dX9_fitting_29 : decode cX9_fitting 29 = .ok (.getfield 24, 3) := by decide +kernel
theorem dX9_fitting_32 : decode cX9_fitting 32 = .ok (.aload_n 0, 1) := by decide +kernel
theorem dX9_fitting_33 : decode cX9_fitting 33 = .ok (.iconst 0, 1) := by decide +kernel
theorem dX9_fitting_34 : decode cX9_fitting 34 = .ok (.aload_n 0, 1) := by decide +kernel
theorem dX9_fitting_35 : decode cX9_fitting 35 = .ok (.getfield 42, 3) := by decide +kernel
theorem dX9_fitting_38 : decode cX9_fitting 38 = .ok (.invokevirtual 68, 3) := by decide +kernel
theorem dX9_fitting_41 : decode cX9_fitting 41 = .ok (.iload_n 2, 1) := by decide +kernel
theorem dX9_fitting_42 : decode cX9_fitting 42 = .ok (.iadd, 1) := by decide +kernel
theorem dX9_fitting_43 : decode cX9_fitting 43 = .ok (.iaload, 1) := by decide +kernel
theorem dX9_fitting_44 : decode cX9_fitting 44 = .ok (.ior, 1) := by decide +kernel
theorem dX9_fitting_45 : decode cX9_fitting 45 = .ok (.istore_n 1, 1) := by decide +kernel
theorem dX9_fitting_46 : decode cX9_fitting 46 = .ok (.iinc 2 1, 3) := by decide +kernel
theorem dX9_fitting_49 : decode cX9_fitting 49 = .ok (.goto (-33), 3) := by decide +kernel
theorem dX9_fitting_52 : decode cX9_fitting 52 = .ok (.iload_n 1, 1) := by decide +kernel
theorem dX9_fitting_53 : decode cX9_fitting 53 = .ok (.ireturn, 1) := by decide +kernel
def s_X9_fitting_16_b  (k16 : Nat → Int32 → Int32 → aH → aO) (l0 : Nat) (l1 : Int32) (l2 : Int32) (h : aH) : aO :=
  (gO h (.ref l0) 9 0).bind fun x18 => (gI h (.ref x18) 2 12).bind fun x21 => if x21 ≤ l2 then (some (.inl (some (.int l1)), h)) else ((gO h (.ref l0) 9 8).bind fun x29 => (gI h (.ref l0) 9 4).bind fun x35 => kO h l0 9 (cI (s_X9_startOf l0 0 x35 h) fun x38 h38 => (ldI .int h38 (.ref x29) (x38 + l2)).bind fun x43 => k16 l0 (l1 ||| x43) (l2 + 1) h38))
def s_X9_fitting_16  (n : Nat) : Nat → Int32 → Int32 → aH → aO := lpF (fun _ _ _ _ => none) (s_X9_fitting_16_b ) n
def s_X9_fitting (o : Nat) (h : aH) : aP :=
  (gI h (.ref o) 9 4).bind fun x4 => kO h o 9 (dN (s_X9_bring o 0 0 x4 30 h) fun h9 n9 y9 => ck (0 + n9) (0 + y9) (wC (0 + n9) (0 + y9) (s_X9_fitting_16 FU o 0 0 h9)))
section
variable {p : Program} {l : Launch} {e : Env} {s : State} {m : MethodId} {args : Array Value} {below : List Frame} {meth : Method} {c : Code} {D : va_G} {B0 : Nat} {X : Nat → Nat} {ws0 : va_W} {r : aR} {h' : aH} {mc ms : Nat}
theorem t_X9_fitting_16_b (C : Cx p l s m args meth c B0 X RX9 "fitting" cX9_fitting 3 (some .int) [])   {k16 : Nat → Int32 → Int32 → aH → aO} (K16 : ∀ (l0 : Nat) (l1 : Int32) (l2 : Int32) (h : aH), k16 l0 l1 l2 h = some (r, h') → Ev p l e { frames := 5, cells := mc, slots := ms, locals := 133 } s m args below meth c D B0 X ws0 r h' mc ms 3 mc ms 16 [some (.ref l0), some (.int l1), some (.int l2)] [] h) {l0 : Nat} {l1 : Int32} {l2 : Int32} {h : aH} (hs : s_X9_fitting_16_b  k16 l0 l1 l2 h = some (r, h')) : Ev p l e { frames := 5, cells := mc, slots := ms, locals := 133 } s m args below meth c D B0 X ws0 r h' mc ms 3 mc ms 16 [some (.ref l0), some (.int l1), some (.int l2)] [] h := by
  unfold s_X9_fitting_16_b at hs
  refine ev_iload_n C rfl dX9_fitting_16 ?_
  refine ev_aload_n C (x := .ref l0) rfl trivial dX9_fitting_17 ?_
  obtain ⟨x18, e18, hs⟩ := aB hs
  refine ev_get C (ci := 9) (k := 0) rfl wu_9 (by decide) wf_X9_30 (gO_F e18) dX9_fitting_18 ?_
  obtain ⟨x21, e21, hs⟩ := aB hs
  refine ev_getN C (ci := 2) (k := 12) rfl wu_2 (by decide) wg_X9_71 (gI_F e21) dX9_fitting_21 ?_
  refine ev_icmp_ge C (tgt := 52) (by decide) dX9_fitting_24 (fun q24 => ?_) (fun q24 => ?_)
  · replace hs := (if_pos q24).symm.trans hs
    refine ev_iload_n C rfl dX9_fitting_52 ?_
    cases hs
    exact ev_iret C rfl rfl (Nat.le_refl _) (Nat.le_refl _) rfl dX9_fitting_53
  · replace hs := (if_neg q24).symm.trans hs
    refine ev_iload_n C rfl dX9_fitting_27 ?_
    refine ev_aload_n C (x := .ref l0) rfl trivial dX9_fitting_28 ?_
    obtain ⟨x29, e29, hs⟩ := aB hs
    refine ev_get C (ci := 9) (k := 8) rfl wu_9 (by decide) wf_X9_24 (gO_F e29) dX9_fitting_29 ?_
    refine ev_aload_n C (x := .ref l0) rfl trivial dX9_fitting_32 ?_
    refine ev_iconst C (v := 0) dX9_fitting_33 (by decide) ?_
    refine ev_aload_n C (x := .ref l0) rfl trivial dX9_fitting_34 ?_
    obtain ⟨x35, e35, hs⟩ := aB hs
    refine ev_get C (ci := 9) (k := 4) rfl wu_9 (by decide) wf_X9_42 (gI_F e35) dX9_fitting_35 ?_
    obtain ⟨eo38, hs⟩ := kO_at hs
    obtain ⟨x38, h38, e38, hs⟩ := cI_at hs
    refine ev_callV C (T_X9_startOf _ _ _ _ _ _ e38) (ci := 9) rfl eo38 wc_X9_startOf wm_X9_68 wi_X9_startOf ws_X9_startOf wz_X9 hy_X9_startOf ⟨(Nat.le_of_ble_eq_true rfl), (Nat.le_of_ble_eq_true rfl)⟩ ⟨(Nat.le_refl _), (Nat.le_refl _)⟩ (Nat.le_of_ble_eq_true rfl) rfl dX9_fitting_38 ?_
    refine ev_iload_n C rfl dX9_fitting_41 ?_
    refine ev_iadd C dX9_fitting_42 ?_
    obtain ⟨x43, e43, hs⟩ := aB hs
    refine ev_iald C e43 dX9_fitting_43 ?_
    refine ev_ior C dX9_fitting_44 ?_
    refine ev_istore_n C (by decide) dX9_fitting_45 ?_
    refine ev_iinc C (i := 2) (n := 1) (x := l2) (v := l2 + 1) rfl (congrArg (fun z => l2 + z) (show Int32.ofInt 1 = 1 by decide)) (by decide) dX9_fitting_46 ?_
    refine ev_goto C (tgt := 16) (by decide) dX9_fitting_49 ?_
    exact (K16 _ _ _ _ hs)
theorem t_X9_fitting_16 (C : Cx p l s m args meth c B0 X RX9 "fitting" cX9_fitting 3 (some .int) [])   : ∀ (n : Nat) {l0 : Nat} {l1 : Int32} {l2 : Int32} {h : aH} (hs : s_X9_fitting_16  n l0 l1 l2 h = some (r, h')), Ev p l e { frames := 5, cells := mc, slots := ms, locals := 133 } s m args below meth c D B0 X ws0 r h' mc ms 3 mc ms 16 [some (.ref l0), some (.int l1), some (.int l2)] [] h
  | 0, _, _, _, _, hs => nomatch hs
  | n + 1, _, _, _, _, hs => t_X9_fitting_16_b C  (k16 := s_X9_fitting_16  n) (fun _ _ _ _ hs => t_X9_fitting_16 C  n hs) hs
theorem hy_X9_fitting : yX9_fitting.cls ≠ "java/lang/invoke/MethodHandle" ∧ yX9_fitting.cls ≠ "java/lang/invoke/VarHandle" ∧ (parseMethodDescriptor yX9_fitting.desc).map (fun d => d.parameters.length) = some 0 := by decide +kernel
theorem T_X9_fitting (o : Nat) (h : aH) (r : aR) (h' : aH) (mc ms : Nat) (hs : s_X9_fitting o h = some (r, h', mc, ms)) : Mt yX9_fitting (Cond.code yX9_fitting cX9_fitting 3 (some .int) :: aTB) 5 133 mc ms [.ref o] h r h' := by
  unfold s_X9_fitting at hs
  refine Mt_of (k := 2) (by decide) rfl (fun p l e s m args below meth c D B0 X ws0 C => ?_)
  show Ev p l e { frames := 5, cells := mc, slots := ms, locals := 133 } s m args below meth c D B0 X ws0 r h' mc ms 3 0 0 0 [some (.ref o), none, none] [] h
  refine ev_aload_n C (x := .ref o) rfl trivial dX9_fitting_0 ?_
  refine ev_iconst C (v := 0) dX9_fitting_1 (by decide) ?_
  refine ev_iconst C (v := 0) dX9_fitting_2 (by decide) ?_
  refine ev_aload_n C (x := .ref o) rfl trivial dX9_fitting_3 ?_
  obtain ⟨x4, e4, hs⟩ := aB hs
  refine ev_get C (ci := 9) (k := 4) rfl wu_9 (by decide) wf_X9_42 (gI_F e4) dX9_fitting_4 ?_
  refine ev_bipush C (v := 30) dX9_fitting_7 (by decide) ?_
  obtain ⟨eo9, hs⟩ := kO_at hs
  obtain ⟨h9, n9, y9, e9, hs⟩ := dN_at hs
  obtain ⟨c9, z9, hs⟩ := ck_at hs
  refine ev_callV C (T_X9_bring _ _ _ _ _ _ _ _ _ _ e9) (ci := 9) rfl eo9 wc_X9_bring wm_X9_61 wi_X9_bring ws_X9_bring wz_X9 hy_X9_bring ⟨(Nat.le_of_ble_eq_true rfl), (Nat.le_of_ble_eq_true rfl)⟩ ⟨c9, z9⟩ (Nat.le_of_ble_eq_true rfl) rfl dX9_fitting_9 ?_
  obtain ⟨hw9, rfl, rfl⟩ := wC_at hs
  have hs := hw9
  refine ev_iconst C (v := 0) dX9_fitting_12 (by decide) ?_
  refine ev_istore_n C (by decide) dX9_fitting_13 ?_
  refine ev_iconst C (v := 0) dX9_fitting_14 (by decide) ?_
  refine ev_istore_n C (by decide) dX9_fitting_15 ?_
  exact (t_X9_fitting_16 C  FU hs)
end
-- X9_differentLeads
theorem dX9_differentLeads_0 : decode cX9_differentLeads 0 = .ok (.iconst 0, 1) := by decide +kernel
theorem dX9_differentLeads_1 : decode cX9_differentLeads 1 = .ok (.istore 4, 2) := by decide +kernel
theorem dX9_differentLeads_3 : decode cX9_differentLeads 3 = .ok (.iconst 0, 1) := by decide +kernel
theorem dX9_differentLeads_4 : decode cX9_differentLeads 4 = .ok (.istore 5, 2) := by decide +kernel
theorem dX9_differentLeads_6 : decode cX9_differentLeads 6 = .ok (.iload 5, 2) := by decide +kernel
theorem dX9_differentLeads_8 : decode cX9_differentLeads 8 = .ok (.aload_n 0, 1) := by decide +kernel
theorem dX9_differentLeads_9 : decode cX9_differentLeads 9 = .ok (.getfield 30, 3) := by decide +kernel
theorem dX9_differentLeads_12 : decode cX9_differentLeads 12 = .ok (.getfield 98, 3) := by decide +kernel
theorem dX9_differentLeads_15 : decode cX9_differentLeads 15 = .ok (.if_icmp .ge 102, 3) := by decide +kernel
theorem dX9_differentLeads_18 : decode cX9_differentLeads 18 = .ok (.iload_n 3, 1) := by decide +kernel
theorem dX9_differentLeads_19 : decode cX9_differentLeads 19 = .ok (.iload 5, 2) := by decide +kernel
theorem dX9_differentLeads_21 : decode cX9_differentLeads 21 = .ok (.ishr, 1) := by decide +kernel
theorem dX9_differentLeads_22 : decode cX9_differentLeads 22 = .ok (.iconst 1, 1) := by decide +kernel
theorem dX9_differentLeads_23 : decode cX9_differentLeads 23 = .ok (.iand, 1) := by decide +kernel
theorem dX9_differentLeads_24 : decode cX9_differentLeads 24 = .ok (.ifCond .eq 87, 3) := by decide +kernel
theorem dX9_differentLeads_27 : decode cX9_differentLeads 27 = .ok (.aload_n 0, 1) := by decide +kernel
theorem dX9_differentLeads_28 : decode cX9_differentLeads 28 = .ok (.getfield 34, 3) := by decide +kernel
theorem dX9_differentLeads_31 : decode cX9_differentLeads 31 = .ok (.iload_n 1, 1) := by decide +kernel
theorem dX9_differentLeads_32 : decode cX9_differentLeads 32 = .ok (.iload_n 2, 1) := by decide +kernel
theorem dX9_differentLeads_33 : decode cX9_differentLeads 33 = .ok (.iload 5, 2) := by decide +kernel
theorem dX9_differentLeads_35 : decode cX9_differentLeads 35 = .ok (.invokevirtual 101, 3) := by decide +kernel
theorem dX9_differentLeads_38 : decode cX9_differentLeads 38 = .ok (.istore 6, 2) := by decide +kernel
theorem dX9_differentLeads_40 : decode cX9_differentLeads 40 = .ok (.iconst 0, 1) := by decide +kernel
theorem dX9_differentLeads_41 : decode cX9_differentLeads 41 = .ok (.istore 7, 2) := by decide +kernel
theorem dX9_differentLeads_43 : decode cX9_differentLeads 43 = .ok (.iconst 0, 1) := by decide +kernel
theorem dX9_differentLeads_44 : decode cX9_differentLeads 44 = .ok (.istore 8, 2) := by decide +kernel
theorem dX9_differentLeads_46 : decode cX9_differentLeads 46 = .ok (.iload 8, 2) := by decide +kernel
theorem dX9_differentLeads_48 : decode cX9_differentLeads 48 = .ok (.iload 5, 2) := by decide +kernel
theorem dX9_differentLeads_50 : decode cX9_differentLeads 50 = .ok (.if_icmp .ge 46, 3) := by decide +kernel
theorem dX9_differentLeads_53 : decode cX9_differentLeads 53 = .ok (.iload 7, 2) := by decide +kernel
theorem dX9_differentLeads_55 : decode cX9_differentLeads 55 = .ok (.ifCond .ne 41, 3) := by decide +kernel
theorem dX9_differentLeads_58 : decode cX9_differentLeads 58 = .ok (.iload_n 3, 1) := by decide +kernel
theorem dX9_differentLeads_59 : decode cX9_differentLeads 59 = .ok (.iload 8, 2) := by decide +kernel
theorem dX9_differentLeads_61 : decode cX9_differentLeads 61 = .ok (.ishr, 1) := by decide +kernel
theorem dX9_differentLeads_62 : decode cX9_differentLeads 62 = .ok (.iconst 1, 1) := by decide +kernel
theorem dX9_differentLeads_63 : decode cX9_differentLeads 63 = .ok (.iand, 1) := by decide +kernel
theorem dX9_differentLeads_64 : decode cX9_differentLeads 64 = .ok (.ifCond .eq 23, 3) := by decide +kernel
theorem dX9_differentLeads_67 : decode cX9_differentLeads 67 = .ok (.aload_n 0, 1) := by decide +kernel
theorem dX9_differentLeads_68 : decode cX9_differentLeads 68 = .ok (.getfield 34, 3) := by decide +kernel
theorem dX9_differentLeads_71 : decode cX9_differentLeads 71 = .ok (.iload_n 1, 1) := by decide +kernel
theorem dX9_differentLeads_72 : decode cX9_differentLeads 72 = .ok (.iload_n 2, 1) := by decide +kernel
theorem dX9_differentLeads_73 : decode cX9_differentLeads 73 = .ok (.iload 8, 2) := by decide +kernel
theorem dX9_differentLeads_75 : decode cX9_differentLeads 75 = .ok (.invokevirtual 101, 3) := by decide +kernel
theorem dX9_differentLeads_78 : decode cX9_differentLeads 78 = .ok (.iload 6, 2) := by decide +kernel
theorem dX9_differentLeads_80 : decode cX9_differentLeads 80 = .ok (.if_icmp .ne 7, 3) := by decide +kernel
theorem dX9_differentLeads_83 : decode cX9_differentLeads 83 = .ok (.iconst 1, 1) := by decide +kernel
theorem dX9_differentLeads_84 : decode cX9_differentLeads 84 = .ok (.goto 4, 3) := by decide +kernel
theorem dX9_differentLeads_87 : decode cX9_differentLeads 87 = .ok (.iconst 0, 1) := by decide +kernel
theorem dX9_differentLeads_88 : decode cX9_differentLeads 88 = .ok (.istore 7, 2) := by decide +kernel
theorem dX9_differentLeads_90 : decode cX9_differentLeads 90 = .ok (.iinc 8 1, 3) := by decide +kernel
theorem dX9_differentLeads_93 : decode cX9_differentLeads 93 = .ok (.goto (-47), 3) := by decide +kernel
theorem dX9_differentLeads_96 : decode cX9_differentLeads 96 = .ok (.iload 4, 2) := by decide +kernel
theorem dX9_differentLeads_98 : decode cX9_differentLeads 98 = .ok (.iload 7, 2) := by decide +kernel
theorem dX9_differentLeads_100 : decode cX9_differentLeads 100 = .ok (.ifCond .eq 7, 3) := by decide +kernel
theorem dX9_differentLeads_103 : decode cX9_differentLeads 103 = .ok (.iconst 0, 1) := by decide +kernel
theorem dX9_differentLeads_104 : decode cX9_differentLeads 104 = .ok (.goto 4, 3) := by decide +kernel
theorem dX9_differentLeads_107 : decode cX9_differentLeads 107 = .ok (.iconst 1, 1) := by decide +kernel
theorem dX9_differentLeads_108 : decode cX9_differentLeads 108 = .ok (.iadd, 1) := by decide +kernel
theorem dX9_differentLeads_109 : decode cX9_differentLeads 109 = .ok (.istore 4, 2) := by decide +kernel
theorem dX9_differentLeads_111 : decode cX9_differentLeads 111 = .ok (.iinc 5 1, 3) := by decide +kernel
theorem dX9_differentLeads_114 : decode cX9_differentLeads 114 = .ok (.goto (-108), 3) := by decide +kernel
theorem dX9_differentLeads_117 : decode cX9_differentLeads 117 = .ok (.iload 4, 2) := by decide +kernel
theorem dX9_differentLeads_119 : decode cX9_differentLeads 119 = .ok (.ireturn, 1) := by decide +kernel
def s_X9_differentLeads_108 (k6 : Nat → Int32 → Int32 → Int32 → Int32 → Int32 → aH → aO) (l0 : Nat) (l1 : Int32) (l2 : Int32) (l3 : Int32) (l5 : Int32) (s0 : Int32) (s1 : Int32) (h : aH) : aO :=
  k6 l0 l1 l2 l3 (s1 + s0) (l5 + 1) h
def s_X9_differentLeads_96 (k6 : Nat → Int32 → Int32 → Int32 → Int32 → Int32 → aH → aO) (l0 : Nat) (l1 : Int32) (l2 : Int32) (l3 : Int32) (l4 : Int32) (l5 : Int32) (l7 : Int32) (h : aH) : aO :=
  if l7 = 0 then (s_X9_differentLeads_108 k6 l0 l1 l2 l3 l5 1 l4 h) else (s_X9_differentLeads_108 k6 l0 l1 l2 l3 l5 0 l4 h)
def s_X9_differentLeads_88 (k6 : Nat → Int32 → Int32 → Int32 → Int32 → Int32 → aH → aO) (k46 : Nat → Int32 → Int32 → Int32 → Int32 → Int32 → Int32 → Int32 → Int32 → aH → aO) (l0 : Nat) (l1 : Int32) (l2 : Int32) (l3 : Int32) (l4 : Int32) (l5 : Int32) (l6 : Int32) (l8 : Int32) (s0 : Int32) (h : aH) : aO :=
  k46 l0 l1 l2 l3 l4 l5 l6 s0 (l8 + 1) h
def s_X9_differentLeads_87 (k6 : Nat → Int32 → Int32 → Int32 → Int32 → Int32 → aH → aO) (k46 : Nat → Int32 → Int32 → Int32 → Int32 → Int32 → Int32 → Int32 → Int32 → aH → aO) (l0 : Nat) (l1 : Int32) (l2 : Int32) (l3 : Int32) (l4 : Int32) (l5 : Int32) (l6 : Int32) (l8 : Int32) (h : aH) : aO :=
  s_X9_differentLeads_88 k6 k46 l0 l1 l2 l3 l4 l5 l6 l8 0 h
def s_X9_differentLeads_46_b (k6 : Nat → Int32 → Int32 → Int32 → Int32 → Int32 → aH → aO) (k46 : Nat → Int32 → Int32 → Int32 → Int32 → Int32 → Int32 → Int32 → Int32 → aH → aO) (l0 : Nat) (l1 : Int32) (l2 : Int32) (l3 : Int32) (l4 : Int32) (l5 : Int32) (l6 : Int32) (l7 : Int32) (l8 : Int32) (h : aH) : aO :=
  if l5 ≤ l8 then (s_X9_differentLeads_96 k6 l0 l1 l2 l3 l4 l5 l7 h) else (if l7 = 0 then (if ((l3 >>> (l8 &&& 31)) &&& 1) = 0 then (s_X9_differentLeads_87 k6 k46 l0 l1 l2 l3 l4 l5 l6 l8 h) else ((gO h (.ref l0) 9 1).bind fun x68 => kO h x68 3 (cI (s_X3_leadOf x68 l1 l2 l8 h) fun x75 h75 => if x75 = l6 then (s_X9_differentLeads_88 k6 k46 l0 l1 l2 l3 l4 l5 l6 l8 1 h75) else (s_X9_differentLeads_87 k6 k46 l0 l1 l2 l3 l4 l5 l6 l8 h75)))) else (s_X9_differentLeads_96 k6 l0 l1 l2 l3 l4 l5 l7 h))
def s_X9_differentLeads_46 (k6 : Nat → Int32 → Int32 → Int32 → Int32 → Int32 → aH → aO) (n : Nat) : Nat → Int32 → Int32 → Int32 → Int32 → Int32 → Int32 → Int32 → Int32 → aH → aO := lpF (fun _ _ _ _ _ _ _ _ _ _ => none) (s_X9_differentLeads_46_b k6) n
def s_X9_differentLeads_6_b  (k6 : Nat → Int32 → Int32 → Int32 → Int32 → Int32 → aH → aO) (l0 : Nat) (l1 : Int32) (l2 : Int32) (l3 : Int32) (l4 : Int32) (l5 : Int32) (h : aH) : aO :=
  (gO h (.ref l0) 9 0).bind fun x9 => (gI h (.ref x9) 2 15).bind fun x12 => if x12 ≤ l5 then (some (.inl (some (.int l4)), h)) else (if ((l3 >>> (l5 &&& 31)) &&& 1) = 0 then (k6 l0 l1 l2 l3 l4 (l5 + 1) h) else ((gO h (.ref l0) 9 1).bind fun x28 => kO h x28 3 (cI (s_X3_leadOf x28 l1 l2 l5 h) fun x35 h35 => s_X9_differentLeads_46 k6 FU l0 l1 l2 l3 l4 l5 x35 0 0 h35)))
def s_X9_differentLeads_6  (n : Nat) : Nat → Int32 → Int32 → Int32 → Int32 → Int32 → aH → aO := lpF (fun _ _ _ _ _ _ _ => none) (s_X9_differentLeads_6_b ) n
def s_X9_differentLeads (o : Nat) (a1 : Int32) (a2 : Int32) (a3 : Int32) (h : aH) : aO :=
  s_X9_differentLeads_6 FU o a1 a2 a3 0 0 h
section
variable {p : Program} {l : Launch} {e : Env} {s : State} {m : MethodId} {args : Array Value} {below : List Frame} {meth : Method} {c : Code} {D : va_G} {B0 : Nat} {X : Nat → Nat} {ws0 : va_W} {r : aR} {h' : aH} {mc ms : Nat}
theorem t_X9_differentLeads_108 (C : Cx p l s m args meth c B0 X RX9 "differentLeads" cX9_differentLeads 9 (some .int) []) {k6 : Nat → Int32 → Int32 → Int32 → Int32 → Int32 → aH → aO} (K6 : ∀ (l0 : Nat) (l1 : Int32) (l2 : Int32) (l3 : Int32) (l4 : Int32) (l5 : Int32) (h : aH), k6 l0 l1 l2 l3 l4 l5 h = some (r, h') → Ev p l e { frames := 1, cells := mc, slots := ms, locals := 23 } s m args below meth c D B0 X ws0 r h' mc ms 9 mc ms 6 [some (.ref l0), some (.int l1), some (.int l2), some (.int l3), some (.int l4), some (.int l5), none, none, none] [] h) {l0 : Nat} {l1 : Int32} {l2 : Int32} {l3 : Int32} {l5 : Int32} {s0 : Int32} {s1 : Int32} {h : aH} (hs : s_X9_differentLeads_108 k6 l0 l1 l2 l3 l5 s0 s1 h = some (r, h')) : Ev p l e { frames := 1, cells := mc, slots := ms, locals := 23 } s m args below meth c D B0 X ws0 r h' mc ms 9 mc ms 108 [some (.ref l0), some (.int l1), some (.int l2), some (.int l3), none, some (.int l5), none, none, none] [.int s0, .int s1] h := by
  unfold s_X9_differentLeads_108 at hs
  refine ev_iadd C dX9_differentLeads_108 ?_
  refine ev_istore C (by decide) dX9_differentLeads_109 ?_
  refine ev_iinc C (i := 5) (n := 1) (x := l5) (v := l5 + 1) rfl (congrArg (fun z => l5 + z) (show Int32.ofInt 1 = 1 by decide)) (by decide) dX9_differentLeads_111 ?_
  refine ev_goto C (tgt := 6) (by decide) dX9_differentLeads_114 ?_
  exact (K6 _ _ _ _ _ _ _ hs)
theorem t_X9_differentLeads_96 (C : Cx p l s m args meth c B0 X RX9 "differentLeads" cX9_differentLeads 9 (some .int) []) {k6 : Nat → Int32 → Int32 → Int32 → Int32 → Int32 → aH → aO} (K6 : ∀ (l0 : Nat) (l1 : Int32) (l2 : Int32) (l3 : Int32) (l4 : Int32) (l5 : Int32) (h : aH), k6 l0 l1 l2 l3 l4 l5 h = some (r, h') → Ev p l e { frames := 1, cells := mc, slots := ms, locals := 23 } s m args below meth c D B0 X ws0 r h' mc ms 9 mc ms 6 [some (.ref l0), some (.int l1), some (.int l2), some (.int l3), some (.int l4), some (.int l5), none, none, none] [] h) {l0 : Nat} {l1 : Int32} {l2 : Int32} {l3 : Int32} {l4 : Int32} {l5 : Int32} {l7 : Int32} {h : aH} (hs : s_X9_differentLeads_96 k6 l0 l1 l2 l3 l4 l5 l7 h = some (r, h')) : Ev p l e { frames := 1, cells := mc, slots := ms, locals := 23 } s m args below meth c D B0 X ws0 r h' mc ms 9 mc ms 96 [some (.ref l0), some (.int l1), some (.int l2), some (.int l3), some (.int l4), some (.int l5), none, some (.int l7), none] [] h := by
  unfold s_X9_differentLeads_96 at hs
  refine ev_iload C rfl dX9_differentLeads_96 ?_
  refine ev_iload C rfl dX9_differentLeads_98 ?_
  refine ev_if_eq C (tgt := 107) (by decide) dX9_differentLeads_100 (fun q100 => ?_) (fun q100 => ?_)
  · replace hs := (if_pos q100).symm.trans hs
    refine ev_iconst C (v := 1) dX9_differentLeads_107 (by decide) ?_
    exact Ev.keep [true, true, true, true, false, true, true, false, true] (t_X9_differentLeads_108 C K6 hs)
  · replace hs := (if_neg q100).symm.trans hs
    refine ev_iconst C (v := 0) dX9_differentLeads_103 (by decide) ?_
    refine ev_goto C (tgt := 108) (by decide) dX9_differentLeads_104 ?_
    exact Ev.keep [true, true, true, true, false, true, true, false, true] (t_X9_differentLeads_108 C K6 hs)
theorem t_X9_differentLeads_88 (C : Cx p l s m args meth c B0 X RX9 "differentLeads" cX9_differentLeads 9 (some .int) []) {k6 : Nat → Int32 → Int32 → Int32 → Int32 → Int32 → aH → aO} {k46 : Nat → Int32 → Int32 → Int32 → Int32 → Int32 → Int32 → Int32 → Int32 → aH → aO} (K6 : ∀ (l0 : Nat) (l1 : Int32) (l2 : Int32) (l3 : Int32) (l4 : Int32) (l5 : Int32) (h : aH), k6 l0 l1 l2 l3 l4 l5 h = some (r, h') → Ev p l e { frames := 1, cells := mc, slots := ms, locals := 23 } s m args below meth c D B0 X ws0 r h' mc ms 9 mc ms 6 [some (.ref l0), some (.int l1), some (.int l2), some (.int l3), some (.int l4), some (.int l5), none, none, none] [] h) (K46 : ∀ (l0 : Nat) (l1 : Int32) (l2 : Int32) (l3 : Int32) (l4 : Int32) (l5 : Int32) (l6 : Int32) (l7 : Int32) (l8 : Int32) (h : aH), k46 l0 l1 l2 l3 l4 l5 l6 l7 l8 h = some (r, h') → Ev p l e { frames := 1, cells := mc, slots := ms, locals := 23 } s m args below meth c D B0 X ws0 r h' mc ms 9 mc ms 46 [some (.ref l0), some (.int l1), some (.int l2), some (.int l3), some (.int l4), some (.int l5), some (.int l6), some (.int l7), some (.int l8)] [] h) {l0 : Nat} {l1 : Int32} {l2 : Int32} {l3 : Int32} {l4 : Int32} {l5 : Int32} {l6 : Int32} {l8 : Int32} {s0 : Int32} {h : aH} (hs : s_X9_differentLeads_88 k6 k46 l0 l1 l2 l3 l4 l5 l6 l8 s0 h = some (r, h')) : Ev p l e { frames := 1, cells := mc, slots := ms, locals := 23 } s m args below meth c D B0 X ws0 r h' mc ms 9 mc ms 88 [some (.ref l0), some (.int l1), some (.int l2), some (.int l3), some (.int l4), some (.int l5), some (.int l6), none, some (.int l8)] [.int s0] h := by
  unfold s_X9_differentLeads_88 at hs
  refine ev_istore C (by decide) dX9_differentLeads_88 ?_
  refine ev_iinc C (i := 8) (n := 1) (x := l8) (v := l8 + 1) rfl (congrArg (fun z => l8 + z) (show Int32.ofInt 1 = 1 by decide)) (by decide) dX9_differentLeads_90 ?_
  refine ev_goto C (tgt := 46) (by decide) dX9_differentLeads_93 ?_
  exact (K46 _ _ _ _ _ _ _ _ _ _ hs)
theorem t_X9_differentLeads_87 (C : Cx p l s m args meth c B0 X RX9 "differentLeads" cX9_differentLeads 9 (some .int) []) {k6 : Nat → Int32 → Int32 → Int32 → Int32 → Int32 → aH → aO} {k46 : Nat → Int32 → Int32 → Int32 → Int32 → Int32 → Int32 → Int32 → Int32 → aH → aO} (K6 : ∀ (l0 : Nat) (l1 : Int32) (l2 : Int32) (l3 : Int32) (l4 : Int32) (l5 : Int32) (h : aH), k6 l0 l1 l2 l3 l4 l5 h = some (r, h') → Ev p l e { frames := 1, cells := mc, slots := ms, locals := 23 } s m args below meth c D B0 X ws0 r h' mc ms 9 mc ms 6 [some (.ref l0), some (.int l1), some (.int l2), some (.int l3), some (.int l4), some (.int l5), none, none, none] [] h) (K46 : ∀ (l0 : Nat) (l1 : Int32) (l2 : Int32) (l3 : Int32) (l4 : Int32) (l5 : Int32) (l6 : Int32) (l7 : Int32) (l8 : Int32) (h : aH), k46 l0 l1 l2 l3 l4 l5 l6 l7 l8 h = some (r, h') → Ev p l e { frames := 1, cells := mc, slots := ms, locals := 23 } s m args below meth c D B0 X ws0 r h' mc ms 9 mc ms 46 [some (.ref l0), some (.int l1), some (.int l2), some (.int l3), some (.int l4), some (.int l5), some (.int l6), some (.int l7), some (.int l8)] [] h) {l0 : Nat} {l1 : Int32} {l2 : Int32} {l3 : Int32} {l4 : Int32} {l5 : Int32} {l6 : Int32} {l8 : Int32} {h : aH} (hs : s_X9_differentLeads_87 k6 k46 l0 l1 l2 l3 l4 l5 l6 l8 h = some (r, h')) : Ev p l e { frames := 1, cells := mc, slots := ms, locals := 23 } s m args below meth c D B0 X ws0 r h' mc ms 9 mc ms 87 [some (.ref l0), some (.int l1), some (.int l2), some (.int l3), some (.int l4), some (.int l5), some (.int l6), none, some (.int l8)] [] h := by
  unfold s_X9_differentLeads_87 at hs
  refine ev_iconst C (v := 0) dX9_differentLeads_87 (by decide) ?_
  exact (t_X9_differentLeads_88 C K6 K46 hs)
theorem t_X9_differentLeads_46_b (C : Cx p l s m args meth c B0 X RX9 "differentLeads" cX9_differentLeads 9 (some .int) []) {k6 : Nat → Int32 → Int32 → Int32 → Int32 → Int32 → aH → aO} (K6 : ∀ (l0 : Nat) (l1 : Int32) (l2 : Int32) (l3 : Int32) (l4 : Int32) (l5 : Int32) (h : aH), k6 l0 l1 l2 l3 l4 l5 h = some (r, h') → Ev p l e { frames := 1, cells := mc, slots := ms, locals := 23 } s m args below meth c D B0 X ws0 r h' mc ms 9 mc ms 6 [some (.ref l0), some (.int l1), some (.int l2), some (.int l3), some (.int l4), some (.int l5), none, none, none] [] h) {k46 : Nat → Int32 → Int32 → Int32 → Int32 → Int32 → Int32 → Int32 → Int32 → aH → aO} (K46 : ∀ (l0 : Nat) (l1 : Int32) (l2 : Int32) (l3 : Int32) (l4 : Int32) (l5 : Int32) (l6 : Int32) (l7 : Int32) (l8 : Int32) (h : aH), k46 l0 l1 l2 l3 l4 l5 l6 l7 l8 h = some (r, h') → Ev p l e { frames := 1, cells := mc, slots := ms, locals := 23 } s m args below meth c D B0 X ws0 r h' mc ms 9 mc ms 46 [some (.ref l0), some (.int l1), some (.int l2), some (.int l3), some (.int l4), some (.int l5), some (.int l6), some (.int l7), some (.int l8)] [] h) {l0 : Nat} {l1 : Int32} {l2 : Int32} {l3 : Int32} {l4 : Int32} {l5 : Int32} {l6 : Int32} {l7 : Int32} {l8 : Int32} {h : aH} (hs : s_X9_differentLeads_46_b k6 k46 l0 l1 l2 l3 l4 l5 l6 l7 l8 h = some (r, h')) : Ev p l e { frames := 1, cells := mc, slots := ms, locals := 23 } s m args below meth c D B0 X ws0 r h' mc ms 9 mc ms 46 [some (.ref l0), some (.int l1), some (.int l2), some (.int l3), some (.int l4), some (.int l5), some (.int l6), some (.int l7), some (.int l8)] [] h := by
  unfold s_X9_differentLeads_46_b at hs
  refine ev_iload C rfl dX9_differentLeads_46 ?_
  refine ev_iload C rfl dX9_differentLeads_48 ?_
  refine ev_icmp_ge C (tgt := 96) (by decide) dX9_differentLeads_50 (fun q50 => ?_) (fun q50 => ?_)
  · replace hs := (if_pos q50).symm.trans hs
    exact Ev.keep [true, true, true, true, true, true, false, true, false] (t_X9_differentLeads_96 C K6 hs)
  · replace hs := (if_neg q50).symm.trans hs
    refine ev_iload C rfl dX9_differentLeads_53 ?_
    refine ev_if_ne C (tgt := 96) (by decide) dX9_differentLeads_55 (fun q55 => ?_) (fun q55 => ?_)
    · replace hs := (if_neg q55).symm.trans hs
      exact Ev.keep [true, true, true, true, true, true, false, true, false] (t_X9_differentLeads_96 C K6 hs)
    · replace hs := (if_pos q55).symm.trans hs
      refine ev_iload_n C rfl dX9_differentLeads_58 ?_
      refine ev_iload C rfl dX9_differentLeads_59 ?_
      refine ev_ishr C dX9_differentLeads_61 ?_
      refine ev_iconst C (v := 1) dX9_differentLeads_62 (by decide) ?_
      refine ev_iand C dX9_differentLeads_63 ?_
      refine ev_if_eq C (tgt := 87) (by decide) dX9_differentLeads_64 (fun q64 => ?_) (fun q64 => ?_)
      · replace hs := (if_pos q64).symm.trans hs
        exact Ev.keep [true, true, true, true, true, true, true, false, true] (t_X9_differentLeads_87 C K6 K46 hs)
      · replace hs := (if_neg q64).symm.trans hs
        refine ev_aload_n C (x := .ref l0) rfl trivial dX9_differentLeads_67 ?_
        obtain ⟨x68, e68, hs⟩ := aB hs
        refine ev_get C (ci := 9) (k := 1) rfl wu_9 (by decide) wf_X9_34 (gO_F e68) dX9_differentLeads_68 ?_
        refine ev_iload_n C rfl dX9_differentLeads_71 ?_
        refine ev_iload_n C rfl dX9_differentLeads_72 ?_
        refine ev_iload C rfl dX9_differentLeads_73 ?_
        obtain ⟨eo75, hs⟩ := kO_at hs
        obtain ⟨x75, h75, e75, hs⟩ := cI_at hs
        refine ev_callVN C (T_X3_leadOf _ _ _ _ _ _ _ e75) (ci := 3) rfl eo75 wc_X3_leadOf wn_X9_101 wi_X3_leadOf ws_X3_leadOf wz_X3 hy_X3_leadOf ⟨(Nat.le_of_ble_eq_true rfl), (Nat.le_of_ble_eq_true rfl)⟩ ⟨(Nat.le_refl _), (Nat.le_refl _)⟩ (Nat.le_of_ble_eq_true rfl) rfl dX9_differentLeads_75 ?_
        refine ev_iload C rfl dX9_differentLeads_78 ?_
        refine ev_icmp_ne C (tgt := 87) (by decide) dX9_differentLeads_80 (fun q80 => ?_) (fun q80 => ?_)
        · replace hs := (if_neg q80).symm.trans hs
          exact Ev.keep [true, true, true, true, true, true, true, false, true] (t_X9_differentLeads_87 C K6 K46 hs)
        · replace hs := (if_pos q80).symm.trans hs
          refine ev_iconst C (v := 1) dX9_differentLeads_83 (by decide) ?_
          refine ev_goto C (tgt := 88) (by decide) dX9_differentLeads_84 ?_
          exact Ev.keep [true, true, true, true, true, true, true, false, true] (t_X9_differentLeads_88 C K6 K46 hs)
theorem t_X9_differentLeads_46 (C : Cx p l s m args meth c B0 X RX9 "differentLeads" cX9_differentLeads 9 (some .int) []) {k6 : Nat → Int32 → Int32 → Int32 → Int32 → Int32 → aH → aO} (K6 : ∀ (l0 : Nat) (l1 : Int32) (l2 : Int32) (l3 : Int32) (l4 : Int32) (l5 : Int32) (h : aH), k6 l0 l1 l2 l3 l4 l5 h = some (r, h') → Ev p l e { frames := 1, cells := mc, slots := ms, locals := 23 } s m args below meth c D B0 X ws0 r h' mc ms 9 mc ms 6 [some (.ref l0), some (.int l1), some (.int l2), some (.int l3), some (.int l4), some (.int l5), none, none, none] [] h) : ∀ (n : Nat) {l0 : Nat} {l1 : Int32} {l2 : Int32} {l3 : Int32} {l4 : Int32} {l5 : Int32} {l6 : Int32} {l7 : Int32} {l8 : Int32} {h : aH} (hs : s_X9_differentLeads_46 k6 n l0 l1 l2 l3 l4 l5 l6 l7 l8 h = some (r, h')), Ev p l e { frames := 1, cells := mc, slots := ms, locals := 23 } s m args below meth c D B0 X ws0 r h' mc ms 9 mc ms 46 [some (.ref l0), some (.int l1), some (.int l2), some (.int l3), some (.int l4), some (.int l5), some (.int l6), some (.int l7), some (.int l8)] [] h
  | 0, _, _, _, _, _, _, _, _, _, _, hs => nomatch hs
  | n + 1, _, _, _, _, _, _, _, _, _, _, hs => t_X9_differentLeads_46_b C K6 (k46 := s_X9_differentLeads_46 k6 n) (fun _ _ _ _ _ _ _ _ _ _ hs => t_X9_differentLeads_46 C K6 n hs) hs
theorem t_X9_differentLeads_6_b (C : Cx p l s m args meth c B0 X RX9 "differentLeads" cX9_differentLeads 9 (some .int) [])   {k6 : Nat → Int32 → Int32 → Int32 → Int32 → Int32 → aH → aO} (K6 : ∀ (l0 : Nat) (l1 : Int32) (l2 : Int32) (l3 : Int32) (l4 : Int32) (l5 : Int32) (h : aH), k6 l0 l1 l2 l3 l4 l5 h = some (r, h') → Ev p l e { frames := 1, cells := mc, slots := ms, locals := 23 } s m args below meth c D B0 X ws0 r h' mc ms 9 mc ms 6 [some (.ref l0), some (.int l1), some (.int l2), some (.int l3), some (.int l4), some (.int l5), none, none, none] [] h) {l0 : Nat} {l1 : Int32} {l2 : Int32} {l3 : Int32} {l4 : Int32} {l5 : Int32} {h : aH} (hs : s_X9_differentLeads_6_b  k6 l0 l1 l2 l3 l4 l5 h = some (r, h')) : Ev p l e { frames := 1, cells := mc, slots := ms, locals := 23 } s m args below meth c D B0 X ws0 r h' mc ms 9 mc ms 6 [some (.ref l0), some (.int l1), some (.int l2), some (.int l3), some (.int l4), some (.int l5), none, none, none] [] h := by
  unfold s_X9_differentLeads_6_b at hs
  refine ev_iload C rfl dX9_differentLeads_6 ?_
  refine ev_aload_n C (x := .ref l0) rfl trivial dX9_differentLeads_8 ?_
  obtain ⟨x9, e9, hs⟩ := aB hs
  refine ev_get C (ci := 9) (k := 0) rfl wu_9 (by decide) wf_X9_30 (gO_F e9) dX9_differentLeads_9 ?_
  obtain ⟨x12, e12, hs⟩ := aB hs
  refine ev_getN C (ci := 2) (k := 15) rfl wu_2 (by decide) wg_X9_98 (gI_F e12) dX9_differentLeads_12 ?_
  refine ev_icmp_ge C (tgt := 117) (by decide) dX9_differentLeads_15 (fun q15 => ?_) (fun q15 => ?_)
  · replace hs := (if_pos q15).symm.trans hs
    refine ev_iload C rfl dX9_differentLeads_117 ?_
    cases hs
    exact ev_iret C rfl rfl (Nat.le_refl _) (Nat.le_refl _) rfl dX9_differentLeads_119
  · replace hs := (if_neg q15).symm.trans hs
    refine ev_iload_n C rfl dX9_differentLeads_18 ?_
    refine ev_iload C rfl dX9_differentLeads_19 ?_
    refine ev_ishr C dX9_differentLeads_21 ?_
    refine ev_iconst C (v := 1) dX9_differentLeads_22 (by decide) ?_
    refine ev_iand C dX9_differentLeads_23 ?_
    refine ev_if_eq C (tgt := 111) (by decide) dX9_differentLeads_24 (fun q24 => ?_) (fun q24 => ?_)
    · replace hs := (if_pos q24).symm.trans hs
      refine ev_iinc C (i := 5) (n := 1) (x := l5) (v := l5 + 1) rfl (congrArg (fun z => l5 + z) (show Int32.ofInt 1 = 1 by decide)) (by decide) dX9_differentLeads_111 ?_
      refine ev_goto C (tgt := 6) (by decide) dX9_differentLeads_114 ?_
      exact (K6 _ _ _ _ _ _ _ hs)
    · replace hs := (if_neg q24).symm.trans hs
      refine ev_aload_n C (x := .ref l0) rfl trivial dX9_differentLeads_27 ?_
      obtain ⟨x28, e28, hs⟩ := aB hs
      refine ev_get C (ci := 9) (k := 1) rfl wu_9 (by decide) wf_X9_34 (gO_F e28) dX9_differentLeads_28 ?_
      refine ev_iload_n C rfl dX9_differentLeads_31 ?_
      refine ev_iload_n C rfl dX9_differentLeads_32 ?_
      refine ev_iload C rfl dX9_differentLeads_33 ?_
      obtain ⟨eo35, hs⟩ := kO_at hs
      obtain ⟨x35, h35, e35, hs⟩ := cI_at hs
      refine ev_callVN C (T_X3_leadOf _ _ _ _ _ _ _ e35) (ci := 3) rfl eo35 wc_X3_leadOf wn_X9_101 wi_X3_leadOf ws_X3_leadOf wz_X3 hy_X3_leadOf ⟨(Nat.le_of_ble_eq_true rfl), (Nat.le_of_ble_eq_true rfl)⟩ ⟨(Nat.le_refl _), (Nat.le_refl _)⟩ (Nat.le_of_ble_eq_true rfl) rfl dX9_differentLeads_35 ?_
      refine ev_istore C (by decide) dX9_differentLeads_38 ?_
      refine ev_iconst C (v := 0) dX9_differentLeads_40 (by decide) ?_
      refine ev_istore C (by decide) dX9_differentLeads_41 ?_
      refine ev_iconst C (v := 0) dX9_differentLeads_43 (by decide) ?_
      refine ev_istore C (by decide) dX9_differentLeads_44 ?_
      exact (t_X9_differentLeads_46 C K6 FU hs)
theorem t_X9_differentLeads_6 (C : Cx p l s m args meth c B0 X RX9 "differentLeads" cX9_differentLeads 9 (some .int) [])   : ∀ (n : Nat) {l0 : Nat} {l1 : Int32} {l2 : Int32} {l3 : Int32} {l4 : Int32} {l5 : Int32} {h : aH} (hs : s_X9_differentLeads_6  n l0 l1 l2 l3 l4 l5 h = some (r, h')), Ev p l e { frames := 1, cells := mc, slots := ms, locals := 23 } s m args below meth c D B0 X ws0 r h' mc ms 9 mc ms 6 [some (.ref l0), some (.int l1), some (.int l2), some (.int l3), some (.int l4), some (.int l5), none, none, none] [] h
  | 0, _, _, _, _, _, _, _, hs => nomatch hs
  | n + 1, _, _, _, _, _, _, _, hs => t_X9_differentLeads_6_b C  (k6 := s_X9_differentLeads_6  n) (fun _ _ _ _ _ _ _ hs => t_X9_differentLeads_6 C  n hs) hs
theorem hy_X9_differentLeads : yX9_differentLeads.cls ≠ "java/lang/invoke/MethodHandle" ∧ yX9_differentLeads.cls ≠ "java/lang/invoke/VarHandle" ∧ (parseMethodDescriptor yX9_differentLeads.desc).map (fun d => d.parameters.length) = some 3 := by decide +kernel
theorem T_X9_differentLeads (o : Nat) (a1 : Int32) (a2 : Int32) (a3 : Int32) (h : aH) (r : aR) (h' : aH) (hs : s_X9_differentLeads o a1 a2 a3 h = some (r, h')) : Mt yX9_differentLeads (Cond.code yX9_differentLeads cX9_differentLeads 9 (some .int) :: aTB) 1 23 0 0 [.ref o, .int a1, .int a2, .int a3] h r h' := by
  unfold s_X9_differentLeads at hs
  refine Mt_of (k := 5) (by decide) rfl (fun p l e s m args below meth c D B0 X ws0 C => ?_)
  show Ev p l e { frames := 1, cells := 0, slots := 0, locals := 23 } s m args below meth c D B0 X ws0 r h' 0 0 9 0 0 0 [some (.ref o), some (.int a1), some (.int a2), some (.int a3), none, none, none, none, none] [] h
  refine ev_iconst C (v := 0) dX9_differentLeads_0 (by decide) ?_
  refine ev_istore C (by decide) dX9_differentLeads_1 ?_
  refine ev_iconst C (v := 0) dX9_differentLeads_3 (by decide) ?_
  refine ev_istore C (by decide) dX9_differentLeads_4 ?_
  exact (t_X9_differentLeads_6 C  FU hs)
end
