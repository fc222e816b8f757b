-- X14_nextHere
theorem dX14_nextHere_0 : decode cX14_nextHere 0 = .ok (.iconst 0, 1) := by decide +kernel
theorem dX14_nextHere_1 : decode cX14_nextHere 1 = .ok (.istore_n 1, 1) := by decide +kernel
theorem dX14_nextHere_2 : decode cX14_nextHere 2 = .ok (.iconst 0, 1) := by decide +kernel
theorem dX14_nextHere_3 : decode cX14_nextHere 3 = .ok (.istore_n 2, 1) := by decide +kernel
theorem dX14_nextHere_4 : decode cX14_nextHere 4 = .ok (.iload_n 2, 1) := by decide +kernel
theorem dX14_nextHere_5 : decode cX14_nextHere 5 = .ok (.aload_n 0, 1) := by decide +kernel
theorem dX14_nextHere_6 : decode cX14_nextHere 6 = .ok (.getfield 376, 3) := by decide +kernel
theorem dX14_nextHere_9 : decode cX14_nextHere 9 = .ok (.getfield 252, 3) := by decide +kernel
theorem dX14_nextHere_12 : decode cX14_nextHere 12 = .ok (.iconst 0, 1) := by decide +kernel
theorem dX14_nextHere_13 : decode cX14_nextHere 13 = .ok (.iaload, 1) := by decide +kernel
theorem dX14_nextHere_14 : decode cX14_nextHere 14 = .ok (.if_icmp .ge 209, 3) := by decide +kernel
theorem dX14_nextHere_17 : decode cX14_nextHere 17 = .ok (.aload_n 0, 1) := by decide +kernel
theorem dX14_nextHere_18 : decode cX14_nextHere 18 = .ok (.getfield 44, 3) := by decide +kernel
theorem dX14_nextHere_21 : decode cX14_nextHere 21 = .ok (.iload_n 2, 1) := by decide +kernel
theorem dX14_nextHere_22 : decode cX14_nextHere 22 = .ok (.iaload, 1) := by decide +kernel
theorem dX14_nextHere_23 : decode cX14_nextHere 23 = .ok (.istore_n 3, 1) := by decide +kernel
theorem dX14_nextHere_24 : decode cX14_nextHere 24 = .ok (.iconst 0, 1) := by decide +kernel
theorem dX14_nextHere_25 : decode cX14_nextHere 25 = .ok (.istore 4, 2) := by decide +kernel
theorem dX14_nextHere_27 : decode cX14_nextHere 27 = .ok (.iconst 0, 1) := by decide +kernel
theorem dX14_nextHere_28 : decode cX14_nextHere 28 = .ok (.istore 5, 2) := by decide +kernel
theorem dX14_nextHere_30 : decode cX14_nextHere 30 = .ok (.iload 5, 2) := by decide +kernel
theorem dX14_nextHere_32 : decode cX14_nextHere 32 = .ok (.aload_n 0, 1) := by decide +kernel
theorem dX14_nextHere_33 : decode cX14_nextHere 33 = .ok (.getfield 376, 3) := by decide +kernel
theorem dX14_nextHere_36 : decode cX14_nextHere 36 = .ok (.getfield 320, 3) := by decide +kernel
theorem dX14_nextHere_39 : decode cX14_nextHere 39 = .ok (.if_icmp .ge 127, 3) := by decide +kernel
theorem dX14_nextHere_42 : decode cX14_nextHere 42 = .ok (.iload 4, 2) := by decide +kernel
theorem dX14_nextHere_44 : decode cX14_nextHere 44 = .ok (.ifCond .ne 122, 3) := by decide +kernel
theorem dX14_nextHere_47 : decode cX14_nextHere 47 = .ok (.aload_n 0, 1) := by decide +kernel
theorem dX14_nextHere_48 : decode cX14_nextHere 48 = .ok (.getfield 376, 3) := by decide +kernel
theorem dX14_nextHere_51 : decode cX14_nextHere 51 = .ok (.getfield 323, 3) := by decide +kernel
theorem dX14_nextHere_54 : decode cX14_nextHere 54 = .ok (.iload 5, 2) := by decide +kernel
theorem dX14_nextHere_56 : decode cX14_nextHere 56 = .ok (.iaload, 1) := by decide +kernel
theorem dX14_nextHere_57 : decode cX14_nextHere 57 = .ok (.iload_n 2, 1) := by decide +kernel
theorem dX14_nextHere_58 : decode cX14_nextHere 58 = .ok (.if_icmp .eq 6, 3) := by decide +kernel
theorem dX14_nextHere_61 : decode cX14_nextHere 61 = .ok (.goto 99, 3) := by decide +kernel
theorem dX14_nextHere_64 : decode cX14_nextHere 64 = .ok (.aload_n 0, 1) := by decide +kernel
theorem dX14_nextHere_65 : decode cX14_nextHere 65 = .ok (.getfield 376, 3) := by decide +kernel
theorem dX14_nextHere_68 : decode cX14_nextHere 68 = .ok (.getfield 335, 3) := by decide +kernel
theorem dX14_nextHere_71 : decode cX14_nextHere 71 = .ok (.iload 5, 2) := by decide +kernel
theorem dX14_nextHere_73 : decode cX14_nextHere 73 = .ok (.iaload, 1) := by decide +kernel
theorem dX14_nextHere_74 : decode cX14_nextHere 74 = .ok (.aload_n 0, 1) := by decide +kernel
theorem dX14_nextHere_75 : decode cX14_nextHere 75 = .ok (.getfield 376, 3) := by decide +kernel
theorem dX14_nextHere_78 : decode cX14_nextHere 78 = .ok (.getfield 329, 3) := by decide +kernel
theorem dX14_nextHere_81 : decode cX14_nextHere 81 = .ok (.iload 5, 2) := by decide +kernel
theorem dX14_nextHere_83 : decode cX14_nextHere 83 = .ok (.iaload, 1) := by decide +kernel
theorem dX14_nextHere_84 : decode cX14_nextHere 84 = .ok (.if_icmp .eq 35, 3) := by decide +kernel
theorem dX14_nextHere_87 : decode cX14_nextHere 87 = .ok (.aload_n 0, 1) := by decide +kernel
theorem dX14_nextHere_88 : decode cX14_nextHere 88 = .ok (.aload_n 0, 1) := by decide +kernel
theorem dX14_nextHere_89 : decode cX14_nextHere 89 = .ok (.getfield 376, 3) := by decide +kernel
theorem dX14_nextHere_92 : decode cX14_nextHere 92 = .ok (.aload_n 0, 1) := by decide +kernel
theorem dX14_nextHere_93 : decode cX14_nextHere 93 = .ok (.getfield 376, 3) := by decide +kernel
theorem dX14_nextHere_96 : decode cX14_nextHere 96 = .ok (.getfield 329, 3) := by decide +kernel
theorem dX14_nextHere_99 : decode cX14_nextHere 99 = .ok (.iload 5, 2) := by decide +kernel
theorem dX14_nextHere_101 : decode cX14_nextHere 101 = .ok (.iaload, 1) := by decide +kernel
theorem dX14_nextHere_102 : decode cX14_nextHere 102 = .ok (.aload_n 0, 1) := by decide +kernel
theorem dX14_nextHere_103 : decode cX14_nextHere 103 = .ok (.getfield 376, 3) := by decide +kernel
theorem dX14_nextHere_106 : decode cX14_nextHere 106 = .ok (.getfield 335, 3) := by decide +kernel
theorem dX14_nextHere_109 : decode cX14_nextHere 109 = .ok (.iload 5, 2) := by decide +kernel
theorem dX14_nextHere_111 : decode cX14_nextHere 111 = .ok (.iaload, 1) := by decide +kernel
theorem dX14_nextHere_112 : decode cX14_nextHere 112 = .ok (.invokevirtual 419, 3) := by decide +kernel
theorem dX14_nextHere_115 : decode cX14_nextHere 115 = .ok (.iconst 1, 1) := by decide +kernel
theorem dX14_nextHere_116 : decode cX14_nextHere 116 = .ok (.if_icmp .ne 7, 3) := by decide +kernel
theorem dX14_nextHere_119 : decode cX14_nextHere 119 = .ok (.iconst 1, 1) := by decide +kernel
theorem dX14_nextHere_120 : decode cX14_nextHere 120 = .ok (.goto 4, 3) := by decide +kernel
theorem dX14_nextHere_123 : decode cX14_nextHere 123 = .ok (.iconst 0, 1) := by decide +kernel
theorem dX14_nextHere_124 : decode cX14_nextHere 124 = .ok (.istore 4, 2) := by decide +kernel
theorem dX14_nextHere_126 : decode cX14_nextHere 126 = .ok (.iload 4, 2) := by decide +kernel
theorem dX14_nextHere_128 : decode cX14_nextHere 128 = .ok (.ifCond .eq 32, 3) := by decide +kernel
theorem dX14_nextHere_131 : decode cX14_nextHere 131 = .ok (.aload_n 0, 1) := by decide +kernel
theorem dX14_nextHere_132 : decode cX14_nextHere 132 = .ok (.aload_n 0, 1) := by decide +kernel
theorem dX14_nextHere_133 : decode cX14_nextHere 133 = .ok (.getfield 376, 3) := by decide +kernel
theorem dX14_nextHere_136 : decode cX14_nextHere 136 = .ok (.aload_n 0, 1) := by decide +kernel
theorem dX14_nextHere_137 : decode cX14_nextHere 137 = .ok (.getfield 376, 3) := by decide +kernel
theorem dX14_nextHere_140 : decode cX14_nextHere 140 = .ok (.getfield 326, 3) := by decide +kernel
theorem dX14_nextHere_143 : decode cX14_nextHere 143 = .ok (.iload 5, 2) := by decide +kernel
theorem dX14_nextHere_145 : decode cX14_nextHere 145 = .ok (.iaload, 1) := by decide +kernel
theorem dX14_nextHere_146 : decode cX14_nextHere 146 = .ok (.aload_n 0, 1) := by decide +kernel
theorem dX14_nextHere_147 : decode cX14_nextHere 147 = .ok (.getfield 376, 3) := by decide +kernel
theorem dX14_nextHere_150 : decode cX14_nextHere 150 = .ok (.getfield 329, 3) := by decide +kernel
theorem dX14_nextHere_153 : decode cX14_nextHere 153 = .ok (.iload 5, 2) := by decide +kernel
theorem dX14_nextHere_155 : decode cX14_nextHere 155 = .ok (.iaload, 1) := by decide +kernel
theorem dX14_nextHere_156 : decode cX14_nextHere 156 = .ok (.invokevirtual 419, 3) := by decide +kernel
theorem dX14_nextHere_159 : decode cX14_nextHere 159 = .ok (.istore_n 3, 1) := by decide +kernel
theorem dX14_nextHere_160 : decode cX14_nextHere 160 = .ok (.iinc 5 1, 3) := by decide +kernel
theorem dX14_nextHere_163 : decode cX14_nextHere 163 = .ok (.goto (-133), 3) := by decide +kernel
theorem dX14_nextHere_166 : decode cX14_nextHere 166 = .ok (.iload_n 3, 1) := by decide +kernel
theorem dX14_nextHere_167 : decode cX14_nextHere 167 = .ok (.aload_n 0, 1) := by decide +kernel
theorem dX14_nextHere_168 : decode cX14_nextHere 168 = .ok (.getfield 376, 3) := by decide +kernel
theorem dX14_nextHere_171 : decode cX14_nextHere 171 = .ok (.getfield 307, 3) := by decide +kernel
theorem dX14_nextHere_174 : decode cX14_nextHere 174 = .ok (.iload_n 2, 1) := by decide +kernel
theorem dX14_nextHere_175 : decode cX14_nextHere 175 = .ok (.iaload, 1) := by decide +kernel
theorem dX14_nextHere_176 : decode cX14_nextHere 176 = .ok (.aload_n 0, 1) := by decide +kernel
theorem dX14_nextHere_177 : decode cX14_nextHere 177 = .ok (.getfield 376, 3) := by decide +kernel
theorem dX14_nextHere_180 : decode cX14_nextHere 180 = .ok (.getfield 317, 3) := by decide +kernel
theorem dX14_nextHere_183 : decode cX14_nextHere 183 = .ok (.iload_n 2, 1) := by decide +kernel
theorem dX14_nextHere_184 : decode cX14_nextHere 184 = .ok (.iaload, 1) := by decide +kernel
theorem dX14_nextHere_185 : decode cX14_nextHere 185 = .ok (.invokestatic 313, 3) := by decide +kernel
theorem dX14_nextHere_188 : decode cX14_nextHere 188 = .ok (.ifCond .ne 6, 3) := by decide +kernel
theorem dX14_nextHere_191 : decode cX14_nextHere 191 = .ok (.bipush (-2), 2) := by decide +kernel
theorem dX14_nextHere_193 : decode cX14_nextHere 193 = .ok (.ireturn, 1) := by decide +kernel
theorem dX14_nextHere_194 : decode cX14_nextHere 194 = .ok (.iload_n 1, 1) := by decide +kernel
theorem dX14_nextHere_195 : decode cX14_nextHere 195 = .ok (.aload_n 0, 1) := by decide +kernel
theorem dX14_nextHere_196 : decode cX14_nextHere 196 = .ok (.getfield 376, 3) := by decide +kernel
theorem dX14_nextHere_199 : decode cX14_nextHere 199 = .ok (.iload_n 2, 1) := by decide +kernel
theorem dX14_nextHere_200 : decode cX14_nextHere 200 = .ok (.invokevirtual 273, 3) := by decide +kernel
theorem dX14_nextHere_203 : decode cX14_nextHere 203 = .ok (.imul, 1) := by decide +kernel
theorem dX14_nextHere_204 : decode cX14_nextHere 204 = .ok (.iload_n 3, 1) := by decide +kernel
theorem dX14_nextHere_205 : decode cX14_nextHere 205 = .ok (.iadd, 1) := by decide +kernel
theorem dX14_nextHere_206 : decode cX14_nextHere 206 = .ok (.aload_n 0, 1) := by decide +kernel
theorem dX14_nextHere_207 : decode cX14_nextHere 207 = .ok (.getfield 376, 3) := by decide +kernel
theorem dX14_nextHere_210 : decode cX14_nextHere 210 = .ok (.getfield 307, 3) := by decide +kernel
theorem dX14_nextHere_213 : decode cX14_nextHere 213 = .ok (.iload_n 2, 1) := by decide +kernel
theorem dX14_nextHere_214 : decode cX14_nextHere 214 = .ok (.iaload, 1) := by decide +kernel
theorem dX14_nextHere_215 : decode cX14_nextHere 215 = .ok (.isub, 1) := by decide +kernel
theorem dX14_nextHere_216 : decode cX14_nextHere 216 = .ok (.istore_n 1, 1) := by decide +kernel
theorem dX14_nextHere_217 : decode cX14_nextHere 217 = .ok (.iinc 2 1, 3) := by decide +kernel
theorem dX14_nextHere_220 : decode cX14_nextHere 220 = .ok (.goto (-216), 3) := by decide +kernel
theorem dX14_nextHere_223 : decode cX14_nextHere 223 = .ok (.iload_n 1, 1) := by decide +kernel
theorem dX14_nextHere_224 : decode cX14_nextHere 224 = .ok (.ireturn, 1) := by decide +kernel
def s_X14_nextHere_166 (k4 : Nat → Int32 → Int32 → aH → aO) (l0 : Nat) (l1 : Int32) (l2 : Int32) (l3 : Int32) (h : aH) : aO :=
  (gO h (.ref l0) 14 4).bind fun x168 => (gO h (.ref x168) 13 1).bind fun x171 => (ldI .int h (.ref x171) l2).bind fun x175 => (gO h (.ref l0) 14 4).bind fun x177 => (gO h (.ref x177) 13 2).bind fun x180 => (ldI .int h (.ref x180) l2).bind fun x184 => cI (s_X14_in l3 x175 x184 h) fun x185 h185 => if x185 = 0 then (some (.inl (some (.int (-2))), h185)) else ((gO h185 (.ref l0) 14 4).bind fun x196 => kO h185 x196 13 (cI (s_X13_size x196 l2 h185) fun x200 h200 => (gO h200 (.ref l0) 14 4).bind fun x207 => (gO h200 (.ref x207) 13 1).bind fun x210 => (ldI .int h200 (.ref x210) l2).bind fun x214 => k4 l0 (((l1 * x200) + l3) - x214) (l2 + 1) h200))
def s_X14_nextHere_124 (k4 : Nat → Int32 → Int32 → aH → aO) (k30 : Nat → Int32 → Int32 → Int32 → Int32 → Int32 → aH → aO) (l0 : Nat) (l1 : Int32) (l2 : Int32) (l3 : Int32) (l5 : Int32) (s0 : Int32) (h : aH) : aO :=
  if s0 = 0 then (k30 l0 l1 l2 l3 s0 (l5 + 1) h) else ((gO h (.ref l0) 14 4).bind fun x133 => (gO h (.ref l0) 14 4).bind fun x137 => (gO h (.ref x137) 13 9).bind fun x140 => (ldI .int h (.ref x140) l5).bind fun x145 => (gO h (.ref l0) 14 4).bind fun x147 => (gO h (.ref x147) 13 10).bind fun x150 => (ldI .int h (.ref x150) l5).bind fun x155 => kO h l0 14 (cI (s_X14_valueOf l0 x133 x145 x155 h) fun x156 h156 => k30 l0 l1 l2 x156 s0 (l5 + 1) h156))
def s_X14_nextHere_119 (k4 : Nat → Int32 → Int32 → aH → aO) (k30 : Nat → Int32 → Int32 → Int32 → Int32 → Int32 → aH → aO) (l0 : Nat) (l1 : Int32) (l2 : Int32) (l3 : Int32) (l5 : Int32) (h : aH) : aO :=
  s_X14_nextHere_124 k4 k30 l0 l1 l2 l3 l5 1 h
def s_X14_nextHere_30_b (k4 : Nat → Int32 → Int32 → aH → aO) (k30 : Nat → Int32 → Int32 → Int32 → Int32 → Int32 → aH → aO) (l0 : Nat) (l1 : Int32) (l2 : Int32) (l3 : Int32) (l4 : Int32) (l5 : Int32) (h : aH) : aO :=
  (gO h (.ref l0) 14 4).bind fun x33 => (gI h (.ref x33) 13 6).bind fun x36 => if x36 ≤ l5 then (s_X14_nextHere_166 k4 l0 l1 l2 l3 h) else (if l4 = 0 then ((gO h (.ref l0) 14 4).bind fun x48 => (gO h (.ref x48) 13 8).bind fun x51 => (ldI .int h (.ref x51) l5).bind fun x56 => if x56 = l2 then ((gO h (.ref l0) 14 4).bind fun x65 => (gO h (.ref x65) 13 11).bind fun x68 => (ldI .int h (.ref x68) l5).bind fun x73 => (gO h (.ref l0) 14 4).bind fun x75 => (gO h (.ref x75) 13 10).bind fun x78 => (ldI .int h (.ref x78) l5).bind fun x83 => if x73 = x83 then (s_X14_nextHere_119 k4 k30 l0 l1 l2 l3 l5 h) else ((gO h (.ref l0) 14 4).bind fun x89 => (gO h (.ref l0) 14 4).bind fun x93 => (gO h (.ref x93) 13 10).bind fun x96 => (ldI .int h (.ref x96) l5).bind fun x101 => (gO h (.ref l0) 14 4).bind fun x103 => (gO h (.ref x103) 13 11).bind fun x106 => (ldI .int h (.ref x106) l5).bind fun x111 => kO h l0 14 (cI (s_X14_valueOf l0 x89 x101 x111 h) fun x112 h112 => if x112 = 1 then (s_X14_nextHere_119 k4 k30 l0 l1 l2 l3 l5 h112) else (s_X14_nextHere_124 k4 k30 l0 l1 l2 l3 l5 0 h112)))) else (k30 l0 l1 l2 l3 l4 (l5 + 1) h)) else (s_X14_nextHere_166 k4 l0 l1 l2 l3 h))
def s_X14_nextHere_30 (k4 : Nat → Int32 → Int32 → aH → aO) (n : Nat) : Nat → Int32 → Int32 → Int32 → Int32 → Int32 → aH → aO := lpF (fun _ _ _ _ _ _ _ => none) (s_X14_nextHere_30_b k4) n
def s_X14_nextHere_4_b  (k4 : Nat → Int32 → Int32 → aH → aO) (l0 : Nat) (l1 : Int32) (l2 : Int32) (h : aH) : aO :=
  (gO h (.ref l0) 14 4).bind fun x6 => (gO h (.ref x6) 13 0).bind fun x9 => (ldI .int h (.ref x9) 0).bind fun x13 => if x13 ≤ l2 then (some (.inl (some (.int l1)), h)) else ((gO h (.ref l0) 14 29).bind fun x18 => (ldI .int h (.ref x18) l2).bind fun x22 => s_X14_nextHere_30 k4 FU l0 l1 l2 x22 0 0 h)
def s_X14_nextHere_4  (n : Nat) : Nat → Int32 → Int32 → aH → aO := lpF (fun _ _ _ _ => none) (s_X14_nextHere_4_b ) n
def s_X14_nextHere (o : Nat) (h : aH) : aO :=
  s_X14_nextHere_4 FU o 0 0 h
section
variable {p : Program} {l : Launch} {e : Env} {s : State} {m : MethodId} {args : Array Value} {below : List Frame} {meth : Method} {c : Code} {D : va_G} {B0 : Nat} {X : Nat → Nat} {ws0 : va_W} {r : aR} {h' : aH} {mc ms : Nat}
theorem t_X14_nextHere_166 (C : Cx p l s m args meth c B0 X RX14 "nextHere" cX14_nextHere 6 (some .int) []) {k4 : Nat → Int32 → Int32 → aH → aO} (K4 : ∀ (l0 : Nat) (l1 : Int32) (l2 : Int32) (h : aH), k4 l0 l1 l2 h = some (r, h') → Ev p l e { frames := 3, cells := mc, slots := ms, locals := 75 } s m args below meth c D B0 X ws0 r h' mc ms 6 mc ms 4 [some (.ref l0), some (.int l1), some (.int l2), none, none, none] [] h) {l0 : Nat} {l1 : Int32} {l2 : Int32} {l3 : Int32} {h : aH} (hs : s_X14_nextHere_166 k4 l0 l1 l2 l3 h = some (r, h')) : Ev p l e { frames := 3, cells := mc, slots := ms, locals := 75 } s m args below meth c D B0 X ws0 r h' mc ms 6 mc ms 166 [some (.ref l0), some (.int l1), some (.int l2), some (.int l3), none, none] [] h := by
  unfold s_X14_nextHere_166 at hs
  refine ev_iload_n C rfl dX14_nextHere_166 ?_
  refine ev_aload_n C (x := .ref l0) rfl trivial dX14_nextHere_167 ?_
  obtain ⟨x168, e168, hs⟩ := aB hs
  refine ev_get C (ci := 14) (k := 4) rfl wu_14 (by decide) wf_X14_376 (gO_F e168) dX14_nextHere_168 ?_
  obtain ⟨x171, e171, hs⟩ := aB hs
  refine ev_getN C (ci := 13) (k := 1) rfl wu_13 (by decide) wg_X14_307 (gO_F e171) dX14_nextHere_171 ?_
  refine ev_iload_n C rfl dX14_nextHere_174 ?_
  obtain ⟨x175, e175, hs⟩ := aB hs
  refine ev_iald C e175 dX14_nextHere_175 ?_
  refine ev_aload_n C (x := .ref l0) rfl trivial dX14_nextHere_176 ?_
  obtain ⟨x177, e177, hs⟩ := aB hs
  refine ev_get C (ci := 14) (k := 4) rfl wu_14 (by decide) wf_X14_376 (gO_F e177) dX14_nextHere_177 ?_
  obtain ⟨x180, e180, hs⟩ := aB hs
  refine ev_getN C (ci := 13) (k := 2) rfl wu_13 (by decide) wg_X14_317 (gO_F e180) dX14_nextHere_180 ?_
  refine ev_iload_n C rfl dX14_nextHere_183 ?_
  obtain ⟨x184, e184, hs⟩ := aB hs
  refine ev_iald C e184 dX14_nextHere_184 ?_
  obtain ⟨x185, h185, e185, hs⟩ := cI_at hs
  refine ev_callS C (T_X14_in _ _ _ _ _ _ e185) wc_X14_in wm_X14_313 wt_X14_in wz_X14 hy_X14_in ⟨(Nat.le_of_ble_eq_true rfl), (Nat.le_of_ble_eq_true rfl)⟩ ⟨(Nat.le_refl _), (Nat.le_refl _)⟩ (Nat.le_of_ble_eq_true rfl) rfl dX14_nextHere_185 ?_
  refine ev_if_ne C (tgt := 194) (by decide) dX14_nextHere_188 (fun q188 => ?_) (fun q188 => ?_)
  · replace hs := (if_neg q188).symm.trans hs
    refine ev_iload_n C rfl dX14_nextHere_194 ?_
    refine ev_aload_n C (x := .ref l0) rfl trivial dX14_nextHere_195 ?_
    obtain ⟨x196, e196, hs⟩ := aB hs
    refine ev_get C (ci := 14) (k := 4) rfl wu_14 (by decide) wf_X14_376 (gO_F e196) dX14_nextHere_196 ?_
    refine ev_iload_n C rfl dX14_nextHere_199 ?_
    obtain ⟨eo200, hs⟩ := kO_at hs
    obtain ⟨x200, h200, e200, hs⟩ := cI_at hs
    refine ev_callV C (T_X13_size _ _ _ _ _ e200) (ci := 13) rfl eo200 wc_X13_size wm_X14_273 wi_X13_size ws_X13_size wz_X13 hy_X13_size ⟨(Nat.le_of_ble_eq_true rfl), (Nat.le_of_ble_eq_true rfl)⟩ ⟨(Nat.le_refl _), (Nat.le_refl _)⟩ (Nat.le_of_ble_eq_true rfl) rfl dX14_nextHere_200 ?_
    refine ev_imul C dX14_nextHere_203 ?_
    refine ev_iload_n C rfl dX14_nextHere_204 ?_
    refine ev_iadd C dX14_nextHere_205 ?_
    refine ev_aload_n C (x := .ref l0) rfl trivial dX14_nextHere_206 ?_
    obtain ⟨x207, e207, hs⟩ := aB hs
    refine ev_get C (ci := 14) (k := 4) rfl wu_14 (by decide) wf_X14_376 (gO_F e207) dX14_nextHere_207 ?_
    obtain ⟨x210, e210, hs⟩ := aB hs
    refine ev_getN C (ci := 13) (k := 1) rfl wu_13 (by decide) wg_X14_307 (gO_F e210) dX14_nextHere_210 ?_
    refine ev_iload_n C rfl dX14_nextHere_213 ?_
    obtain ⟨x214, e214, hs⟩ := aB hs
    refine ev_iald C e214 dX14_nextHere_214 ?_
    refine ev_isub C dX14_nextHere_215 ?_
    refine ev_istore_n C (by decide) dX14_nextHere_216 ?_
    refine ev_iinc C (i := 2) (n := 1) (x := l2) (v := l2 + 1) rfl (congrArg (fun z => l2 + z) (show Int32.ofInt 1 = 1 by decide)) (by decide) dX14_nextHere_217 ?_
    refine ev_goto C (tgt := 4) (by decide) dX14_nextHere_220 ?_
    exact Ev.keep [true, true, true, false, true, true] (K4 _ _ _ _ hs)
  · replace hs := (if_pos q188).symm.trans hs
    refine ev_bipush C (v := (-2)) dX14_nextHere_191 (by decide) ?_
    cases hs
    exact ev_iret C rfl rfl (Nat.le_refl _) (Nat.le_refl _) rfl dX14_nextHere_193
theorem t_X14_nextHere_124 (C : Cx p l s m args meth c B0 X RX14 "nextHere" cX14_nextHere 6 (some .int) []) {k4 : Nat → Int32 → Int32 → aH → aO} {k30 : Nat → Int32 → Int32 → Int32 → Int32 → Int32 → aH → aO} (K4 : ∀ (l0 : Nat) (l1 : Int32) (l2 : Int32) (h : aH), k4 l0 l1 l2 h = some (r, h') → Ev p l e { frames := 3, cells := mc, slots := ms, locals := 75 } s m args below meth c D B0 X ws0 r h' mc ms 6 mc ms 4 [some (.ref l0), some (.int l1), some (.int l2), none, none, none] [] h) (K30 : ∀ (l0 : Nat) (l1 : Int32) (l2 : Int32) (l3 : Int32) (l4 : Int32) (l5 : Int32) (h : aH), k30 l0 l1 l2 l3 l4 l5 h = some (r, h') → Ev p l e { frames := 3, cells := mc, slots := ms, locals := 75 } s m args below meth c D B0 X ws0 r h' mc ms 6 mc ms 30 [some (.ref l0), some (.int l1), some (.int l2), some (.int l3), some (.int l4), some (.int l5)] [] h) {l0 : Nat} {l1 : Int32} {l2 : Int32} {l3 : Int32} {l5 : Int32} {s0 : Int32} {h : aH} (hs : s_X14_nextHere_124 k4 k30 l0 l1 l2 l3 l5 s0 h = some (r, h')) : Ev p l e { frames := 3, cells := mc, slots := ms, locals := 75 } s m args below meth c D B0 X ws0 r h' mc ms 6 mc ms 124 [some (.ref l0), some (.int l1), some (.int l2), some (.int l3), none, some (.int l5)] [.int s0] h := by
  unfold s_X14_nextHere_124 at hs
  refine ev_istore C (by decide) dX14_nextHere_124 ?_
  refine ev_iload C rfl dX14_nextHere_126 ?_
  refine ev_if_eq C (tgt := 160) (by decide) dX14_nextHere_128 (fun q128 => ?_) (fun q128 => ?_)
  · replace hs := (if_pos q128).symm.trans hs
    refine ev_iinc C (i := 5) (n := 1) (x := l5) (v := l5 + 1) rfl (congrArg (fun z => l5 + z) (show Int32.ofInt 1 = 1 by decide)) (by decide) dX14_nextHere_160 ?_
    refine ev_goto C (tgt := 30) (by decide) dX14_nextHere_163 ?_
    exact (K30 _ _ _ _ _ _ _ hs)
  · replace hs := (if_neg q128).symm.trans hs
    refine ev_aload_n C (x := .ref l0) rfl trivial dX14_nextHere_131 ?_
    refine ev_aload_n C (x := .ref l0) rfl trivial dX14_nextHere_132 ?_
    obtain ⟨x133, e133, hs⟩ := aB hs
    refine ev_get C (ci := 14) (k := 4) rfl wu_14 (by decide) wf_X14_376 (gO_F e133) dX14_nextHere_133 ?_
    refine ev_aload_n C (x := .ref l0) rfl trivial dX14_nextHere_136 ?_
    obtain ⟨x137, e137, hs⟩ := aB hs
    refine ev_get C (ci := 14) (k := 4) rfl wu_14 (by decide) wf_X14_376 (gO_F e137) dX14_nextHere_137 ?_
    obtain ⟨x140, e140, hs⟩ := aB hs
    refine ev_getN C (ci := 13) (k := 9) rfl wu_13 (by decide) wg_X14_326 (gO_F e140) dX14_nextHere_140 ?_
    refine ev_iload C rfl dX14_nextHere_143 ?_
    obtain ⟨x145, e145, hs⟩ := aB hs
    refine ev_iald C e145 dX14_nextHere_145 ?_
    refine ev_aload_n C (x := .ref l0) rfl trivial dX14_nextHere_146 ?_
    obtain ⟨x147, e147, hs⟩ := aB hs
    refine ev_get C (ci := 14) (k := 4) rfl wu_14 (by decide) wf_X14_376 (gO_F e147) dX14_nextHere_147 ?_
    obtain ⟨x150, e150, hs⟩ := aB hs
    refine ev_getN C (ci := 13) (k := 10) rfl wu_13 (by decide) wg_X14_329 (gO_F e150) dX14_nextHere_150 ?_
    refine ev_iload C rfl dX14_nextHere_153 ?_
    obtain ⟨x155, e155, hs⟩ := aB hs
    refine ev_iald C e155 dX14_nextHere_155 ?_
    obtain ⟨eo156, hs⟩ := kO_at hs
    obtain ⟨x156, h156, e156, hs⟩ := cI_at hs
    refine ev_callV C (T_X14_valueOf _ _ _ _ _ _ _ e156) (ci := 14) rfl eo156 wc_X14_valueOf wm_X14_419 wi_X14_valueOf ws_X14_valueOf wz_X14 hy_X14_valueOf ⟨(Nat.le_of_ble_eq_true rfl), (Nat.le_of_ble_eq_true rfl)⟩ ⟨(Nat.le_refl _), (Nat.le_refl _)⟩ (Nat.le_of_ble_eq_true rfl) rfl dX14_nextHere_156 ?_
    refine ev_istore_n C (by decide) dX14_nextHere_159 ?_
    refine ev_iinc C (i := 5) (n := 1) (x := l5) (v := l5 + 1) rfl (congrArg (fun z => l5 + z) (show Int32.ofInt 1 = 1 by decide)) (by decide) dX14_nextHere_160 ?_
    refine ev_goto C (tgt := 30) (by decide) dX14_nextHere_163 ?_
    exact (K30 _ _ _ _ _ _ _ hs)
theorem t_X14_nextHere_119 (C : Cx p l s m args meth c B0 X RX14 "nextHere" cX14_nextHere 6 (some .int) []) {k4 : Nat → Int32 → Int32 → aH → aO} {k30 : Nat → Int32 → Int32 → Int32 → Int32 → Int32 → aH → aO} (K4 : ∀ (l0 : Nat) (l1 : Int32) (l2 : Int32) (h : aH), k4 l0 l1 l2 h = some (r, h') → Ev p l e { frames := 3, cells := mc, slots := ms, locals := 75 } s m args below meth c D B0 X ws0 r h' mc ms 6 mc ms 4 [some (.ref l0), some (.int l1), some (.int l2), none, none, none] [] h) (K30 : ∀ (l0 : Nat) (l1 : Int32) (l2 : Int32) (l3 : Int32) (l4 : Int32) (l5 : Int32) (h : aH), k30 l0 l1 l2 l3 l4 l5 h = some (r, h') → Ev p l e { frames := 3, cells := mc, slots := ms, locals := 75 } s m args below meth c D B0 X ws0 r h' mc ms 6 mc ms 30 [some (.ref l0), some (.int l1), some (.int l2), some (.int l3), some (.int l4), some (.int l5)] [] h) {l0 : Nat} {l1 : Int32} {l2 : Int32} {l3 : Int32} {l5 : Int32} {h : aH} (hs : s_X14_nextHere_119 k4 k30 l0 l1 l2 l3 l5 h = some (r, h')) : Ev p l e { frames := 3, cells := mc, slots := ms, locals := 75 } s m args below meth c D B0 X ws0 r h' mc ms 6 mc ms 119 [some (.ref l0), some (.int l1), some (.int l2), some (.int l3), none, some (.int l5)] [] h := by
  unfold s_X14_nextHere_119 at hs
  refine ev_iconst C (v := 1) dX14_nextHere_119 (by decide) ?_
  refine ev_goto C (tgt := 124) (by decide) dX14_nextHere_120 ?_
  exact (t_X14_nextHere_124 C K4 K30 hs)
theorem t_X14_nextHere_30_b (C : Cx p l s m args meth c B0 X RX14 "nextHere" cX14_nextHere 6 (some .int) []) {k4 : Nat → Int32 → Int32 → aH → aO} (K4 : ∀ (l0 : Nat) (l1 : Int32) (l2 : Int32) (h : aH), k4 l0 l1 l2 h = some (r, h') → Ev p l e { frames := 3, cells := mc, slots := ms, locals := 75 } s m args below meth c D B0 X ws0 r h' mc ms 6 mc ms 4 [some (.ref l0), some (.int l1), some (.int l2), none, none, none] [] h) {k30 : Nat → Int32 → Int32 → Int32 → Int32 → Int32 → aH → aO} (K30 : ∀ (l0 : Nat) (l1 : Int32) (l2 : Int32) (l3 : Int32) (l4 : Int32) (l5 : Int32) (h : aH), k30 l0 l1 l2 l3 l4 l5 h = some (r, h') → Ev p l e { frames := 3, cells := mc, slots := ms, locals := 75 } s m args below meth c D B0 X ws0 r h' mc ms 6 mc ms 30 [some (.ref l0), some (.int l1), some (.int l2), some (.int l3), some (.int l4), some (.int l5)] [] h) {l0 : Nat} {l1 : Int32} {l2 : Int32} {l3 : Int32} {l4 : Int32} {l5 : Int32} {h : aH} (hs : s_X14_nextHere_30_b k4 k30 l0 l1 l2 l3 l4 l5 h = some (r, h')) : Ev p l e { frames := 3, cells := mc, slots := ms, locals := 75 } s m args below meth c D B0 X ws0 r h' mc ms 6 mc ms 30 [some (.ref l0), some (.int l1), some (.int l2), some (.int l3), some (.int l4), some (.int l5)] [] h := by
  unfold s_X14_nextHere_30_b at hs
  refine ev_iload C rfl dX14_nextHere_30 ?_
  refine ev_aload_n C (x := .ref l0) rfl trivial dX14_nextHere_32 ?_
  obtain ⟨x33, e33, hs⟩ := aB hs
  refine ev_get C (ci := 14) (k := 4) rfl wu_14 (by decide) wf_X14_376 (gO_F e33) dX14_nextHere_33 ?_
  obtain ⟨x36, e36, hs⟩ := aB hs
  refine ev_getN C (ci := 13) (k := 6) rfl wu_13 (by decide) wg_X14_320 (gI_F e36) dX14_nextHere_36 ?_
  refine ev_icmp_ge C (tgt := 166) (by decide) dX14_nextHere_39 (fun q39 => ?_) (fun q39 => ?_)
  · replace hs := (if_pos q39).symm.trans hs
    exact Ev.keep [true, true, true, true, false, false] (t_X14_nextHere_166 C K4 hs)
  · replace hs := (if_neg q39).symm.trans hs
    refine ev_iload C rfl dX14_nextHere_42 ?_
    refine ev_if_ne C (tgt := 166) (by decide) dX14_nextHere_44 (fun q44 => ?_) (fun q44 => ?_)
    · replace hs := (if_neg q44).symm.trans hs
      exact Ev.keep [true, true, true, true, false, false] (t_X14_nextHere_166 C K4 hs)
    · replace hs := (if_pos q44).symm.trans hs
      refine ev_aload_n C (x := .ref l0) rfl trivial dX14_nextHere_47 ?_
      obtain ⟨x48, e48, hs⟩ := aB hs
      refine ev_get C (ci := 14) (k := 4) rfl wu_14 (by decide) wf_X14_376 (gO_F e48) dX14_nextHere_48 ?_
      obtain ⟨x51, e51, hs⟩ := aB hs
      refine ev_getN C (ci := 13) (k := 8) rfl wu_13 (by decide) wg_X14_323 (gO_F e51) dX14_nextHere_51 ?_
      refine ev_iload C rfl dX14_nextHere_54 ?_
      obtain ⟨x56, e56, hs⟩ := aB hs
      refine ev_iald C e56 dX14_nextHere_56 ?_
      refine ev_iload_n C rfl dX14_nextHere_57 ?_
      refine ev_icmp_eq C (tgt := 64) (by decide) dX14_nextHere_58 (fun q58 => ?_) (fun q58 => ?_)
      · replace hs := (if_pos q58).symm.trans hs
        refine ev_aload_n C (x := .ref l0) rfl trivial dX14_nextHere_64 ?_
        obtain ⟨x65, e65, hs⟩ := aB hs
        refine ev_get C (ci := 14) (k := 4) rfl wu_14 (by decide) wf_X14_376 (gO_F e65) dX14_nextHere_65 ?_
        obtain ⟨x68, e68, hs⟩ := aB hs
        refine ev_getN C (ci := 13) (k := 11) rfl wu_13 (by decide) wg_X14_335 (gO_F e68) dX14_nextHere_68 ?_
        refine ev_iload C rfl dX14_nextHere_71 ?_
        obtain ⟨x73, e73, hs⟩ := aB hs
        refine ev_iald C e73 dX14_nextHere_73 ?_
        refine ev_aload_n C (x := .ref l0) rfl trivial dX14_nextHere_74 ?_
        obtain ⟨x75, e75, hs⟩ := aB hs
        refine ev_get C (ci := 14) (k := 4) rfl wu_14 (by decide) wf_X14_376 (gO_F e75) dX14_nextHere_75 ?_
        obtain ⟨x78, e78, hs⟩ := aB hs
        refine ev_getN C (ci := 13) (k := 10) rfl wu_13 (by decide) wg_X14_329 (gO_F e78) dX14_nextHere_78 ?_
        refine ev_iload C rfl dX14_nextHere_81 ?_
        obtain ⟨x83, e83, hs⟩ := aB hs
        refine ev_iald C e83 dX14_nextHere_83 ?_
        refine ev_icmp_eq C (tgt := 119) (by decide) dX14_nextHere_84 (fun q84 => ?_) (fun q84 => ?_)
        · replace hs := (if_pos q84).symm.trans hs
          exact Ev.keep [true, true, true, true, false, true] (t_X14_nextHere_119 C K4 K30 hs)
        · replace hs := (if_neg q84).symm.trans hs
          refine ev_aload_n C (x := .ref l0) rfl trivial dX14_nextHere_87 ?_
          refine ev_aload_n C (x := .ref l0) rfl trivial dX14_nextHere_88 ?_
          obtain ⟨x89, e89, hs⟩ := aB hs
          refine ev_get C (ci := 14) (k := 4) rfl wu_14 (by decide) wf_X14_376 (gO_F e89) dX14_nextHere_89 ?_
          refine ev_aload_n C (x := .ref l0) rfl trivial dX14_nextHere_92 ?_
          obtain ⟨x93, e93, hs⟩ := aB hs
          refine ev_get C (ci := 14) (k := 4) rfl wu_14 (by decide) wf_X14_376 (gO_F e93) dX14_nextHere_93 ?_
          obtain ⟨x96, e96, hs⟩ := aB hs
          refine ev_getN C (ci := 13) (k := 10) rfl wu_13 (by decide) wg_X14_329 (gO_F e96) dX14_nextHere_96 ?_
          refine ev_iload C rfl dX14_nextHere_99 ?_
          obtain ⟨x101, e101, hs⟩ := aB hs
          refine ev_iald C e101 dX14_nextHere_101 ?_
          refine ev_aload_n C (x := .ref l0) rfl trivial dX14_nextHere_102 ?_
          obtain ⟨x103, e103, hs⟩ := aB hs
          refine ev_get C (ci := 14) (k := 4) rfl wu_14 (by decide) wf_X14_376 (gO_F e103) dX14_nextHere_103 ?_
          obtain ⟨x106, e106, hs⟩ := aB hs
          refine ev_getN C (ci := 13) (k := 11) rfl wu_13 (by decide) wg_X14_335 (gO_F e106) dX14_nextHere_106 ?_
          refine ev_iload C rfl dX14_nextHere_109 ?_
          obtain ⟨x111, e111, hs⟩ := aB hs
          refine ev_iald C e111 dX14_nextHere_111 ?_
          obtain ⟨eo112, hs⟩ := kO_at hs
          obtain ⟨x112, h112, e112, hs⟩ := cI_at hs
          refine ev_callV C (T_X14_valueOf _ _ _ _ _ _ _ e112) (ci := 14) rfl eo112 wc_X14_valueOf wm_X14_419 wi_X14_valueOf ws_X14_valueOf wz_X14 hy_X14_valueOf ⟨(Nat.le_of_ble_eq_true rfl), (Nat.le_of_ble_eq_true rfl)⟩ ⟨(Nat.le_refl _), (Nat.le_refl _)⟩ (Nat.le_of_ble_eq_true rfl) rfl dX14_nextHere_112 ?_
          refine ev_iconst C (v := 1) dX14_nextHere_115 (by decide) ?_
          refine ev_icmp_ne C (tgt := 123) (by decide) dX14_nextHere_116 (fun q116 => ?_) (fun q116 => ?_)
          · replace hs := (if_neg q116).symm.trans hs
            refine ev_iconst C (v := 0) dX14_nextHere_123 (by decide) ?_
            exact Ev.keep [true, true, true, true, false, true] (t_X14_nextHere_124 C K4 K30 hs)
          · replace hs := (if_pos q116).symm.trans hs
            exact Ev.keep [true, true, true, true, false, true] (t_X14_nextHere_119 C K4 K30 hs)
      · replace hs := (if_neg q58).symm.trans hs
        refine ev_goto C (tgt := 160) (by decide) dX14_nextHere_61 ?_
        refine ev_iinc C (i := 5) (n := 1) (x := l5) (v := l5 + 1) rfl (congrArg (fun z => l5 + z) (show Int32.ofInt 1 = 1 by decide)) (by decide) dX14_nextHere_160 ?_
        refine ev_goto C (tgt := 30) (by decide) dX14_nextHere_163 ?_
        exact (K30 _ _ _ _ _ _ _ hs)
theorem t_X14_nextHere_30 (C : Cx p l s m args meth c B0 X RX14 "nextHere" cX14_nextHere 6 (some .int) []) {k4 : Nat → Int32 → Int32 → aH → aO} (K4 : ∀ (l0 : Nat) (l1 : Int32) (l2 : Int32) (h : aH), k4 l0 l1 l2 h = some (r, h') → Ev p l e { frames := 3, cells := mc, slots := ms, locals := 75 } s m args below meth c D B0 X ws0 r h' mc ms 6 mc ms 4 [some (.ref l0), some (.int l1), some (.int l2), none, none, none] [] h) : ∀ (n : Nat) {l0 : Nat} {l1 : Int32} {l2 : Int32} {l3 : Int32} {l4 : Int32} {l5 : Int32} {h : aH} (hs : s_X14_nextHere_30 k4 n l0 l1 l2 l3 l4 l5 h = some (r, h')), Ev p l e { frames := 3, cells := mc, slots := ms, locals := 75 } s m args below meth c D B0 X ws0 r h' mc ms 6 mc ms 30 [some (.ref l0), some (.int l1), some (.int l2), some (.int l3), some (.int l4), some (.int l5)] [] h
  | 0, _, _, _, _, _, _, _, hs => nomatch hs
  | n + 1, _, _, _, _, _, _, _, hs => t_X14_nextHere_30_b C K4 (k30 := s_X14_nextHere_30 k4 n) (fun _ _ _ _ _ _ _ hs => t_X14_nextHere_30 C K4 n hs) hs
theorem t_X14_nextHere_4_b (C : Cx p l s m args meth c B0 X RX14 "nextHere" cX14_nextHere 6 (some .int) [])   {k4 : Nat → Int32 → Int32 → aH → aO} (K4 : ∀ (l0 : Nat) (l1 : Int32) (l2 : Int32) (h : aH), k4 l0 l1 l2 h = some (r, h') → Ev p l e { frames := 3, cells := mc, slots := ms, locals := 75 } s m args below meth c D B0 X ws0 r h' mc ms 6 mc ms 4 [some (.ref l0), some (.int l1), some (.int l2), none, none, none] [] h) {l0 : Nat} {l1 : Int32} {l2 : Int32} {h : aH} (hs : s_X14_nextHere_4_b  k4 l0 l1 l2 h = some (r, h')) : Ev p l e { frames := 3, cells := mc, slots := ms, locals := 75 } s m args below meth c D B0 X ws0 r h' mc ms 6 mc ms 4 [some (.ref l0), some (.int l1), some (.int l2), none, none, none] [] h := by
  unfold s_X14_nextHere_4_b at hs
  refine ev_iload_n C rfl dX14_nextHere_4 ?_
  refine ev_aload_n C (x := .ref l0) rfl trivial dX14_nextHere_5 ?_
  obtain ⟨x6, e6, hs⟩ := aB hs
  refine ev_get C (ci := 14) (k := 4) rfl wu_14 (by decide) wf_X14_376 (gO_F e6) dX14_nextHere_6 ?_
  obtain ⟨x9, e9, hs⟩ := aB hs
  refine ev_getN C (ci := 13) (k := 0) rfl wu_13 (by decide) wg_X14_252 (gO_F e9) dX14_nextHere_9 ?_
  refine ev_iconst C (v := 0) dX14_nextHere_12 (by decide) ?_
  obtain ⟨x13, e13, hs⟩ := aB hs
  refine ev_iald C e13 dX14_nextHere_13 ?_
  refine ev_icmp_ge C (tgt := 223) (by decide) dX14_nextHere_14 (fun q14 => ?_) (fun q14 => ?_)
  · replace hs := (if_pos q14).symm.trans hs
    refine ev_iload_n C rfl dX14_nextHere_223 ?_
    cases hs
    exact ev_iret C rfl rfl (Nat.le_refl _) (Nat.le_refl _) rfl dX14_nextHere_224
  · replace hs := (if_neg q14).symm.trans hs
    refine ev_aload_n C (x := .ref l0) rfl trivial dX14_nextHere_17 ?_
    obtain ⟨x18, e18, hs⟩ := aB hs
    refine ev_get C (ci := 14) (k := 29) rfl wu_14 (by decide) wf_X14_44 (gO_F e18) dX14_nextHere_18 ?_
    refine ev_iload_n C rfl dX14_nextHere_21 ?_
    obtain ⟨x22, e22, hs⟩ := aB hs
    refine ev_iald C e22 dX14_nextHere_22 ?_
    refine ev_istore_n C (by decide) dX14_nextHere_23 ?_
    refine ev_iconst C (v := 0) dX14_nextHere_24 (by decide) ?_
    refine ev_istore C (by decide) dX14_nextHere_25 ?_
    refine ev_iconst C (v := 0) dX14_nextHere_27 (by decide) ?_
    refine ev_istore C (by decide) dX14_nextHere_28 ?_
    exact (t_X14_nextHere_30 C K4 FU hs)
theorem t_X14_nextHere_4 (C : Cx p l s m args meth c B0 X RX14 "nextHere" cX14_nextHere 6 (some .int) [])   : ∀ (n : Nat) {l0 : Nat} {l1 : Int32} {l2 : Int32} {h : aH} (hs : s_X14_nextHere_4  n l0 l1 l2 h = some (r, h')), Ev p l e { frames := 3, cells := mc, slots := ms, locals := 75 } s m args below meth c D B0 X ws0 r h' mc ms 6 mc ms 4 [some (.ref l0), some (.int l1), some (.int l2), none, none, none] [] h
  | 0, _, _, _, _, hs => nomatch hs
  | n + 1, _, _, _, _, hs => t_X14_nextHere_4_b C  (k4 := s_X14_nextHere_4  n) (fun _ _ _ _ hs => t_X14_nextHere_4 C  n hs) hs
theorem hy_X14_nextHere : yX14_nextHere.cls ≠ "java/lang/invoke/MethodHandle" ∧ yX14_nextHere.cls ≠ "java/lang/invoke/VarHandle" ∧ (parseMethodDescriptor yX14_nextHere.desc).map (fun d => d.parameters.length) = some 0 := by decide +kernel
theorem T_X14_nextHere (o : Nat) (h : aH) (r : aR) (h' : aH) (hs : s_X14_nextHere o h = some (r, h')) : Mt yX14_nextHere (Cond.code yX14_nextHere cX14_nextHere 6 (some .int) :: aTB) 3 75 0 0 [.ref o] h r h' := by
  unfold s_X14_nextHere at hs
  refine Mt_of (k := 5) (by decide) rfl (fun p l e s m args below meth c D B0 X ws0 C => ?_)
  show Ev p l e { frames := 3, cells := 0, slots := 0, locals := 75 } s m args below meth c D B0 X ws0 r h' 0 0 6 0 0 0 [some (.ref o), none, none, none, none, none] [] h
  refine ev_iconst C (v := 0) dX14_nextHere_0 (by decide) ?_
  refine ev_istore_n C (by decide) dX14_nextHere_1 ?_
  refine ev_iconst C (v := 0) dX14_nextHere_2 (by decide) ?_
  refine ev_istore_n C (by decide) dX14_nextHere_3 ?_
  exact (t_X14_nextHere_4 C  FU hs)
end
-- X14_leads
theorem dX14_leads_0 : decode cX14_leads 0 = .ok (.iconst 0, 1) := by decide +kernel
theorem dX14_leads_1 : decode cX14_leads 1 = .ok (.istore_n 1, 1) := by decide +kernel
theorem dX14_leads_2 : decode cX14_leads 2 = .ok (.iload_n 1, 1) := by decide +kernel
theorem dX14_leads_3 : decode cX14_leads 3 = .ok (.aload_n 0, 1) := by decide +kernel
theorem dX14_leads_4 : decode cX14_leads 4 = .ok (.getfield 379, 3) := by decide +kernel
theorem dX14_leads_7 : decode cX14_leads 7 = .ok (.if_icmp .ge 77, 3) := by decide +kernel
theorem dX14_leads_10 : decode cX14_leads 10 = .ok (.iconst 0, 1) := by decide +kernel
theorem dX14_leads_11 : decode cX14_leads 11 = .ok (.istore_n 2, 1) := by decide +kernel
theorem dX14_leads_12 : decode cX14_leads 12 = .ok (.iload_n 2, 1) := by decide +kernel
theorem dX14_leads_13 : decode cX14_leads 13 = .ok (.aload_n 0, 1) := by decide +kernel
theorem dX14_leads_14 : decode cX14_leads 14 = .ok (.getfield 382, 3) := by decide +kernel
theorem dX14_leads_17 : decode cX14_leads 17 = .ok (.if_icmp .ge 61, 3) := by decide +kernel
theorem dX14_leads_20 : decode cX14_leads 20 = .ok (.iconst 0, 1) := by decide +kernel
theorem dX14_leads_21 : decode cX14_leads 21 = .ok (.istore_n 3, 1) := by decide +kernel
theorem dX14_leads_22 : decode cX14_leads 22 = .ok (.iload_n 3, 1) := by decide +kernel
theorem dX14_leads_23 : decode cX14_leads 23 = .ok (.aload_n 0, 1) := by decide +kernel
theorem dX14_leads_24 : decode cX14_leads 24 = .ok (.getfield 388, 3) := by decide +kernel
theorem dX14_leads_27 : decode cX14_leads 27 = .ok (.if_icmp .ge 45, 3) := by decide +kernel
theorem dX14_leads_30 : decode cX14_leads 30 = .ok (.aload_n 0, 1) := by decide +kernel
theorem dX14_leads_31 : decode cX14_leads 31 = .ok (.iload_n 1, 1) := by decide +kernel
theorem dX14_leads_32 : decode cX14_leads 32 = .ok (.invokevirtual 416, 3) := by decide +kernel
theorem dX14_leads_35 : decode cX14_leads 35 = .ok (.aload_n 0, 1) := by decide +kernel
theorem dX14_leads_36 : decode cX14_leads 36 = .ok (.iload_n 2, 1) := by decide +kernel
theorem dX14_leads_37 : decode cX14_leads 37 = .ok (.invokevirtual 459, 3) := by decide +kernel
theorem dX14_leads_40 : decode cX14_leads 40 = .ok (.aload_n 0, 1) := by decide +kernel
theorem dX14_leads_41 : decode cX14_leads 41 = .ok (.iload_n 3, 1) := by decide +kernel
theorem dX14_leads_42 : decode cX14_leads 42 = .ok (.invokevirtual 462, 3) := by decide +kernel
theorem dX14_leads_45 : decode cX14_leads 45 = .ok (.aload_n 0, 1) := by decide +kernel
theorem dX14_leads_46 : decode cX14_leads 46 = .ok (.getfield 55, 3) := by decide +kernel
theorem dX14_leads_49 : decode cX14_leads 49 = .ok (.iload_n 1, 1) := by decide +kernel
theorem dX14_leads_50 : decode cX14_leads 50 = .ok (.bipush 9, 2) := by decide +kernel
theorem dX14_leads_52 : decode cX14_leads 52 = .ok (.imul, 1) := by decide +kernel
theorem dX14_leads_53 : decode cX14_leads 53 = .ok (.iload_n 2, 1) := by decide +kernel
theorem dX14_leads_54 : decode cX14_leads 54 = .ok (.iadd, 1) := by decide +kernel
theorem dX14_leads_55 : decode cX14_leads 55 = .ok (.bipush 27, 2) := by decide +kernel
theorem dX14_leads_57 : decode cX14_leads 57 = .ok (.imul, 1) := by decide +kernel
theorem dX14_leads_58 : decode cX14_leads 58 = .ok (.iload_n 3, 1) := by decide +kernel
theorem dX14_leads_59 : decode cX14_leads 59 = .ok (.iadd, 1) := by decide +kernel
theorem dX14_leads_60 : decode cX14_leads 60 = .ok (.aload_n 0, 1) := by decide +kernel
theorem dX14_leads_61 : decode cX14_leads 61 = .ok (.invokevirtual 465, 3) := by decide +kernel
theorem dX14_leads_64 : decode cX14_leads 64 = .ok (.i2s, 1) := by decide +kernel
theorem dX14_leads_65 : decode cX14_leads 65 = .ok (.sastore, 1) := by decide +kernel
theorem dX14_leads_66 : decode cX14_leads 66 = .ok (.iinc 3 1, 3) := by decide +kernel
theorem dX14_leads_69 : decode cX14_leads 69 = .ok (.goto (-47), 3) := by decide +kernel
theorem dX14_leads_72 : decode cX14_leads 72 = .ok (.iinc 2 1, 3) := by decide +kernel
theorem dX14_leads_75 : decode cX14_leads 75 = .ok (.goto (-63), 3) := by decide +kernel
theorem dX14_leads_78 : decode cX14_leads 78 = .ok (.iinc 1 1, 3) := by decide +kernel
theorem dX14_leads_81 : decode cX14_leads 81 = .ok (.goto (-79), 3) := by decide +kernel
theorem dX14_leads_84 : decode cX14_leads 84 = .ok (.return_, 1) := by decide +kernel
def s_X14_leads_22_b (k2 : Nat → Int32 → aH → aO) (k12 : Nat → Int32 → Int32 → aH → aO) (k22 : Nat → Int32 → Int32 → Int32 → aH → aO) (l0 : Nat) (l1 : Int32) (l2 : Int32) (l3 : Int32) (h : aH) : aO :=
  (gI h (.ref l0) 14 22).bind fun x24 => if x24 ≤ l3 then (k12 l0 l1 (l2 + 1) h) else (kO h l0 14 (cN (s_X14_lays l0 l1 h) fun h32 => kO h32 l0 14 (cN (s_X14_pushed l0 l2 h32) fun h37 => kO h37 l0 14 (cN (s_X14_worlded l0 l3 h37) fun h42 => (gO h42 (.ref l0) 14 33).bind fun x46 => kO h42 l0 14 (cI (s_X14_nextHere l0 h42) fun x61 h61 => (stN .short h61 (.ref x46) ((((l1 * 9) + l2) * 27) + l3) x61.toInt16.toInt32).bind fun h65 => k22 l0 l1 l2 (l3 + 1) h65)))))
def s_X14_leads_22 (k2 : Nat → Int32 → aH → aO) (k12 : Nat → Int32 → Int32 → aH → aO) (n : Nat) : Nat → Int32 → Int32 → Int32 → aH → aO := lpF (fun _ _ _ _ _ => none) (s_X14_leads_22_b k2 k12) n
def s_X14_leads_12_b (k2 : Nat → Int32 → aH → aO) (k12 : Nat → Int32 → Int32 → aH → aO) (l0 : Nat) (l1 : Int32) (l2 : Int32) (h : aH) : aO :=
  (gI h (.ref l0) 14 21).bind fun x14 => if x14 ≤ l2 then (k2 l0 (l1 + 1) h) else (s_X14_leads_22 k2 k12 FU l0 l1 l2 0 h)
def s_X14_leads_12 (k2 : Nat → Int32 → aH → aO) (n : Nat) : Nat → Int32 → Int32 → aH → aO := lpF (fun _ _ _ _ => none) (s_X14_leads_12_b k2) n
def s_X14_leads_2_b  (k2 : Nat → Int32 → aH → aO) (l0 : Nat) (l1 : Int32) (h : aH) : aO :=
  (gI h (.ref l0) 14 20).bind fun x4 => if x4 ≤ l1 then (some (.inl none, h)) else (s_X14_leads_12 k2 FU l0 l1 0 h)
def s_X14_leads_2  (n : Nat) : Nat → Int32 → aH → aO := lpF (fun _ _ _ => none) (s_X14_leads_2_b ) n
def s_X14_leads (o : Nat) (h : aH) : aO :=
  s_X14_leads_2 FU o 0 h
section
variable {p : Program} {l : Launch} {e : Env} {s : State} {m : MethodId} {args : Array Value} {below : List Frame} {meth : Method} {c : Code} {D : va_G} {B0 : Nat} {X : Nat → Nat} {ws0 : va_W} {r : aR} {h' : aH} {mc ms : Nat}
theorem t_X14_leads_22_b (C : Cx p l s m args meth c B0 X RX14 "leads" cX14_leads 4 none []) {k2 : Nat → Int32 → aH → aO} {k12 : Nat → Int32 → Int32 → aH → aO} (K2 : ∀ (l0 : Nat) (l1 : Int32) (h : aH), k2 l0 l1 h = some (r, h') → Ev p l e { frames := 4, cells := mc, slots := ms, locals := 100 } s m args below meth c D B0 X ws0 r h' mc ms 4 mc ms 2 [some (.ref l0), some (.int l1), none, none] [] h) (K12 : ∀ (l0 : Nat) (l1 : Int32) (l2 : Int32) (h : aH), k12 l0 l1 l2 h = some (r, h') → Ev p l e { frames := 4, cells := mc, slots := ms, locals := 100 } s m args below meth c D B0 X ws0 r h' mc ms 4 mc ms 12 [some (.ref l0), some (.int l1), some (.int l2), none] [] h) {k22 : Nat → Int32 → Int32 → Int32 → aH → aO} (K22 : ∀ (l0 : Nat) (l1 : Int32) (l2 : Int32) (l3 : Int32) (h : aH), k22 l0 l1 l2 l3 h = some (r, h') → Ev p l e { frames := 4, cells := mc, slots := ms, locals := 100 } s m args below meth c D B0 X ws0 r h' mc ms 4 mc ms 22 [some (.ref l0), some (.int l1), some (.int l2), some (.int l3)] [] h) {l0 : Nat} {l1 : Int32} {l2 : Int32} {l3 : Int32} {h : aH} (hs : s_X14_leads_22_b k2 k12 k22 l0 l1 l2 l3 h = some (r, h')) : Ev p l e { frames := 4, cells := mc, slots := ms, locals := 100 } s m args below meth c D B0 X ws0 r h' mc ms 4 mc ms 22 [some (.ref l0), some (.int l1), some (.int l2), some (.int l3)] [] h := by
  unfold s_X14_leads_22_b at hs
  refine ev_iload_n C rfl dX14_leads_22 ?_
  refine ev_aload_n C (x := .ref l0) rfl trivial dX14_leads_23 ?_
  obtain ⟨x24, e24, hs⟩ := aB hs
  refine ev_get C (ci := 14) (k := 22) rfl wu_14 (by decide) wf_X14_388 (gI_F e24) dX14_leads_24 ?_
  refine ev_icmp_ge C (tgt := 72) (by decide) dX14_leads_27 (fun q27 => ?_) (fun q27 => ?_)
  · replace hs := (if_pos q27).symm.trans hs
    refine ev_iinc C (i := 2) (n := 1) (x := l2) (v := l2 + 1) rfl (congrArg (fun z => l2 + z) (show Int32.ofInt 1 = 1 by decide)) (by decide) dX14_leads_72 ?_
    refine ev_goto C (tgt := 12) (by decide) dX14_leads_75 ?_
    exact Ev.keep [true, true, true, false] (K12 _ _ _ _ hs)
  · replace hs := (if_neg q27).symm.trans hs
    refine ev_aload_n C (x := .ref l0) rfl trivial dX14_leads_30 ?_
    refine ev_iload_n C rfl dX14_leads_31 ?_
    obtain ⟨eo32, hs⟩ := kO_at hs
    obtain ⟨h32, e32, hs⟩ := cN_at hs
    refine ev_callV C (T_X14_lays _ _ _ _ _ e32) (ci := 14) rfl eo32 wc_X14_lays wm_X14_416 wi_X14_lays ws_X14_lays wz_X14 hy_X14_lays ⟨(Nat.le_of_ble_eq_true rfl), (Nat.le_of_ble_eq_true rfl)⟩ ⟨(Nat.le_refl _), (Nat.le_refl _)⟩ (Nat.le_of_ble_eq_true rfl) rfl dX14_leads_32 ?_
    refine ev_aload_n C (x := .ref l0) rfl trivial dX14_leads_35 ?_
    refine ev_iload_n C rfl dX14_leads_36 ?_
    obtain ⟨eo37, hs⟩ := kO_at hs
    obtain ⟨h37, e37, hs⟩ := cN_at hs
    refine ev_callV C (T_X14_pushed _ _ _ _ _ e37) (ci := 14) rfl eo37 wc_X14_pushed wm_X14_459 wi_X14_pushed ws_X14_pushed wz_X14 hy_X14_pushed ⟨(Nat.le_of_ble_eq_true rfl), (Nat.le_of_ble_eq_true rfl)⟩ ⟨(Nat.le_refl _), (Nat.le_refl _)⟩ (Nat.le_of_ble_eq_true rfl) rfl dX14_leads_37 ?_
    refine ev_aload_n C (x := .ref l0) rfl trivial dX14_leads_40 ?_
    refine ev_iload_n C rfl dX14_leads_41 ?_
    obtain ⟨eo42, hs⟩ := kO_at hs
    obtain ⟨h42, e42, hs⟩ := cN_at hs
    refine ev_callV C (T_X14_worlded _ _ _ _ _ e42) (ci := 14) rfl eo42 wc_X14_worlded wm_X14_462 wi_X14_worlded ws_X14_worlded wz_X14 hy_X14_worlded ⟨(Nat.le_of_ble_eq_true rfl), (Nat.le_of_ble_eq_true rfl)⟩ ⟨(Nat.le_refl _), (Nat.le_refl _)⟩ (Nat.le_of_ble_eq_true rfl) rfl dX14_leads_42 ?_
    refine ev_aload_n C (x := .ref l0) rfl trivial dX14_leads_45 ?_
    obtain ⟨x46, e46, hs⟩ := aB hs
    refine ev_get C (ci := 14) (k := 33) rfl wu_14 (by decide) wf_X14_55 (gO_F e46) dX14_leads_46 ?_
    refine ev_iload_n C rfl dX14_leads_49 ?_
    refine ev_bipush C (v := 9) dX14_leads_50 (by decide) ?_
    refine ev_imul C dX14_leads_52 ?_
    refine ev_iload_n C rfl dX14_leads_53 ?_
    refine ev_iadd C dX14_leads_54 ?_
    refine ev_bipush C (v := 27) dX14_leads_55 (by decide) ?_
    refine ev_imul C dX14_leads_57 ?_
    refine ev_iload_n C rfl dX14_leads_58 ?_
    refine ev_iadd C dX14_leads_59 ?_
    refine ev_aload_n C (x := .ref l0) rfl trivial dX14_leads_60 ?_
    obtain ⟨eo61, hs⟩ := kO_at hs
    obtain ⟨x61, h61, e61, hs⟩ := cI_at hs
    refine ev_callV C (T_X14_nextHere _ _ _ _ e61) (ci := 14) rfl eo61 wc_X14_nextHere wm_X14_465 wi_X14_nextHere ws_X14_nextHere wz_X14 hy_X14_nextHere ⟨(Nat.le_of_ble_eq_true rfl), (Nat.le_of_ble_eq_true rfl)⟩ ⟨(Nat.le_refl _), (Nat.le_refl _)⟩ (Nat.le_of_ble_eq_true rfl) rfl dX14_leads_61 ?_
    refine ev_i2s C dX14_leads_64 ?_
    obtain ⟨h65, e65, hs⟩ := aB hs
    refine ev_sast C e65 dX14_leads_65 ?_
    refine ev_iinc C (i := 3) (n := 1) (x := l3) (v := l3 + 1) rfl (congrArg (fun z => l3 + z) (show Int32.ofInt 1 = 1 by decide)) (by decide) dX14_leads_66 ?_
    refine ev_goto C (tgt := 22) (by decide) dX14_leads_69 ?_
    exact (K22 _ _ _ _ _ hs)
theorem t_X14_leads_22 (C : Cx p l s m args meth c B0 X RX14 "leads" cX14_leads 4 none []) {k2 : Nat → Int32 → aH → aO} {k12 : Nat → Int32 → Int32 → aH → aO} (K2 : ∀ (l0 : Nat) (l1 : Int32) (h : aH), k2 l0 l1 h = some (r, h') → Ev p l e { frames := 4, cells := mc, slots := ms, locals := 100 } s m args below meth c D B0 X ws0 r h' mc ms 4 mc ms 2 [some (.ref l0), some (.int l1), none, none] [] h) (K12 : ∀ (l0 : Nat) (l1 : Int32) (l2 : Int32) (h : aH), k12 l0 l1 l2 h = some (r, h') → Ev p l e { frames := 4, cells := mc, slots := ms, locals := 100 } s m args below meth c D B0 X ws0 r h' mc ms 4 mc ms 12 [some (.ref l0), some (.int l1), some (.int l2), none] [] h) : ∀ (n : Nat) {l0 : Nat} {l1 : Int32} {l2 : Int32} {l3 : Int32} {h : aH} (hs : s_X14_leads_22 k2 k12 n l0 l1 l2 l3 h = some (r, h')), Ev p l e { frames := 4, cells := mc, slots := ms, locals := 100 } s m args below meth c D B0 X ws0 r h' mc ms 4 mc ms 22 [some (.ref l0), some (.int l1), some (.int l2), some (.int l3)] [] h
  | 0, _, _, _, _, _, hs => nomatch hs
  | n + 1, _, _, _, _, _, hs => t_X14_leads_22_b C K2 K12 (k22 := s_X14_leads_22 k2 k12 n) (fun _ _ _ _ _ hs => t_X14_leads_22 C K2 K12 n hs) hs
theorem t_X14_leads_12_b (C : Cx p l s m args meth c B0 X RX14 "leads" cX14_leads 4 none []) {k2 : Nat → Int32 → aH → aO} (K2 : ∀ (l0 : Nat) (l1 : Int32) (h : aH), k2 l0 l1 h = some (r, h') → Ev p l e { frames := 4, cells := mc, slots := ms, locals := 100 } s m args below meth c D B0 X ws0 r h' mc ms 4 mc ms 2 [some (.ref l0), some (.int l1), none, none] [] h) {k12 : Nat → Int32 → Int32 → aH → aO} (K12 : ∀ (l0 : Nat) (l1 : Int32) (l2 : Int32) (h : aH), k12 l0 l1 l2 h = some (r, h') → Ev p l e { frames := 4, cells := mc, slots := ms, locals := 100 } s m args below meth c D B0 X ws0 r h' mc ms 4 mc ms 12 [some (.ref l0), some (.int l1), some (.int l2), none] [] h) {l0 : Nat} {l1 : Int32} {l2 : Int32} {h : aH} (hs : s_X14_leads_12_b k2 k12 l0 l1 l2 h = some (r, h')) : Ev p l e { frames := 4, cells := mc, slots := ms, locals := 100 } s m args below meth c D B0 X ws0 r h' mc ms 4 mc ms 12 [some (.ref l0), some (.int l1), some (.int l2), none] [] h := by
  unfold s_X14_leads_12_b at hs
  refine ev_iload_n C rfl dX14_leads_12 ?_
  refine ev_aload_n C (x := .ref l0) rfl trivial dX14_leads_13 ?_
  obtain ⟨x14, e14, hs⟩ := aB hs
  refine ev_get C (ci := 14) (k := 21) rfl wu_14 (by decide) wf_X14_382 (gI_F e14) dX14_leads_14 ?_
  refine ev_icmp_ge C (tgt := 78) (by decide) dX14_leads_17 (fun q17 => ?_) (fun q17 => ?_)
  · replace hs := (if_pos q17).symm.trans hs
    refine ev_iinc C (i := 1) (n := 1) (x := l1) (v := l1 + 1) rfl (congrArg (fun z => l1 + z) (show Int32.ofInt 1 = 1 by decide)) (by decide) dX14_leads_78 ?_
    refine ev_goto C (tgt := 2) (by decide) dX14_leads_81 ?_
    exact Ev.keep [true, true, false, true] (K2 _ _ _ hs)
  · replace hs := (if_neg q17).symm.trans hs
    refine ev_iconst C (v := 0) dX14_leads_20 (by decide) ?_
    refine ev_istore_n C (by decide) dX14_leads_21 ?_
    exact (t_X14_leads_22 C K2 K12 FU hs)
theorem t_X14_leads_12 (C : Cx p l s m args meth c B0 X RX14 "leads" cX14_leads 4 none []) {k2 : Nat → Int32 → aH → aO} (K2 : ∀ (l0 : Nat) (l1 : Int32) (h : aH), k2 l0 l1 h = some (r, h') → Ev p l e { frames := 4, cells := mc, slots := ms, locals := 100 } s m args below meth c D B0 X ws0 r h' mc ms 4 mc ms 2 [some (.ref l0), some (.int l1), none, none] [] h) : ∀ (n : Nat) {l0 : Nat} {l1 : Int32} {l2 : Int32} {h : aH} (hs : s_X14_leads_12 k2 n l0 l1 l2 h = some (r, h')), Ev p l e { frames := 4, cells := mc, slots := ms, locals := 100 } s m args below meth c D B0 X ws0 r h' mc ms 4 mc ms 12 [some (.ref l0), some (.int l1), some (.int l2), none] [] h
  | 0, _, _, _, _, hs => nomatch hs
  | n + 1, _, _, _, _, hs => t_X14_leads_12_b C K2 (k12 := s_X14_leads_12 k2 n) (fun _ _ _ _ hs => t_X14_leads_12 C K2 n hs) hs
theorem t_X14_leads_2_b (C : Cx p l s m args meth c B0 X RX14 "leads" cX14_leads 4 none [])   {k2 : Nat → Int32 → aH → aO} (K2 : ∀ (l0 : Nat) (l1 : Int32) (h : aH), k2 l0 l1 h = some (r, h') → Ev p l e { frames := 4, cells := mc, slots := ms, locals := 100 } s m args below meth c D B0 X ws0 r h' mc ms 4 mc ms 2 [some (.ref l0), some (.int l1), none, none] [] h) {l0 : Nat} {l1 : Int32} {h : aH} (hs : s_X14_leads_2_b  k2 l0 l1 h = some (r, h')) : Ev p l e { frames := 4, cells := mc, slots := ms, locals := 100 } s m args below meth c D B0 X ws0 r h' mc ms 4 mc ms 2 [some (.ref l0), some (.int l1), none, none] [] h := by
  unfold s_X14_leads_2_b at hs
  refine ev_iload_n C rfl dX14_leads_2 ?_
  refine ev_aload_n C (x := .ref l0) rfl trivial dX14_leads_3 ?_
  obtain ⟨x4, e4, hs⟩ := aB hs
  refine ev_get C (ci := 14) (k := 20) rfl wu_14 (by decide) wf_X14_379 (gI_F e4) dX14_leads_4 ?_
  refine ev_icmp_ge C (tgt := 84) (by decide) dX14_leads_7 (fun q7 => ?_) (fun q7 => ?_)
  · replace hs := (if_pos q7).symm.trans hs
    cases hs
    exact ev_vret C rfl rfl (Nat.le_refl _) (Nat.le_refl _) rfl dX14_leads_84
  · replace hs := (if_neg q7).symm.trans hs
    refine ev_iconst C (v := 0) dX14_leads_10 (by decide) ?_
    refine ev_istore_n C (by decide) dX14_leads_11 ?_
    exact (t_X14_leads_12 C K2 FU hs)
theorem t_X14_leads_2 (C : Cx p l s m args meth c B0 X RX14 "leads" cX14_leads 4 none [])   : ∀ (n : Nat) {l0 : Nat} {l1 : Int32} {h : aH} (hs : s_X14_leads_2  n l0 l1 h = some (r, h')), Ev p l e { frames := 4, cells := mc, slots := ms, locals := 100 } s m args below meth c D B0 X ws0 r h' mc ms 4 mc ms 2 [some (.ref l0), some (.int l1), none, none] [] h
  | 0, _, _, _, hs => nomatch hs
  | n + 1, _, _, _, hs => t_X14_leads_2_b C  (k2 := s_X14_leads_2  n) (fun _ _ _ hs => t_X14_leads_2 C  n hs) hs
theorem hy_X14_leads : yX14_leads.cls ≠ "java/lang/invoke/MethodHandle" ∧ yX14_leads.cls ≠ "java/lang/invoke/VarHandle" ∧ (parseMethodDescriptor yX14_leads.desc).map (fun d => d.parameters.length) = some 0 := by decide +kernel
theorem T_X14_leads (o : Nat) (h : aH) (r : aR) (h' : aH) (hs : s_X14_leads o h = some (r, h')) : Mt yX14_leads (Cond.code yX14_leads cX14_leads 4 none :: aTB) 4 100 0 0 [.ref o] h r h' := by
  unfold s_X14_leads at hs
  refine Mt_of (k := 3) (by decide) rfl (fun p l e s m args below meth c D B0 X ws0 C => ?_)
  show Ev p l e { frames := 4, cells := 0, slots := 0, locals := 100 } s m args below meth c D B0 X ws0 r h' 0 0 4 0 0 0 [some (.ref o), none, none, none] [] h
  refine ev_iconst C (v := 0) dX14_leads_0 (by decide) ?_
  refine ev_istore_n C (by decide) dX14_leads_1 ?_
  exact (t_X14_leads_2 C  FU hs)
end
def yN {β : Type} (o : aO) (f : aH → Option β) (g : String → Nat → aH → Option β) : Option β := match o with
  | some (.inl none, h) => f h
  | some (.inr (E, i), h) => g E i h
  | _ => none
theorem yN_at {β : Type} {o : aO} {f : aH → Option β} {g : String → Nat → aH → Option β} {b : β} (h : yN o f g = some b) : (∃ h1, o = some (.inl none, h1) ∧ f h1 = some b) ∨ ∃ E i h1, o = some (.inr (E, i), h1) ∧ g E i h1 = some b := by
  match o, h with
  | some (.inl none, h1), h => exact Or.inl ⟨h1, rfl, h⟩
  | some (.inr (E, i), h1), h => exact Or.inr ⟨E, i, h1, rfl, h⟩
-- X14_thing
theorem dX14_thing_0 : decode cX14_thing 0 = .ok (.aload_n 0, 1) := by decide +kernel
theorem dX14_thing_1 : decode cX14_thing 1 = .ok (.iconst 0, 1) := by decide +kernel
theorem dX14_thing_2 : decode cX14_thing 2 = .ok (.putfield 154, 3) := by decide +kernel
theorem dX14_thing_5 : decode cX14_thing 5 = .ok (.iload_n 1, 1) := by decide +kernel
theorem dX14_thing_6 : decode cX14_thing 6 = .ok (.ifCond .lt 11, 3) := by decide +kernel
theorem dX14_thing_9 : decode cX14_thing 9 = .ok (.iload_n 1, 1) := by decide +kernel
theorem dX14_thing_10 : decode cX14_thing 10 = .ok (.aload_n 0, 1) := by decide +kernel
theorem dX14_thing_11 : decode cX14_thing 11 = .ok (.getfield 354, 3) := by decide +kernel
theorem dX14_thing_14 : decode cX14_thing 14 = .ok (.if_icmp .le 9, 3) := by decide +kernel
theorem dX14_thing_17 : decode cX14_thing 17 = .ok (.aload_n 0, 1) := by decide +kernel
theorem dX14_thing_18 : decode cX14_thing 18 = .ok (.iconst 2, 1) := by decide +kernel
theorem dX14_thing_19 : decode cX14_thing 19 = .ok (.invokevirtual 360, 3) := by decide +kernel
theorem dX14_thing_22 : decode cX14_thing 22 = .ok (.ireturn, 1) := by decide +kernel
theorem dX14_thing_23 : decode cX14_thing 23 = .ok (.aload_n 0, 1) := by decide +kernel
theorem dX14_thing_24 : decode cX14_thing 24 = .ok (.aload_n 0, 1) := by decide +kernel
theorem dX14_thing_25 : decode cX14_thing 25 = .ok (.getfield 16, 3) := by decide +kernel
theorem dX14_thing_28 : decode cX14_thing 28 = .ok (.putfield 249, 3) := by decide +kernel
theorem dX14_thing_31 : decode cX14_thing 31 = .ok (.aload_n 0, 1) := by decide +kernel
theorem dX14_thing_32 : decode cX14_thing 32 = .ok (.getfield 249, 3) := by decide +kernel
theorem dX14_thing_35 : decode cX14_thing 35 = .ok (.invokevirtual 363, 3) := by decide +kernel
theorem dX14_thing_38 : decode cX14_thing 38 = .ok (.aload_n 0, 1) := by decide +kernel
theorem dX14_thing_39 : decode cX14_thing 39 = .ok (.iload_n 1, 1) := by decide +kernel
theorem dX14_thing_40 : decode cX14_thing 40 = .ok (.invokevirtual 366, 3) := by decide +kernel
theorem dX14_thing_43 : decode cX14_thing 43 = .ok (.aload_n 0, 1) := by decide +kernel
theorem dX14_thing_44 : decode cX14_thing 44 = .ok (.invokevirtual 369, 3) := by decide +kernel
theorem dX14_thing_47 : decode cX14_thing 47 = .ok (.goto 10, 3) := by decide +kernel
theorem dX14_thing_50 : decode cX14_thing 50 = .ok (.astore_n 2, 1) := by decide +kernel
theorem dX14_thing_51 : decode cX14_thing 51 = .ok (.aload_n 0, 1) := by decide +kernel
theorem dX14_thing_52 : decode cX14_thing 52 = .ok (.aload_n 2, 1) := by decide +kernel
theorem dX14_thing_53 : decode cX14_thing 53 = .ok (.invokevirtual 372, 3) := by decide +kernel
theorem dX14_thing_56 : decode cX14_thing 56 = .ok (.ireturn, 1) := by decide +kernel
theorem dX14_thing_57 : decode cX14_thing 57 = .ok (.aload_n 0, 1) := by decide +kernel
theorem dX14_thing_58 : decode cX14_thing 58 = .ok (.getfield 376, 3) := by decide +kernel
theorem dX14_thing_61 : decode cX14_thing 61 = .ok (.astore_n 2, 1) := by decide +kernel
theorem dX14_thing_62 : decode cX14_thing 62 = .ok (.aload_n 0, 1) := by decide +kernel
theorem dX14_thing_63 : decode cX14_thing 63 = .ok (.aload_n 0, 1) := by decide +kernel
theorem dX14_thing_64 : decode cX14_thing 64 = .ok (.getfield 16, 3) := by decide +kernel
theorem dX14_thing_67 : decode cX14_thing 67 = .ok (.putfield 376, 3) := by decide +kernel
theorem dX14_thing_70 : decode cX14_thing 70 = .ok (.aload_n 0, 1) := by decide +kernel
theorem dX14_thing_71 : decode cX14_thing 71 = .ok (.aload_n 2, 1) := by decide +kernel
theorem dX14_thing_72 : decode cX14_thing 72 = .ok (.ifnonnull 13, 3) := by decide +kernel
theorem dX14_thing_75 : decode cX14_thing 75 = .ok (.new 13, 3) := by decide +kernel
theorem dX14_thing_78 : decode cX14_thing 78 = .ok (.dup, 1) := by decide +kernel
theorem dX14_thing_79 : decode cX14_thing 79 = .ok (.invokespecial 15, 3) := by decide +kernel
theorem dX14_thing_82 : decode cX14_thing 82 = .ok (.goto 4, 3) := by decide +kernel
theorem dX14_thing_85 : decode cX14_thing 85 = .ok (.aload_n 2, 1) := by decide +kernel
theorem dX14_thing_86 : decode cX14_thing 86 = .ok (.putfield 16, 3) := by decide +kernel
theorem dX14_thing_89 : decode cX14_thing 89 = .ok (.aload_n 0, 1) := by decide +kernel
theorem dX14_thing_90 : decode cX14_thing 90 = .ok (.aload_n 0, 1) := by decide +kernel
theorem dX14_thing_91 : decode cX14_thing 91 = .ok (.getfield 376, 3) := by decide +kernel
theorem dX14_thing_94 : decode cX14_thing 94 = .ok (.iconst 0, 1) := by decide +kernel
theorem dX14_thing_95 : decode cX14_thing 95 = .ok (.iconst 0, 1) := by decide +kernel
theorem dX14_thing_96 : decode cX14_thing 96 = .ok (.invokestatic 269, 3) := by decide +kernel
theorem dX14_thing_99 : decode cX14_thing 99 = .ok (.putfield 379, 3) := by decide +kernel
theorem dX14_thing_102 : decode cX14_thing 102 = .ok (.aload_n 0, 1) := by decide +kernel
theorem dX14_thing_103 : decode cX14_thing 103 = .ok (.aload_n 0, 1) := by decide +kernel
theorem dX14_thing_104 : decode cX14_thing 104 = .ok (.getfield 376, 3) := by decide +kernel
theorem dX14_thing_107 : decode cX14_thing 107 = .ok (.iconst 1, 1) := by decide +kernel
theorem dX14_thing_108 : decode cX14_thing 108 = .ok (.iconst 1, 1) := by decide +kernel
theorem dX14_thing_109 : decode cX14_thing 109 = .ok (.invokestatic 269, 3) := by decide +kernel
theorem dX14_thing_112 : decode cX14_thing 112 = .ok (.putfield 382, 3) := by decide +kernel
theorem dX14_thing_115 : decode cX14_thing 115 = .ok (.aload_n 0, 1) := by decide +kernel
theorem dX14_thing_116 : decode cX14_thing 116 = .ok (.aload_n 0, 1) := by decide +kernel
theorem dX14_thing_117 : decode cX14_thing 117 = .ok (.getfield 376, 3) := by decide +kernel
theorem dX14_thing_120 : decode cX14_thing 120 = .ok (.iconst 3, 1) := by decide +kernel
theorem dX14_thing_121 : decode cX14_thing 121 = .ok (.iconst 3, 1) := by decide +kernel
theorem dX14_thing_122 : decode cX14_thing 122 = .ok (.invokestatic 269, 3) := by decide +kernel
theorem dX14_thing_125 : decode cX14_thing 125 = .ok (.putfield 385, 3) := by decide +kernel
theorem dX14_thing_128 : decode cX14_thing 128 = .ok (.aload_n 0, 1) := by decide +kernel
theorem dX14_thing_129 : decode cX14_thing 129 = .ok (.aload_n 0, 1) := by decide +kernel
theorem dX14_thing_130 : decode cX14_thing 130 = .ok (.getfield 376, 3) := by decide +kernel
theorem dX14_thing_133 : decode cX14_thing 133 = .ok (.iconst 2, 1) := by decide +kernel
theorem dX14_thing_134 : decode cX14_thing 134 = .ok (.iconst 3, 1) := by decide +kernel
theorem dX14_thing_135 : decode cX14_thing 135 = .ok (.invokestatic 269, 3) := by decide +kernel
theorem dX14_thing_138 : decode cX14_thing 138 = .ok (.putfield 388, 3) := by decide +kernel
theorem dX14_thing_141 : decode cX14_thing 141 = .ok (.iconst 0, 1) := by decide +kernel
theorem dX14_thing_142 : decode cX14_thing 142 = .ok (.istore_n 3, 1) := by decide +kernel
theorem dX14_thing_143 : decode cX14_thing 143 = .ok (.iload_n 3, 1) := by decide +kernel
theorem dX14_thing_144 : decode cX14_thing 144 = .ok (.aload_n 0, 1) := by decide +kernel
theorem dX14_thing_145 : decode cX14_thing 145 = .ok (.getfield 379, 3) := by decide +kernel
theorem dX14_thing_148 : decode cX14_thing 148 = .ok (.if_icmp .ge 30, 3) := by decide +kernel
theorem dX14_thing_151 : decode cX14_thing 151 = .ok (.aload_n 0, 1) := by decide +kernel
theorem dX14_thing_152 : decode cX14_thing 152 = .ok (.getfield 37, 3) := by decide +kernel
theorem dX14_thing_155 : decode cX14_thing 155 = .ok (.iload_n 3, 1) := by decide +kernel
theorem dX14_thing_156 : decode cX14_thing 156 = .ok (.iconst 1, 1) := by decide +kernel
theorem dX14_thing_157 : decode cX14_thing 157 = .ok (.bastore, 1) := by decide +kernel
theorem dX14_thing_158 : decode cX14_thing 158 = .ok (.aload_n 0, 1) := by decide +kernel
theorem dX14_thing_159 : decode cX14_thing 159 = .ok (.getfield 41, 3) := by decide +kernel
theorem dX14_thing_162 : decode cX14_thing 162 = .ok (.iload_n 3, 1) := by decide +kernel
theorem dX14_thing_163 : decode cX14_thing 163 = .ok (.iconst 0, 1) := by decide +kernel
theorem dX14_thing_164 : decode cX14_thing 164 = .ok (.bastore, 1) := by decide +kernel
theorem dX14_thing_165 : decode cX14_thing 165 = .ok (.aload_n 0, 1) := by decide +kernel
theorem dX14_thing_166 : decode cX14_thing 166 = .ok (.getfield 51, 3) := by decide +kernel
theorem dX14_thing_169 : decode cX14_thing 169 = .ok (.iload_n 3, 1) := by decide +kernel
theorem dX14_thing_170 : decode cX14_thing 170 = .ok (.iconst (-1), 1) := by decide +kernel
theorem dX14_thing_171 : decode cX14_thing 171 = .ok (.iastore, 1) := by decide +kernel
theorem dX14_thing_172 : decode cX14_thing 172 = .ok (.iinc 3 1, 3) := by decide +kernel
theorem dX14_thing_175 : decode cX14_thing 175 = .ok (.goto (-32), 3) := by decide +kernel
theorem dX14_thing_178 : decode cX14_thing 178 = .ok (.aload_n 0, 1) := by decide +kernel
theorem dX14_thing_179 : decode cX14_thing 179 = .ok (.iconst 0, 1) := by decide +kernel
theorem dX14_thing_180 : decode cX14_thing 180 = .ok (.putfield 391, 3) := by decide +kernel
theorem dX14_thing_183 : decode cX14_thing 183 = .ok (.aload_n 0, 1) := by decide +kernel
theorem dX14_thing_184 : decode cX14_thing 184 = .ok (.iconst 0, 1) := by decide +kernel
theorem dX14_thing_185 : decode cX14_thing 185 = .ok (.putfield 394, 3) := by decide +kernel
theorem dX14_thing_188 : decode cX14_thing 188 = .ok (.iconst 0, 1) := by decide +kernel
theorem dX14_thing_189 : decode cX14_thing 189 = .ok (.istore_n 3, 1) := by decide +kernel
theorem dX14_thing_190 : decode cX14_thing 190 = .ok (.iload_n 3, 1) := by decide +kernel
theorem dX14_thing_191 : decode cX14_thing 191 = .ok (.iconst 3, 1) := by decide +kernel
theorem dX14_thing_192 : decode cX14_thing 192 = .ok (.if_icmp .ge 16, 3) := by decide +kernel
theorem dX14_thing_195 : decode cX14_thing 195 = .ok (.aload_n 0, 1) := by decide +kernel
theorem dX14_thing_196 : decode cX14_thing 196 = .ok (.getfield 148, 3) := by decide +kernel
theorem dX14_thing_199 : decode cX14_thing 199 = .ok (.iload_n 3, 1) := by decide +kernel
theorem dX14_thing_200 : decode cX14_thing 200 = .ok (.iconst 0, 1) := by decide +kernel
theorem dX14_thing_201 : decode cX14_thing 201 = .ok (.iastore, 1) := by decide +kernel
theorem dX14_thing_202 : decode cX14_thing 202 = .ok (.iinc 3 1, 3) := by decide +kernel
theorem dX14_thing_205 : decode cX14_thing 205 = .ok (.goto (-15), 3) := by decide +kernel
theorem dX14_thing_208 : decode cX14_thing 208 = .ok (.aload_n 0, 1) := by decide +kernel
theorem dX14_thing_209 : decode cX14_thing 209 = .ok (.iconst 0, 1) := by decide +kernel
theorem dX14_thing_210 : decode cX14_thing 210 = .ok (.putfield 397, 3) := by decide +kernel
theorem dX14_thing_213 : decode cX14_thing 213 = .ok (.aload_n 0, 1) := by decide +kernel
theorem dX14_thing_214 : decode cX14_thing 214 = .ok (.iconst 0, 1) := by decide +kernel
theorem dX14_thing_215 : decode cX14_thing 215 = .ok (.putfield 400, 3) := by decide +kernel
theorem dX14_thing_218 : decode cX14_thing 218 = .ok (.aload_n 0, 1) := by decide +kernel
theorem dX14_thing_219 : decode cX14_thing 219 = .ok (.invokevirtual 403, 3) := by decide +kernel
theorem dX14_thing_222 : decode cX14_thing 222 = .ok (.aload_n 0, 1) := by decide +kernel
theorem dX14_thing_223 : decode cX14_thing 223 = .ok (.invokevirtual 406, 3) := by decide +kernel
theorem dX14_thing_226 : decode cX14_thing 226 = .ok (.aload_n 0, 1) := by decide +kernel
theorem dX14_thing_227 : decode cX14_thing 227 = .ok (.iconst 0, 1) := by decide +kernel
theorem dX14_thing_228 : decode cX14_thing 228 = .ok (.putfield 409, 3) := by decide +kernel
theorem dX14_thing_231 : decode cX14_thing 231 = .ok (.aload_n 0, 1) := by decide +kernel
theorem dX14_thing_232 : decode cX14_thing 232 = .ok (.aload_n 0, 1) := by decide +kernel
theorem dX14_thing_233 : decode cX14_thing 233 = .ok (.getfield 379, 3) := by decide +kernel
theorem dX14_thing_236 : decode cX14_thing 236 = .ok (.invokevirtual 413, 3) := by decide +kernel
theorem dX14_thing_239 : decode cX14_thing 239 = .ok (.ireturn, 1) := by decide +kernel
def s_X14_thing_17  (l0 : Nat) (h : aH) (c9 z9 : Nat) : aP :=
  wC c9 z9 (kO h l0 14 (cI (s_X14_refused l0 2 h) fun x19 h19 => some (.inl (some (.int x19)), h19)))
def s_X14_thing_190_b  (k190 : Nat → Int32 → aH → aO) (l0 : Nat) (l3 : Int32) (h : aH) : aO :=
  if 3 ≤ l3 then ((pF h (.ref l0) 14 67 (.int 0)).bind fun h210 => (pF h210 (.ref l0) 14 68 (.int 0)).bind fun h215 => kO h215 l0 14 (cN (s_X14_forgets l0 h215) fun h219 => kO h219 l0 14 (cN (s_X14_leads l0 h219) fun h223 => (pZ h223 (.ref l0) 14 25 0).bind fun h228 => (gI h228 (.ref l0) 14 20).bind fun x233 => kO h228 l0 14 (cI (s_X14_done l0 x233 h228) fun x236 h236 => some (.inl (some (.int x236)), h236))))) else ((gO h (.ref l0) 14 66).bind fun x196 => (stI h (.ref x196) l3 0).bind fun h201 => k190 l0 (l3 + 1) h201)
def s_X14_thing_190  (n : Nat) : Nat → Int32 → aH → aO := lpF (fun _ _ _ => none) (s_X14_thing_190_b ) n
def s_X14_thing_143_b  (k143 : Nat → Int32 → aH → aO) (l0 : Nat) (l3 : Int32) (h : aH) : aO :=
  (gI h (.ref l0) 14 20).bind fun x145 => if x145 ≤ l3 then ((pF h (.ref l0) 14 24 (.int 0)).bind fun h180 => (pF h180 (.ref l0) 14 32 (.int 0)).bind fun h185 => s_X14_thing_190 FU l0 0 h185) else ((gO h (.ref l0) 14 27).bind fun x152 => (stN .boolean h (.ref x152) l3 1).bind fun h157 => (gO h157 (.ref l0) 14 28).bind fun x159 => (stN .boolean h157 (.ref x159) l3 0).bind fun h164 => (gO h164 (.ref l0) 14 31).bind fun x166 => (stI h164 (.ref x166) l3 (-1)).bind fun h171 => k143 l0 (l3 + 1) h171)
def s_X14_thing_143  (n : Nat) : Nat → Int32 → aH → aO := lpF (fun _ _ _ => none) (s_X14_thing_143_b ) n
def s_X14_thing_86  (l0 : Nat) (s0 : Nat) (s1 : Nat) (h : aH) : aO :=
  (pF h (.ref s1) 14 5 (.ref s0)).bind fun h86 => (gO h86 (.ref l0) 14 4).bind fun x91 => cI (s_X14_product x91 0 0 h86) fun x96 h96 => (pF h96 (.ref l0) 14 20 (.int x96)).bind fun h99 => (gO h99 (.ref l0) 14 4).bind fun x104 => cI (s_X14_product x104 1 1 h99) fun x109 h109 => (pF h109 (.ref l0) 14 21 (.int x109)).bind fun h112 => (gO h112 (.ref l0) 14 4).bind fun x117 => cI (s_X14_product x117 3 3 h112) fun x122 h122 => (pF h122 (.ref l0) 14 23 (.int x122)).bind fun h125 => (gO h125 (.ref l0) 14 4).bind fun x130 => cI (s_X14_product x130 2 3 h125) fun x135 h135 => (pF h135 (.ref l0) 14 22 (.int x135)).bind fun h138 => s_X14_thing_143 FU l0 0 h138
def s_X14_thing (o : Nat) (a1 : Int32) (h : aH) : aP :=
  (pF h (.ref o) 14 0 (.int 0)).bind fun h2 => if a1 < 0 then (s_X14_thing_17 o h2 0 0) else ((gI h2 (.ref o) 14 9).bind fun x11 => if a1 ≤ x11 then ((gO h2 (.ref o) 14 5).bind fun x25 => (pF h2 (.ref o) 14 6 (.ref x25)).bind fun h28 => (gO h28 (.ref o) 14 6).bind fun x32 => kO h28 x32 13 (cN (s_X13_clear x32 h28) fun h35 => ck 0 0 (kO h35 o 14 (cN (s_X14_begins o a1 h35) fun h40 => ck 0 0 (kO h40 o 14 (yN (s_X14_readThing o h40) (fun h44 => ck 0 0 ((gW h44 (.ref o) 14 4).bind fun x58 => (gO h44 (.ref o) 14 5).bind fun x64 => (pF h44 (.ref o) 14 4 (.ref x64)).bind fun h67 => match x58 with | .null => (bP (nwO dfX13 13 h67) fun o75 h75 => ck (0 + 1) (0 + 14) (dN (s_X13_init o75 h75) fun h79 n79 y79 => ck (0 + 1 + n79) (0 + 14 + y79) (wC (0 + 1 + n79) (0 + 14 + y79) (s_X14_thing_86 o o75 o h79)))) | .ref n72 => (wC 0 0 (s_X14_thing_86 o n72 o h67)) | _ => none)) (fun E44 i44 g44 => if E44 = RX12 then (ck 0 0 (wC 0 0 (kO g44 o 14 (cI (s_X14_faulty o i44 g44) fun x53 h53 => some (.inl (some (.int x53)), h53))))) else none))))))) else (s_X14_thing_17 o h2 0 0))
section
variable {p : Program} {l : Launch} {e : Env} {s : State} {m : MethodId} {args : Array Value} {below : List Frame} {meth : Method} {c : Code} {D : va_G} {B0 : Nat} {X : Nat → Nat} {ws0 : va_W} {r : aR} {h' : aH} {mc ms : Nat}
theorem t_X14_thing_17 (C : Cx p l s m args meth c B0 X RX14 "thing" cX14_thing 4 (some .int) [(38, 47, 50, 20)])   {l0 : Nat} {h : aH} {c9 z9 : Nat} (hs : s_X14_thing_17  l0 h c9 z9 = some (r, h', mc, ms)) : Ev p l e { frames := 17, cells := mc, slots := ms, locals := 367 } s m args below meth c D B0 X ws0 r h' mc ms 4 c9 z9 17 [some (.ref l0), none, none, none] [] h := by
  unfold s_X14_thing_17 at hs
  obtain ⟨hw9, rfl, rfl⟩ := wC_at hs
  have hs := hw9
  refine ev_aload_n C (x := .ref l0) rfl trivial dX14_thing_17 ?_
  refine ev_iconst C (v := 2) dX14_thing_18 (by decide) ?_
  obtain ⟨eo19, hs⟩ := kO_at hs
  obtain ⟨x19, h19, e19, hs⟩ := cI_at hs
  refine ev_callV C (T_X14_refused _ _ _ _ _ e19) (ci := 14) rfl eo19 wc_X14_refused wm_X14_360 wi_X14_refused ws_X14_refused wz_X14 hy_X14_refused ⟨(Nat.le_of_ble_eq_true rfl), (Nat.le_of_ble_eq_true rfl)⟩ ⟨(Nat.le_refl _), (Nat.le_refl _)⟩ (Nat.le_of_ble_eq_true rfl) rfl dX14_thing_19 ?_
  cases hs
  exact ev_iret C rfl rfl (Nat.le_refl _) (Nat.le_refl _) rfl dX14_thing_22
theorem t_X14_thing_190_b (C : Cx p l s m args meth c B0 X RX14 "thing" cX14_thing 4 (some .int) [(38, 47, 50, 20)])   {k190 : Nat → Int32 → aH → aO} (K190 : ∀ (l0 : Nat) (l3 : Int32) (h : aH), k190 l0 l3 h = some (r, h') → Ev p l e { frames := 17, cells := mc, slots := ms, locals := 367 } s m args below meth c D B0 X ws0 r h' mc ms 4 mc ms 190 [some (.ref l0), none, none, some (.int l3)] [] h) {l0 : Nat} {l3 : Int32} {h : aH} (hs : s_X14_thing_190_b  k190 l0 l3 h = some (r, h')) : Ev p l e { frames := 17, cells := mc, slots := ms, locals := 367 } s m args below meth c D B0 X ws0 r h' mc ms 4 mc ms 190 [some (.ref l0), none, none, some (.int l3)] [] h := by
  unfold s_X14_thing_190_b at hs
  refine ev_iload_n C rfl dX14_thing_190 ?_
  refine ev_iconst C (v := 3) dX14_thing_191 (by decide) ?_
  refine ev_icmp_ge C (tgt := 208) (by decide) dX14_thing_192 (fun q192 => ?_) (fun q192 => ?_)
  · replace hs := (if_pos q192).symm.trans hs
    refine ev_aload_n C (x := .ref l0) rfl trivial dX14_thing_208 ?_
    refine ev_iconst C (v := 0) dX14_thing_209 (by decide) ?_
    obtain ⟨h210, e210, hs⟩ := aB hs
    refine ev_put C (ci := 14) (k := 67) rfl wu_14 (by decide) tyX14 tyX14_ok nmX14 wf_X14_397 rfl trivial e210 dX14_thing_210 ?_
    refine ev_aload_n C (x := .ref l0) rfl trivial dX14_thing_213 ?_
    refine ev_iconst C (v := 0) dX14_thing_214 (by decide) ?_
    obtain ⟨h215, e215, hs⟩ := aB hs
    refine ev_put C (ci := 14) (k := 68) rfl wu_14 (by decide) tyX14 tyX14_ok nmX14 wf_X14_400 rfl trivial e215 dX14_thing_215 ?_
    refine ev_aload_n C (x := .ref l0) rfl trivial dX14_thing_218 ?_
    obtain ⟨eo219, hs⟩ := kO_at hs
    obtain ⟨h219, e219, hs⟩ := cN_at hs
    refine ev_callV C (T_X14_forgets _ _ _ _ e219) (ci := 14) rfl eo219 wc_X14_forgets wm_X14_403 wi_X14_forgets ws_X14_forgets wz_X14 hy_X14_forgets ⟨(Nat.le_of_ble_eq_true rfl), (Nat.le_of_ble_eq_true rfl)⟩ ⟨(Nat.le_refl _), (Nat.le_refl _)⟩ (Nat.le_of_ble_eq_true rfl) rfl dX14_thing_219 ?_
    refine ev_aload_n C (x := .ref l0) rfl trivial dX14_thing_222 ?_
    obtain ⟨eo223, hs⟩ := kO_at hs
    obtain ⟨h223, e223, hs⟩ := cN_at hs
    refine ev_callV C (T_X14_leads _ _ _ _ e223) (ci := 14) rfl eo223 wc_X14_leads wm_X14_406 wi_X14_leads ws_X14_leads wz_X14 hy_X14_leads ⟨(Nat.le_of_ble_eq_true rfl), (Nat.le_of_ble_eq_true rfl)⟩ ⟨(Nat.le_refl _), (Nat.le_refl _)⟩ (Nat.le_of_ble_eq_true rfl) rfl dX14_thing_223 ?_
    refine ev_aload_n C (x := .ref l0) rfl trivial dX14_thing_226 ?_
    refine ev_iconst C (v := 0) dX14_thing_227 (by decide) ?_
    obtain ⟨h228, e228, hs⟩ := aB hs
    refine ev_put C (ci := 14) (k := 25) rfl wu_14 (by decide) tyX14 tyX14_ok nmX14 wf_X14_409 rfl (pZ_F e228).2 (pZ_F e228).1 dX14_thing_228 ?_
    refine ev_aload_n C (x := .ref l0) rfl trivial dX14_thing_231 ?_
    refine ev_aload_n C (x := .ref l0) rfl trivial dX14_thing_232 ?_
    obtain ⟨x233, e233, hs⟩ := aB hs
    refine ev_get C (ci := 14) (k := 20) rfl wu_14 (by decide) wf_X14_379 (gI_F e233) dX14_thing_233 ?_
    obtain ⟨eo236, hs⟩ := kO_at hs
    obtain ⟨x236, h236, e236, hs⟩ := cI_at hs
    refine ev_callV C (T_X14_done _ _ _ _ _ e236) (ci := 14) rfl eo236 wc_X14_done wm_X14_413 wi_X14_done ws_X14_done wz_X14 hy_X14_done ⟨(Nat.le_of_ble_eq_true rfl), (Nat.le_of_ble_eq_true rfl)⟩ ⟨(Nat.le_refl _), (Nat.le_refl _)⟩ (Nat.le_of_ble_eq_true rfl) rfl dX14_thing_236 ?_
    cases hs
    exact ev_iret C rfl rfl (Nat.le_refl _) (Nat.le_refl _) rfl dX14_thing_239
  · replace hs := (if_neg q192).symm.trans hs
    refine ev_aload_n C (x := .ref l0) rfl trivial dX14_thing_195 ?_
    obtain ⟨x196, e196, hs⟩ := aB hs
    refine ev_get C (ci := 14) (k := 66) rfl wu_14 (by decide) wf_X14_148 (gO_F e196) dX14_thing_196 ?_
    refine ev_iload_n C rfl dX14_thing_199 ?_
    refine ev_iconst C (v := 0) dX14_thing_200 (by decide) ?_
    obtain ⟨h201, e201, hs⟩ := aB hs
    refine ev_iast C e201 dX14_thing_201 ?_
    refine ev_iinc C (i := 3) (n := 1) (x := l3) (v := l3 + 1) rfl (congrArg (fun z => l3 + z) (show Int32.ofInt 1 = 1 by decide)) (by decide) dX14_thing_202 ?_
    refine ev_goto C (tgt := 190) (by decide) dX14_thing_205 ?_
    exact (K190 _ _ _ hs)
theorem t_X14_thing_190 (C : Cx p l s m args meth c B0 X RX14 "thing" cX14_thing 4 (some .int) [(38, 47, 50, 20)])   : ∀ (n : Nat) {l0 : Nat} {l3 : Int32} {h : aH} (hs : s_X14_thing_190  n l0 l3 h = some (r, h')), Ev p l e { frames := 17, cells := mc, slots := ms, locals := 367 } s m args below meth c D B0 X ws0 r h' mc ms 4 mc ms 190 [some (.ref l0), none, none, some (.int l3)] [] h
  | 0, _, _, _, hs => nomatch hs
  | n + 1, _, _, _, hs => t_X14_thing_190_b C  (k190 := s_X14_thing_190  n) (fun _ _ _ hs => t_X14_thing_190 C  n hs) hs
theorem t_X14_thing_143_b (C : Cx p l s m args meth c B0 X RX14 "thing" cX14_thing 4 (some .int) [(38, 47, 50, 20)])   {k143 : Nat → Int32 → aH → aO} (K143 : ∀ (l0 : Nat) (l3 : Int32) (h : aH), k143 l0 l3 h = some (r, h') → Ev p l e { frames := 17, cells := mc, slots := ms, locals := 367 } s m args below meth c D B0 X ws0 r h' mc ms 4 mc ms 143 [some (.ref l0), none, none, some (.int l3)] [] h) {l0 : Nat} {l3 : Int32} {h : aH} (hs : s_X14_thing_143_b  k143 l0 l3 h = some (r, h')) : Ev p l e { frames := 17, cells := mc, slots := ms, locals := 367 } s m args below meth c D B0 X ws0 r h' mc ms 4 mc ms 143 [some (.ref l0), none, none, some (.int l3)] [] h := by
  unfold s_X14_thing_143_b at hs
  refine ev_iload_n C rfl dX14_thing_143 ?_
  refine ev_aload_n C (x := .ref l0) rfl trivial dX14_thing_144 ?_
  obtain ⟨x145, e145, hs⟩ := aB hs
  refine ev_get C (ci := 14) (k := 20) rfl wu_14 (by decide) wf_X14_379 (gI_F e145) dX14_thing_145 ?_
  refine ev_icmp_ge C (tgt := 178) (by decide) dX14_thing_148 (fun q148 => ?_) (fun q148 => ?_)
  · replace hs := (if_pos q148).symm.trans hs
    refine ev_aload_n C (x := .ref l0) rfl trivial dX14_thing_178 ?_
    refine ev_iconst C (v := 0) dX14_thing_179 (by decide) ?_
    obtain ⟨h180, e180, hs⟩ := aB hs
    refine ev_put C (ci := 14) (k := 24) rfl wu_14 (by decide) tyX14 tyX14_ok nmX14 wf_X14_391 rfl trivial e180 dX14_thing_180 ?_
    refine ev_aload_n C (x := .ref l0) rfl trivial dX14_thing_183 ?_
    refine ev_iconst C (v := 0) dX14_thing_184 (by decide) ?_
    obtain ⟨h185, e185, hs⟩ := aB hs
    refine ev_put C (ci := 14) (k := 32) rfl wu_14 (by decide) tyX14 tyX14_ok nmX14 wf_X14_394 rfl trivial e185 dX14_thing_185 ?_
    refine ev_iconst C (v := 0) dX14_thing_188 (by decide) ?_
    refine ev_istore_n C (by decide) dX14_thing_189 ?_
    exact (t_X14_thing_190 C  FU hs)
  · replace hs := (if_neg q148).symm.trans hs
    refine ev_aload_n C (x := .ref l0) rfl trivial dX14_thing_151 ?_
    obtain ⟨x152, e152, hs⟩ := aB hs
    refine ev_get C (ci := 14) (k := 27) rfl wu_14 (by decide) wf_X14_37 (gO_F e152) dX14_thing_152 ?_
    refine ev_iload_n C rfl dX14_thing_155 ?_
    refine ev_iconst C (v := 1) dX14_thing_156 (by decide) ?_
    obtain ⟨h157, e157, hs⟩ := aB hs
    refine ev_zast C e157 dX14_thing_157 ?_
    refine ev_aload_n C (x := .ref l0) rfl trivial dX14_thing_158 ?_
    obtain ⟨x159, e159, hs⟩ := aB hs
    refine ev_get C (ci := 14) (k := 28) rfl wu_14 (by decide) wf_X14_41 (gO_F e159) dX14_thing_159 ?_
    refine ev_iload_n C rfl dX14_thing_162 ?_
    refine ev_iconst C (v := 0) dX14_thing_163 (by decide) ?_
    obtain ⟨h164, e164, hs⟩ := aB hs
    refine ev_zast C e164 dX14_thing_164 ?_
    refine ev_aload_n C (x := .ref l0) rfl trivial dX14_thing_165 ?_
    obtain ⟨x166, e166, hs⟩ := aB hs
    refine ev_get C (ci := 14) (k := 31) rfl wu_14 (by decide) wf_X14_51 (gO_F e166) dX14_thing_166 ?_
    refine ev_iload_n C rfl dX14_thing_169 ?_
    refine ev_iconst C (v := (-1)) dX14_thing_170 (by decide) ?_
    obtain ⟨h171, e171, hs⟩ := aB hs
    refine ev_iast C e171 dX14_thing_171 ?_
    refine ev_iinc C (i := 3) (n := 1) (x := l3) (v := l3 + 1) rfl (congrArg (fun z => l3 + z) (show Int32.ofInt 1 = 1 by decide)) (by decide) dX14_thing_172 ?_
    refine ev_goto C (tgt := 143) (by decide) dX14_thing_175 ?_
    exact (K143 _ _ _ hs)
theorem t_X14_thing_143 (C : Cx p l s m args meth c B0 X RX14 "thing" cX14_thing 4 (some .int) [(38, 47, 50, 20)])   : ∀ (n : Nat) {l0 : Nat} {l3 : Int32} {h : aH} (hs : s_X14_thing_143  n l0 l3 h = some (r, h')), Ev p l e { frames := 17, cells := mc, slots := ms, locals := 367 } s m args below meth c D B0 X ws0 r h' mc ms 4 mc ms 143 [some (.ref l0), none, none, some (.int l3)] [] h
  | 0, _, _, _, hs => nomatch hs
  | n + 1, _, _, _, hs => t_X14_thing_143_b C  (k143 := s_X14_thing_143  n) (fun _ _ _ hs => t_X14_thing_143 C  n hs) hs
theorem t_X14_thing_86 (C : Cx p l s m args meth c B0 X RX14 "thing" cX14_thing 4 (some .int) [(38, 47, 50, 20)])   {l0 : Nat} {s0 : Nat} {s1 : Nat} {h : aH} (hs : s_X14_thing_86  l0 s0 s1 h = some (r, h')) : Ev p l e { frames := 17, cells := mc, slots := ms, locals := 367 } s m args below meth c D B0 X ws0 r h' mc ms 4 mc ms 86 [some (.ref l0), none, none, none] [.ref s0, .ref s1] h := by
  unfold s_X14_thing_86 at hs
  obtain ⟨h86, e86, hs⟩ := aB hs
  refine ev_put C (ci := 14) (k := 5) rfl wu_14 (by decide) tyX14 tyX14_ok nmX14 wf_X14_16 rfl trivial e86 dX14_thing_86 ?_
  refine ev_aload_n C (x := .ref l0) rfl trivial dX14_thing_89 ?_
  refine ev_aload_n C (x := .ref l0) rfl trivial dX14_thing_90 ?_
  obtain ⟨x91, e91, hs⟩ := aB hs
  refine ev_get C (ci := 14) (k := 4) rfl wu_14 (by decide) wf_X14_376 (gO_F e91) dX14_thing_91 ?_
  refine ev_iconst C (v := 0) dX14_thing_94 (by decide) ?_
  refine ev_iconst C (v := 0) dX14_thing_95 (by decide) ?_
  obtain ⟨x96, h96, e96, hs⟩ := cI_at hs
  refine ev_callS C (T_X14_product _ _ _ _ _ _ e96) wc_X14_product wm_X14_269 wt_X14_product wz_X14 hy_X14_product ⟨(Nat.le_of_ble_eq_true rfl), (Nat.le_of_ble_eq_true rfl)⟩ ⟨(Nat.le_refl _), (Nat.le_refl _)⟩ (Nat.le_of_ble_eq_true rfl) rfl dX14_thing_96 ?_
  obtain ⟨h99, e99, hs⟩ := aB hs
  refine ev_put C (ci := 14) (k := 20) rfl wu_14 (by decide) tyX14 tyX14_ok nmX14 wf_X14_379 rfl trivial e99 dX14_thing_99 ?_
  refine ev_aload_n C (x := .ref l0) rfl trivial dX14_thing_102 ?_
  refine ev_aload_n C (x := .ref l0) rfl trivial dX14_thing_103 ?_
  obtain ⟨x104, e104, hs⟩ := aB hs
  refine ev_get C (ci := 14) (k := 4) rfl wu_14 (by decide) wf_X14_376 (gO_F e104) dX14_thing_104 ?_
  refine ev_iconst C (v := 1) dX14_thing_107 (by decide) ?_
  refine ev_iconst C (v := 1) dX14_thing_108 (by decide) ?_
  obtain ⟨x109, h109, e109, hs⟩ := cI_at hs
  refine ev_callS C (T_X14_product _ _ _ _ _ _ e109) wc_X14_product wm_X14_269 wt_X14_product wz_X14 hy_X14_product ⟨(Nat.le_of_ble_eq_true rfl), (Nat.le_of_ble_eq_true rfl)⟩ ⟨(Nat.le_refl _), (Nat.le_refl _)⟩ (Nat.le_of_ble_eq_true rfl) rfl dX14_thing_109 ?_
  obtain ⟨h112, e112, hs⟩ := aB hs
  refine ev_put C (ci := 14) (k := 21) rfl wu_14 (by decide) tyX14 tyX14_ok nmX14 wf_X14_382 rfl trivial e112 dX14_thing_112 ?_
  refine ev_aload_n C (x := .ref l0) rfl trivial dX14_thing_115 ?_
  refine ev_aload_n C (x := .ref l0) rfl trivial dX14_thing_116 ?_
  obtain ⟨x117, e117, hs⟩ := aB hs
  refine ev_get C (ci := 14) (k := 4) rfl wu_14 (by decide) wf_X14_376 (gO_F e117) dX14_thing_117 ?_
  refine ev_iconst C (v := 3) dX14_thing_120 (by decide) ?_
  refine ev_iconst C (v := 3) dX14_thing_121 (by decide) ?_
  obtain ⟨x122, h122, e122, hs⟩ := cI_at hs
  refine ev_callS C (T_X14_product _ _ _ _ _ _ e122) wc_X14_product wm_X14_269 wt_X14_product wz_X14 hy_X14_product ⟨(Nat.le_of_ble_eq_true rfl), (Nat.le_of_ble_eq_true rfl)⟩ ⟨(Nat.le_refl _), (Nat.le_refl _)⟩ (Nat.le_of_ble_eq_true rfl) rfl dX14_thing_122 ?_
  obtain ⟨h125, e125, hs⟩ := aB hs
  refine ev_put C (ci := 14) (k := 23) rfl wu_14 (by decide) tyX14 tyX14_ok nmX14 wf_X14_385 rfl trivial e125 dX14_thing_125 ?_
  refine ev_aload_n C (x := .ref l0) rfl trivial dX14_thing_128 ?_
  refine ev_aload_n C (x := .ref l0) rfl trivial dX14_thing_129 ?_
  obtain ⟨x130, e130, hs⟩ := aB hs
  refine ev_get C (ci := 14) (k := 4) rfl wu_14 (by decide) wf_X14_376 (gO_F e130) dX14_thing_130 ?_
  refine ev_iconst C (v := 2) dX14_thing_133 (by decide) ?_
  refine ev_iconst C (v := 3) dX14_thing_134 (by decide) ?_
  obtain ⟨x135, h135, e135, hs⟩ := cI_at hs
  refine ev_callS C (T_X14_product _ _ _ _ _ _ e135) wc_X14_product wm_X14_269 wt_X14_product wz_X14 hy_X14_product ⟨(Nat.le_of_ble_eq_true rfl), (Nat.le_of_ble_eq_true rfl)⟩ ⟨(Nat.le_refl _), (Nat.le_refl _)⟩ (Nat.le_of_ble_eq_true rfl) rfl dX14_thing_135 ?_
  obtain ⟨h138, e138, hs⟩ := aB hs
  refine ev_put C (ci := 14) (k := 22) rfl wu_14 (by decide) tyX14 tyX14_ok nmX14 wf_X14_388 rfl trivial e138 dX14_thing_138 ?_
  refine ev_iconst C (v := 0) dX14_thing_141 (by decide) ?_
  refine ev_istore_n C (by decide) dX14_thing_142 ?_
  exact (t_X14_thing_143 C  FU hs)
theorem hy_X14_thing : yX14_thing.cls ≠ "java/lang/invoke/MethodHandle" ∧ yX14_thing.cls ≠ "java/lang/invoke/VarHandle" ∧ (parseMethodDescriptor yX14_thing.desc).map (fun d => d.parameters.length) = some 1 := by decide +kernel
theorem T_X14_thing (o : Nat) (a1 : Int32) (h : aH) (r : aR) (h' : aH) (mc ms : Nat) (hs : s_X14_thing o a1 h = some (r, h', mc, ms)) : Mt yX14_thing (Cond.codeWith yX14_thing cX14_thing 4 (some .int) [(38, 47, 50, 20)] :: aTB) 17 367 mc ms [.ref o, .int a1] h r h' := by
  unfold s_X14_thing at hs
  refine Mt_ofH (k := 2) (by decide) rfl (fun p l e s m args below meth c D B0 X ws0 C => ?_)
  show Ev p l e { frames := 17, cells := mc, slots := ms, locals := 367 } s m args below meth c D B0 X ws0 r h' mc ms 4 0 0 0 [some (.ref o), some (.int a1), none, none] [] h
  refine ev_aload_n C (x := .ref o) rfl trivial dX14_thing_0 ?_
  refine ev_iconst C (v := 0) dX14_thing_1 (by decide) ?_
  obtain ⟨h2, e2, hs⟩ := aB hs
  refine ev_put C (ci := 14) (k := 0) rfl wu_14 (by decide) tyX14 tyX14_ok nmX14 wf_X14_154 rfl trivial e2 dX14_thing_2 ?_
  refine ev_iload_n C rfl dX14_thing_5 ?_
  refine ev_if_lt C (tgt := 17) (by decide) dX14_thing_6 (fun q6 => ?_) (fun q6 => ?_)
  · replace hs := (if_pos q6).symm.trans hs
    exact Ev.keep [true, false, true, true] (t_X14_thing_17 C  hs)
  · replace hs := (if_neg q6).symm.trans hs
    refine ev_iload_n C rfl dX14_thing_9 ?_
    refine ev_aload_n C (x := .ref o) rfl trivial dX14_thing_10 ?_
    obtain ⟨x11, e11, hs⟩ := aB hs
    refine ev_get C (ci := 14) (k := 9) rfl wu_14 (by decide) wf_X14_354 (gI_F e11) dX14_thing_11 ?_
    refine ev_icmp_le C (tgt := 23) (by decide) dX14_thing_14 (fun q14 => ?_) (fun q14 => ?_)
    · replace hs := (if_pos q14).symm.trans hs
      refine ev_aload_n C (x := .ref o) rfl trivial dX14_thing_23 ?_
      refine ev_aload_n C (x := .ref o) rfl trivial dX14_thing_24 ?_
      obtain ⟨x25, e25, hs⟩ := aB hs
      refine ev_get C (ci := 14) (k := 5) rfl wu_14 (by decide) wf_X14_16 (gO_F e25) dX14_thing_25 ?_
      obtain ⟨h28, e28, hs⟩ := aB hs
      refine ev_put C (ci := 14) (k := 6) rfl wu_14 (by decide) tyX14 tyX14_ok nmX14 wf_X14_249 rfl trivial e28 dX14_thing_28 ?_
      refine ev_aload_n C (x := .ref o) rfl trivial dX14_thing_31 ?_
      obtain ⟨x32, e32, hs⟩ := aB hs
      refine ev_get C (ci := 14) (k := 6) rfl wu_14 (by decide) wf_X14_249 (gO_F e32) dX14_thing_32 ?_
      obtain ⟨eo35, hs⟩ := kO_at hs
      obtain ⟨h35, e35, hs⟩ := cN_at hs
      obtain ⟨c35, z35, hs⟩ := ck_at hs
      refine ev_callV C (T_X13_clear _ _ _ _ e35) (ci := 13) rfl eo35 wc_X13_clear wm_X14_363 wi_X13_clear ws_X13_clear wz_X13 hy_X13_clear ⟨(Nat.le_of_ble_eq_true rfl), (Nat.le_of_ble_eq_true rfl)⟩ ⟨c35, z35⟩ (Nat.le_of_ble_eq_true rfl) rfl dX14_thing_35 ?_
      refine ev_aload_n C (x := .ref o) rfl trivial dX14_thing_38 ?_
      refine ev_iload_n C rfl dX14_thing_39 ?_
      obtain ⟨eo40, hs⟩ := kO_at hs
      obtain ⟨h40, e40, hs⟩ := cN_at hs
      obtain ⟨c40, z40, hs⟩ := ck_at hs
      refine ev_callV C (T_X14_begins _ _ _ _ _ e40) (ci := 14) rfl eo40 wc_X14_begins wm_X14_366 wi_X14_begins ws_X14_begins wz_X14 hy_X14_begins ⟨(Nat.le_of_ble_eq_true rfl), (Nat.le_of_ble_eq_true rfl)⟩ ⟨c40, z40⟩ (Nat.le_of_ble_eq_true rfl) rfl dX14_thing_40 ?_
      refine ev_aload_n C (x := .ref o) rfl trivial dX14_thing_43 ?_
      obtain ⟨eo44, hs⟩ := kO_at hs
      rcases yN_at hs with ⟨h44, e44, hs⟩ | ⟨E44, i44, g44, e44, hs⟩
      · skip
        obtain ⟨c44, z44, hs⟩ := ck_at hs
        refine ev_callV C (T_X14_readThing _ _ _ _ e44) (ci := 14) rfl eo44 wc_X14_readThing wm_X14_369 wi_X14_readThing ws_X14_readThing wz_X14 hy_X14_readThing ⟨(Nat.le_of_ble_eq_true rfl), (Nat.le_of_ble_eq_true rfl)⟩ ⟨c44, z44⟩ (Nat.le_of_ble_eq_true rfl) rfl dX14_thing_44 ?_
        refine ev_goto C (tgt := 57) (by decide) dX14_thing_47 ?_
        refine ev_aload_n C (x := .ref o) rfl trivial dX14_thing_57 ?_
        obtain ⟨x58, e58, hs⟩ := aB hs
        refine ev_get C (ci := 14) (k := 4) rfl wu_14 (by decide) wf_X14_376 (gW_F e58).1 dX14_thing_58 ?_
        refine ev_astore_n C (x := x58) (gW_F e58).2 (by decide) dX14_thing_61 ?_
        refine ev_aload_n C (x := .ref o) rfl trivial dX14_thing_62 ?_
        refine ev_aload_n C (x := .ref o) rfl trivial dX14_thing_63 ?_
        obtain ⟨x64, e64, hs⟩ := aB hs
        refine ev_get C (ci := 14) (k := 5) rfl wu_14 (by decide) wf_X14_16 (gO_F e64) dX14_thing_64 ?_
        obtain ⟨h67, e67, hs⟩ := aB hs
        refine ev_put C (ci := 14) (k := 4) rfl wu_14 (by decide) tyX14 tyX14_ok nmX14 wf_X14_376 rfl trivial e67 dX14_thing_67 ?_
        refine ev_aload_n C (x := .ref o) rfl trivial dX14_thing_70 ?_
        refine ev_aload_n C (x := x58) rfl (gW_F e58).2 dX14_thing_71 ?_
        cases x58 with
        | null =>
          refine ev_ifnonnull_n C dX14_thing_72 ?_
          obtain ⟨o75, h75, e75, hs⟩ := bP_at hs
          obtain ⟨c75, z75, hs⟩ := ck_at hs
          refine ev_new C (ci := 13) rfl wu_13 tyX13 tyX13_ok wk_X14_13 wj_X13 wz_X13 dfX13_ok dfX13_se e75 c75 z75 dX14_thing_75 ?_
          refine ev_dup C rfl dX14_thing_78 ?_
          obtain ⟨h79, n79, y79, e79, hs⟩ := dN_at hs
          obtain ⟨c79, z79, hs⟩ := ck_at hs
          refine ev_callIN C (T_X13_init _ _ _ _ _ _ e79) wc_X13_init wn_X14_15 wi_X13_init wz_X13 rfl hy_X13_init ⟨(Nat.le_of_ble_eq_true rfl), (Nat.le_of_ble_eq_true rfl)⟩ ⟨c79, z79⟩ (Nat.le_of_ble_eq_true rfl) rfl dX14_thing_79 ?_
          obtain ⟨hw9, rfl, rfl⟩ := wC_at hs
          have hs := hw9
          refine ev_goto C (tgt := 86) (by decide) dX14_thing_82 ?_
          exact Ev.keep [true, false, false, true] (t_X14_thing_86 C  hs)
        | ref n72 =>
          refine ev_ifnonnull_r C (tgt := 85) (by decide) dX14_thing_72 ?_
          obtain ⟨hw9, rfl, rfl⟩ := wC_at hs
          have hs := hw9
          refine ev_aload_n C (x := .ref n72) rfl trivial dX14_thing_85 ?_
          exact Ev.keep [true, false, false, true] (t_X14_thing_86 C  hs)
        | _ => cases hs
      · by_cases qE : E44 = RX12
        · replace hs := (if_pos qE).symm.trans hs
          subst qE
          obtain ⟨c44, z44, hs⟩ := ck_at hs
          refine ev_callVX C (T_X14_readThing _ _ _ _ e44) (ci := 14) rfl eo44 wc_X14_readThing wm_X14_369 wi_X14_readThing ws_X14_readThing wz_X14 hy_X14_readThing ⟨(Nat.le_of_ble_eq_true rfl), (Nat.le_of_ble_eq_true rfl)⟩ ⟨c44, z44⟩ (Nat.le_of_ble_eq_true rfl) rfl dX14_thing_44 (ex_catch C ⟨38, 47, 50, 20⟩ rfl (by decide) (by decide) wk_X14_20 wq_SteeringHouseModel_Stop_SteeringHouseModel_Stop ?_)
          obtain ⟨hw9, rfl, rfl⟩ := wC_at hs
          have hs := hw9
          refine ev_astore_n C (x := .ref i44) trivial (by decide) dX14_thing_50 ?_
          refine ev_aload_n C (x := .ref o) rfl trivial dX14_thing_51 ?_
          refine ev_aload_n C (x := .ref i44) rfl trivial dX14_thing_52 ?_
          obtain ⟨eo53, hs⟩ := kO_at hs
          obtain ⟨x53, h53, e53, hs⟩ := cI_at hs
          refine ev_callV C (T_X14_faulty _ _ _ _ _ e53) (ci := 14) rfl eo53 wc_X14_faulty wm_X14_372 wi_X14_faulty ws_X14_faulty wz_X14 hy_X14_faulty ⟨(Nat.le_of_ble_eq_true rfl), (Nat.le_of_ble_eq_true rfl)⟩ ⟨(Nat.le_refl _), (Nat.le_refl _)⟩ (Nat.le_of_ble_eq_true rfl) rfl dX14_thing_53 ?_
          cases hs
          exact ev_iret C rfl rfl (Nat.le_refl _) (Nat.le_refl _) rfl dX14_thing_56
        · cases (if_neg qE).symm.trans hs
    · replace hs := (if_neg q14).symm.trans hs
      exact Ev.keep [true, false, true, true] (t_X14_thing_17 C  hs)
end
-- X14_reads
theorem dX14_reads_0 : decode cX14_reads 0 = .ok (.aload_n 0, 1) := by decide +kernel
theorem dX14_reads_1 : decode cX14_reads 1 = .ok (.getfield 376, 3) := by decide +kernel
theorem dX14_reads_4 : decode cX14_reads 4 = .ok (.ifnonnull 9, 3) := by decide +kernel
theorem dX14_reads_7 : decode cX14_reads 7 = .ok (.aload_n 0, 1) := by decide +kernel
theorem dX14_reads_8 : decode cX14_reads 8 = .ok (.iconst 1, 1) := by decide +kernel
theorem dX14_reads_9 : decode cX14_reads 9 = .ok (.invokevirtual 360, 3) := by decide +kernel
theorem dX14_reads_12 : decode cX14_reads 12 = .ok (.ireturn, 1) := by decide +kernel
theorem dX14_reads_13 : decode cX14_reads 13 = .ok (.iload_n 1, 1) := by decide +kernel
theorem dX14_reads_14 : decode cX14_reads 14 = .ok (.ifCond .lt 11, 3) := by decide +kernel
theorem dX14_reads_17 : decode cX14_reads 17 = .ok (.iload_n 1, 1) := by decide +kernel
theorem dX14_reads_18 : decode cX14_reads 18 = .ok (.aload_n 0, 1) := by decide +kernel
theorem dX14_reads_19 : decode cX14_reads 19 = .ok (.getfield 354, 3) := by decide +kernel
theorem dX14_reads_22 : decode cX14_reads 22 = .ok (.if_icmp .le 9, 3) := by decide +kernel
theorem dX14_reads_25 : decode cX14_reads 25 = .ok (.aload_n 0, 1) := by decide +kernel
theorem dX14_reads_26 : decode cX14_reads 26 = .ok (.iconst 2, 1) := by decide +kernel
theorem dX14_reads_27 : decode cX14_reads 27 = .ok (.invokevirtual 360, 3) := by decide +kernel
theorem dX14_reads_30 : decode cX14_reads 30 = .ok (.ireturn, 1) := by decide +kernel
theorem dX14_reads_31 : decode cX14_reads 31 = .ok (.aload_n 0, 1) := by decide +kernel
theorem dX14_reads_32 : decode cX14_reads 32 = .ok (.aload_n 0, 1) := by decide +kernel
theorem dX14_reads_33 : decode cX14_reads 33 = .ok (.getfield 31, 3) := by decide +kernel
theorem dX14_reads_36 : decode cX14_reads 36 = .ok (.putfield 249, 3) := by decide +kernel
theorem dX14_reads_39 : decode cX14_reads 39 = .ok (.aload_n 0, 1) := by decide +kernel
theorem dX14_reads_40 : decode cX14_reads 40 = .ok (.getfield 249, 3) := by decide +kernel
theorem dX14_reads_43 : decode cX14_reads 43 = .ok (.iconst 0, 1) := by decide +kernel
theorem dX14_reads_44 : decode cX14_reads 44 = .ok (.putfield 295, 3) := by decide +kernel
theorem dX14_reads_47 : decode cX14_reads 47 = .ok (.iconst 0, 1) := by decide +kernel
theorem dX14_reads_48 : decode cX14_reads 48 = .ok (.istore_n 3, 1) := by decide +kernel
theorem dX14_reads_49 : decode cX14_reads 49 = .ok (.iload_n 3, 1) := by decide +kernel
theorem dX14_reads_50 : decode cX14_reads 50 = .ok (.iconst 5, 1) := by decide +kernel
theorem dX14_reads_51 : decode cX14_reads 51 = .ok (.if_icmp .ge 27, 3) := by decide +kernel
theorem dX14_reads_54 : decode cX14_reads 54 = .ok (.aload_n 0, 1) := by decide +kernel
theorem dX14_reads_55 : decode cX14_reads 55 = .ok (.getfield 249, 3) := by decide +kernel
theorem dX14_reads_58 : decode cX14_reads 58 = .ok (.getfield 252, 3) := by decide +kernel
theorem dX14_reads_61 : decode cX14_reads 61 = .ok (.iload_n 3, 1) := by decide +kernel
theorem dX14_reads_62 : decode cX14_reads 62 = .ok (.aload_n 0, 1) := by decide +kernel
theorem dX14_reads_63 : decode cX14_reads 63 = .ok (.getfield 376, 3) := by decide +kernel
theorem dX14_reads_66 : decode cX14_reads 66 = .ok (.getfield 252, 3) := by decide +kernel
theorem dX14_reads_69 : decode cX14_reads 69 = .ok (.iload_n 3, 1) := by decide +kernel
theorem dX14_reads_70 : decode cX14_reads 70 = .ok (.iaload, 1) := by decide +kernel
theorem dX14_reads_71 : decode cX14_reads 71 = .ok (.iastore, 1) := by decide +kernel
theorem dX14_reads_72 : decode cX14_reads 72 = .ok (.iinc 3 1, 3) := by decide +kernel
theorem dX14_reads_75 : decode cX14_reads 75 = .ok (.goto (-26), 3) := by decide +kernel
theorem dX14_reads_78 : decode cX14_reads 78 = .ok (.iconst 0, 1) := by decide +kernel
theorem dX14_reads_79 : decode cX14_reads 79 = .ok (.istore_n 3, 1) := by decide +kernel
theorem dX14_reads_80 : decode cX14_reads 80 = .ok (.iload_n 3, 1) := by decide +kernel
theorem dX14_reads_81 : decode cX14_reads 81 = .ok (.bipush 11, 2) := by decide +kernel
theorem dX14_reads_83 : decode cX14_reads 83 = .ok (.if_icmp .ge 27, 3) := by decide +kernel
theorem dX14_reads_86 : decode cX14_reads 86 = .ok (.aload_n 0, 1) := by decide +kernel
theorem dX14_reads_87 : decode cX14_reads 87 = .ok (.getfield 249, 3) := by decide +kernel
theorem dX14_reads_90 : decode cX14_reads 90 = .ok (.getfield 255, 3) := by decide +kernel
theorem dX14_reads_93 : decode cX14_reads 93 = .ok (.iload_n 3, 1) := by decide +kernel
theorem dX14_reads_94 : decode cX14_reads 94 = .ok (.aload_n 0, 1) := by decide +kernel
theorem dX14_reads_95 : decode cX14_reads 95 = .ok (.getfield 376, 3) := by decide +kernel
theorem dX14_reads_98 : decode cX14_reads 98 = .ok (.getfield 255, 3) := by decide +kernel
theorem dX14_reads_101 : decode cX14_reads 101 = .ok (.iload_n 3, 1) := by decide +kernel
theorem dX14_reads_102 : decode cX14_reads 102 = .ok (.laload, 1) := by decide +kernel
theorem dX14_reads_103 : decode cX14_reads 103 = .ok (.lastore, 1) := by decide +kernel
theorem dX14_reads_104 : decode cX14_reads 104 = .ok (.iinc 3 1, 3) := by decide +kernel
theorem dX14_reads_107 : decode cX14_reads 107 = .ok (.goto (-27), 3) := by decide +kernel
theorem dX14_reads_110 : decode cX14_reads 110 = .ok (.aload_n 0, 1) := by decide +kernel
theorem dX14_reads_111 : decode cX14_reads 111 = .ok (.iload_n 2, 1) := by decide +kernel
theorem dX14_reads_112 : decode cX14_reads 112 = .ok (.ifCond .eq 7, 3) := by decide +kernel
theorem dX14_reads_115 : decode cX14_reads 115 = .ok (.iconst 0, 1) := by decide +kernel
theorem dX14_reads_116 : decode cX14_reads 116 = .ok (.goto 4, 3) := by decide +kernel
theorem dX14_reads_119 : decode cX14_reads 119 = .ok (.iconst 1, 1) := by decide +kernel
theorem dX14_reads_120 : decode cX14_reads 120 = .ok (.putfield 289, 3) := by decide +kernel
theorem dX14_reads_123 : decode cX14_reads 123 = .ok (.aload_n 0, 1) := by decide +kernel
theorem dX14_reads_124 : decode cX14_reads 124 = .ok (.iload_n 1, 1) := by decide +kernel
theorem dX14_reads_125 : decode cX14_reads 125 = .ok (.invokevirtual 366, 3) := by decide +kernel
theorem dX14_reads_128 : decode cX14_reads 128 = .ok (.iload_n 2, 1) := by decide +kernel
theorem dX14_reads_129 : decode cX14_reads 129 = .ok (.ifCond .eq 10, 3) := by decide +kernel
theorem dX14_reads_132 : decode cX14_reads 132 = .ok (.aload_n 0, 1) := by decide +kernel
theorem dX14_reads_133 : decode cX14_reads 133 = .ok (.invokevirtual 332, 3) := by decide +kernel
theorem dX14_reads_136 : decode cX14_reads 136 = .ok (.goto 7, 3) := by decide +kernel
theorem dX14_reads_139 : decode cX14_reads 139 = .ok (.aload_n 0, 1) := by decide +kernel
theorem dX14_reads_140 : decode cX14_reads 140 = .ok (.invokevirtual 298, 3) := by decide +kernel
theorem dX14_reads_143 : decode cX14_reads 143 = .ok (.aload_n 0, 1) := by decide +kernel
theorem dX14_reads_144 : decode cX14_reads 144 = .ok (.getfield 196, 3) := by decide +kernel
theorem dX14_reads_147 : decode cX14_reads 147 = .ok (.iconst 1, 1) := by decide +kernel
theorem dX14_reads_148 : decode cX14_reads 148 = .ok (.if_icmp .eq 9, 3) := by decide +kernel
theorem dX14_reads_151 : decode cX14_reads 151 = .ok (.aload_n 0, 1) := by decide +kernel
theorem dX14_reads_152 : decode cX14_reads 152 = .ok (.iconst 1, 1) := by decide +kernel
theorem dX14_reads_153 : decode cX14_reads 153 = .ok (.invokevirtual 266, 3) := by decide +kernel
theorem dX14_reads_156 : decode cX14_reads 156 = .ok (.athrow, 1) := by decide +kernel
theorem dX14_reads_157 : decode cX14_reads 157 = .ok (.goto 10, 3) := by decide +kernel
theorem dX14_reads_160 : decode cX14_reads 160 = .ok (.astore_n 3, 1) := by decide +kernel
theorem dX14_reads_161 : decode cX14_reads 161 = .ok (.aload_n 0, 1) := by decide +kernel
theorem dX14_reads_162 : decode cX14_reads 162 = .ok (.aload_n 3, 1) := by decide +kernel
theorem dX14_reads_163 : decode cX14_reads 163 = .ok (.invokevirtual 372, 3) := by decide +kernel
theorem dX14_reads_166 : decode cX14_reads 166 = .ok (.ireturn, 1) := by decide +kernel
theorem dX14_reads_167 : decode cX14_reads 167 = .ok (.aload_n 0, 1) := by decide +kernel
theorem dX14_reads_168 : decode cX14_reads 168 = .ok (.iconst 0, 1) := by decide +kernel
theorem dX14_reads_169 : decode cX14_reads 169 = .ok (.putfield 409, 3) := by decide +kernel
theorem dX14_reads_172 : decode cX14_reads 172 = .ok (.aload_n 0, 1) := by decide +kernel
theorem dX14_reads_173 : decode cX14_reads 173 = .ok (.iconst 0, 1) := by decide +kernel
theorem dX14_reads_174 : decode cX14_reads 174 = .ok (.invokevirtual 413, 3) := by decide +kernel
theorem dX14_reads_177 : decode cX14_reads 177 = .ok (.ireturn, 1) := by decide +kernel
def s_X14_reads_25  (l0 : Nat) (h : aH) : aO :=
  kO h l0 14 (cI (s_X14_refused l0 2 h) fun x27 h27 => some (.inl (some (.int x27)), h27))
def s_X14_reads_143  (l0 : Nat) (h : aH) : aO :=
  (gI h (.ref l0) 14 12).bind fun x144 => if x144 = 1 then ((pZ h (.ref l0) 14 25 0).bind fun h169 => kO h169 l0 14 (cI (s_X14_done l0 0 h169) fun x174 h174 => some (.inl (some (.int x174)), h174))) else (kO h l0 14 (cR (s_X14_stop l0 1 h) fun x153 h153 => kO h153 x153 12 (kO h153 l0 14 (cI (s_X14_faulty l0 x153 h153) fun x163 h163 => some (.inl (some (.int x163)), h163)))))
def s_X14_reads_120  (l0 : Nat) (l1 : Int32) (l2 : Int32) (s0 : Int32) (s1 : Nat) (h : aH) : aO :=
  (pF h (.ref s1) 14 17 (.int s0)).bind fun h120 => kO h120 l0 14 (cN (s_X14_begins l0 l1 h120) fun h125 => if l2 = 0 then (kO h125 l0 14 (xN (s_X14_readSum l0 h125) (fun h140 => s_X14_reads_143 l0 h140) (fun E140 i140 g140 => if E140 = RX12 then (kO g140 l0 14 (cI (s_X14_faulty l0 i140 g140) fun x163 h163 => some (.inl (some (.int x163)), h163))) else none))) else (kO h125 l0 14 (xN (s_X14_readTest l0 h125) (fun h133 => s_X14_reads_143 l0 h133) (fun E133 i133 g133 => if E133 = RX12 then (kO g133 l0 14 (cI (s_X14_faulty l0 i133 g133) fun x163 h163 => some (.inl (some (.int x163)), h163))) else none))))
def s_X14_reads_80_b  (k80 : Nat → Int32 → Int32 → Int32 → aH → aO) (l0 : Nat) (l1 : Int32) (l2 : Int32) (l3 : Int32) (h : aH) : aO :=
  if 11 ≤ l3 then (if l2 = 0 then (s_X14_reads_120 l0 l1 l2 1 l0 h) else (s_X14_reads_120 l0 l1 l2 0 l0 h)) else ((gO h (.ref l0) 14 6).bind fun x87 => (gO h (.ref x87) 13 5).bind fun x90 => (gO h (.ref l0) 14 4).bind fun x95 => (gO h (.ref x95) 13 5).bind fun x98 => (ldJ h (.ref x98) l3).bind fun x102 => (stJ h (.ref x90) l3 x102).bind fun h103 => k80 l0 l1 l2 (l3 + 1) h103)
def s_X14_reads_80  (n : Nat) : Nat → Int32 → Int32 → Int32 → aH → aO := lpF (fun _ _ _ _ _ => none) (s_X14_reads_80_b ) n
def s_X14_reads_49_b  (k49 : Nat → Int32 → Int32 → Int32 → aH → aO) (l0 : Nat) (l1 : Int32) (l2 : Int32) (l3 : Int32) (h : aH) : aO :=
  if 5 ≤ l3 then (s_X14_reads_80 FU l0 l1 l2 0 h) else ((gO h (.ref l0) 14 6).bind fun x55 => (gO h (.ref x55) 13 0).bind fun x58 => (gO h (.ref l0) 14 4).bind fun x63 => (gO h (.ref x63) 13 0).bind fun x66 => (ldI .int h (.ref x66) l3).bind fun x70 => (stI h (.ref x58) l3 x70).bind fun h71 => k49 l0 l1 l2 (l3 + 1) h71)
def s_X14_reads_49  (n : Nat) : Nat → Int32 → Int32 → Int32 → aH → aO := lpF (fun _ _ _ _ _ => none) (s_X14_reads_49_b ) n
def s_X14_reads (o : Nat) (a1 : Int32) (a2 : Int32) (h : aH) : aO :=
  (gW h (.ref o) 14 4).bind fun x1 => match x1 with | .null => (kO h o 14 (cI (s_X14_refused o 1 h) fun x9 h9 => some (.inl (some (.int x9)), h9))) | .ref n4 => (if a1 < 0 then (s_X14_reads_25 o h) else ((gI h (.ref o) 14 9).bind fun x19 => if a1 ≤ x19 then ((gO h (.ref o) 14 19).bind fun x33 => (pF h (.ref o) 14 6 (.ref x33)).bind fun h36 => (gO h36 (.ref o) 14 6).bind fun x40 => (pF h36 (.ref x40) 13 7 (.int 0)).bind fun h44 => s_X14_reads_49 FU o a1 a2 0 h44) else (s_X14_reads_25 o h))) | _ => none
section
variable {p : Program} {l : Launch} {e : Env} {s : State} {m : MethodId} {args : Array Value} {below : List Frame} {meth : Method} {c : Code} {D : va_G} {B0 : Nat} {X : Nat → Nat} {ws0 : va_W} {r : aR} {h' : aH} {mc ms : Nat}
theorem t_X14_reads_25 (C : Cx p l s m args meth c B0 X RX14 "reads" cX14_reads 4 (some .int) [(123, 157, 160, 20)])   {l0 : Nat} {h : aH} (hs : s_X14_reads_25  l0 h = some (r, h')) : Ev p l e { frames := 14, cells := mc, slots := ms, locals := 302 } s m args below meth c D B0 X ws0 r h' mc ms 4 mc ms 25 [some (.ref l0), none, none, none] [] h := by
  unfold s_X14_reads_25 at hs
  refine ev_aload_n C (x := .ref l0) rfl trivial dX14_reads_25 ?_
  refine ev_iconst C (v := 2) dX14_reads_26 (by decide) ?_
  obtain ⟨eo27, hs⟩ := kO_at hs
  obtain ⟨x27, h27, e27, hs⟩ := cI_at hs
  refine ev_callV C (T_X14_refused _ _ _ _ _ e27) (ci := 14) rfl eo27 wc_X14_refused wm_X14_360 wi_X14_refused ws_X14_refused wz_X14 hy_X14_refused ⟨(Nat.le_of_ble_eq_true rfl), (Nat.le_of_ble_eq_true rfl)⟩ ⟨(Nat.le_refl _), (Nat.le_refl _)⟩ (Nat.le_of_ble_eq_true rfl) rfl dX14_reads_27 ?_
  cases hs
  exact ev_iret C rfl rfl (Nat.le_refl _) (Nat.le_refl _) rfl dX14_reads_30
theorem t_X14_reads_143 (C : Cx p l s m args meth c B0 X RX14 "reads" cX14_reads 4 (some .int) [(123, 157, 160, 20)])   {l0 : Nat} {h : aH} (hs : s_X14_reads_143  l0 h = some (r, h')) : Ev p l e { frames := 14, cells := mc, slots := ms, locals := 302 } s m args below meth c D B0 X ws0 r h' mc ms 4 mc ms 143 [some (.ref l0), none, none, none] [] h := by
  unfold s_X14_reads_143 at hs
  refine ev_aload_n C (x := .ref l0) rfl trivial dX14_reads_143 ?_
  obtain ⟨x144, e144, hs⟩ := aB hs
  refine ev_get C (ci := 14) (k := 12) rfl wu_14 (by decide) wf_X14_196 (gI_F e144) dX14_reads_144 ?_
  refine ev_iconst C (v := 1) dX14_reads_147 (by decide) ?_
  refine ev_icmp_eq C (tgt := 157) (by decide) dX14_reads_148 (fun q148 => ?_) (fun q148 => ?_)
  · replace hs := (if_pos q148).symm.trans hs
    refine ev_goto C (tgt := 167) (by decide) dX14_reads_157 ?_
    refine ev_aload_n C (x := .ref l0) rfl trivial dX14_reads_167 ?_
    refine ev_iconst C (v := 0) dX14_reads_168 (by decide) ?_
    obtain ⟨h169, e169, hs⟩ := aB hs
    refine ev_put C (ci := 14) (k := 25) rfl wu_14 (by decide) tyX14 tyX14_ok nmX14 wf_X14_409 rfl (pZ_F e169).2 (pZ_F e169).1 dX14_reads_169 ?_
    refine ev_aload_n C (x := .ref l0) rfl trivial dX14_reads_172 ?_
    refine ev_iconst C (v := 0) dX14_reads_173 (by decide) ?_
    obtain ⟨eo174, hs⟩ := kO_at hs
    obtain ⟨x174, h174, e174, hs⟩ := cI_at hs
    refine ev_callV C (T_X14_done _ _ _ _ _ e174) (ci := 14) rfl eo174 wc_X14_done wm_X14_413 wi_X14_done ws_X14_done wz_X14 hy_X14_done ⟨(Nat.le_of_ble_eq_true rfl), (Nat.le_of_ble_eq_true rfl)⟩ ⟨(Nat.le_refl _), (Nat.le_refl _)⟩ (Nat.le_of_ble_eq_true rfl) rfl dX14_reads_174 ?_
    cases hs
    exact ev_iret C rfl rfl (Nat.le_refl _) (Nat.le_refl _) rfl dX14_reads_177
  · replace hs := (if_neg q148).symm.trans hs
    refine ev_aload_n C (x := .ref l0) rfl trivial dX14_reads_151 ?_
    refine ev_iconst C (v := 1) dX14_reads_152 (by decide) ?_
    obtain ⟨eo153, hs⟩ := kO_at hs
    obtain ⟨x153, h153, e153, hs⟩ := cR_at hs
    refine ev_callV C (T_X14_stop _ _ _ _ _ e153) (ci := 14) rfl eo153 wc_X14_stop wm_X14_266 wi_X14_stop ws_X14_stop wz_X14 hy_X14_stop ⟨(Nat.le_of_ble_eq_true rfl), (Nat.le_of_ble_eq_true rfl)⟩ ⟨(Nat.le_refl _), (Nat.le_refl _)⟩ (Nat.le_of_ble_eq_true rfl) rfl dX14_reads_153 ?_
    obtain ⟨e156, hs⟩ := kO_at hs
    refine ev_athrow C (ci := 12) rfl e156 dX14_reads_156 (ex_catch C ⟨123, 157, 160, 20⟩ rfl (by decide) (by decide) wk_X14_20 wq_SteeringHouseModel_Stop_SteeringHouseModel_Stop ?_)
    refine ev_astore_n C (x := .ref x153) trivial (by decide) dX14_reads_160 ?_
    refine ev_aload_n C (x := .ref l0) rfl trivial dX14_reads_161 ?_
    refine ev_aload_n C (x := .ref x153) rfl trivial dX14_reads_162 ?_
    obtain ⟨eo163, hs⟩ := kO_at hs
    obtain ⟨x163, h163, e163, hs⟩ := cI_at hs
    refine ev_callV C (T_X14_faulty _ _ _ _ _ e163) (ci := 14) rfl eo163 wc_X14_faulty wm_X14_372 wi_X14_faulty ws_X14_faulty wz_X14 hy_X14_faulty ⟨(Nat.le_of_ble_eq_true rfl), (Nat.le_of_ble_eq_true rfl)⟩ ⟨(Nat.le_refl _), (Nat.le_refl _)⟩ (Nat.le_of_ble_eq_true rfl) rfl dX14_reads_163 ?_
    cases hs
    exact ev_iret C rfl rfl (Nat.le_refl _) (Nat.le_refl _) rfl dX14_reads_166
theorem t_X14_reads_120 (C : Cx p l s m args meth c B0 X RX14 "reads" cX14_reads 4 (some .int) [(123, 157, 160, 20)])   {l0 : Nat} {l1 : Int32} {l2 : Int32} {s0 : Int32} {s1 : Nat} {h : aH} (hs : s_X14_reads_120  l0 l1 l2 s0 s1 h = some (r, h')) : Ev p l e { frames := 14, cells := mc, slots := ms, locals := 302 } s m args below meth c D B0 X ws0 r h' mc ms 4 mc ms 120 [some (.ref l0), some (.int l1), some (.int l2), none] [.int s0, .ref s1] h := by
  unfold s_X14_reads_120 at hs
  obtain ⟨h120, e120, hs⟩ := aB hs
  refine ev_put C (ci := 14) (k := 17) rfl wu_14 (by decide) tyX14 tyX14_ok nmX14 wf_X14_289 rfl trivial e120 dX14_reads_120 ?_
  refine ev_aload_n C (x := .ref l0) rfl trivial dX14_reads_123 ?_
  refine ev_iload_n C rfl dX14_reads_124 ?_
  obtain ⟨eo125, hs⟩ := kO_at hs
  obtain ⟨h125, e125, hs⟩ := cN_at hs
  refine ev_callV C (T_X14_begins _ _ _ _ _ e125) (ci := 14) rfl eo125 wc_X14_begins wm_X14_366 wi_X14_begins ws_X14_begins wz_X14 hy_X14_begins ⟨(Nat.le_of_ble_eq_true rfl), (Nat.le_of_ble_eq_true rfl)⟩ ⟨(Nat.le_refl _), (Nat.le_refl _)⟩ (Nat.le_of_ble_eq_true rfl) rfl dX14_reads_125 ?_
  refine ev_iload_n C rfl dX14_reads_128 ?_
  refine ev_if_eq C (tgt := 139) (by decide) dX14_reads_129 (fun q129 => ?_) (fun q129 => ?_)
  · replace hs := (if_pos q129).symm.trans hs
    refine ev_aload_n C (x := .ref l0) rfl trivial dX14_reads_139 ?_
    obtain ⟨eo140, hs⟩ := kO_at hs
    rcases xN_at hs with ⟨h140, e140, hs⟩ | ⟨E140, i140, g140, e140, hs⟩
    · skip
      refine ev_callV C (T_X14_readSum _ _ _ _ e140) (ci := 14) rfl eo140 wc_X14_readSum wm_X14_298 wi_X14_readSum ws_X14_readSum wz_X14 hy_X14_readSum ⟨(Nat.le_of_ble_eq_true rfl), (Nat.le_of_ble_eq_true rfl)⟩ ⟨(Nat.le_refl _), (Nat.le_refl _)⟩ (Nat.le_of_ble_eq_true rfl) rfl dX14_reads_140 ?_
      exact Ev.keep [true, false, false, true] (t_X14_reads_143 C  hs)
    · by_cases qE : E140 = RX12
      · replace hs := (if_pos qE).symm.trans hs
        subst qE
        refine ev_callVX C (T_X14_readSum _ _ _ _ e140) (ci := 14) rfl eo140 wc_X14_readSum wm_X14_298 wi_X14_readSum ws_X14_readSum wz_X14 hy_X14_readSum ⟨(Nat.le_of_ble_eq_true rfl), (Nat.le_of_ble_eq_true rfl)⟩ ⟨(Nat.le_refl _), (Nat.le_refl _)⟩ (Nat.le_of_ble_eq_true rfl) rfl dX14_reads_140 (ex_catch C ⟨123, 157, 160, 20⟩ rfl (by decide) (by decide) wk_X14_20 wq_SteeringHouseModel_Stop_SteeringHouseModel_Stop ?_)
        refine ev_astore_n C (x := .ref i140) trivial (by decide) dX14_reads_160 ?_
        refine ev_aload_n C (x := .ref l0) rfl trivial dX14_reads_161 ?_
        refine ev_aload_n C (x := .ref i140) rfl trivial dX14_reads_162 ?_
        obtain ⟨eo163, hs⟩ := kO_at hs
        obtain ⟨x163, h163, e163, hs⟩ := cI_at hs
        refine ev_callV C (T_X14_faulty _ _ _ _ _ e163) (ci := 14) rfl eo163 wc_X14_faulty wm_X14_372 wi_X14_faulty ws_X14_faulty wz_X14 hy_X14_faulty ⟨(Nat.le_of_ble_eq_true rfl), (Nat.le_of_ble_eq_true rfl)⟩ ⟨(Nat.le_refl _), (Nat.le_refl _)⟩ (Nat.le_of_ble_eq_true rfl) rfl dX14_reads_163 ?_
        cases hs
        exact ev_iret C rfl rfl (Nat.le_refl _) (Nat.le_refl _) rfl dX14_reads_166
      · cases (if_neg qE).symm.trans hs
  · replace hs := (if_neg q129).symm.trans hs
    refine ev_aload_n C (x := .ref l0) rfl trivial dX14_reads_132 ?_
    obtain ⟨eo133, hs⟩ := kO_at hs
    rcases xN_at hs with ⟨h133, e133, hs⟩ | ⟨E133, i133, g133, e133, hs⟩
    · skip
      refine ev_callV C (T_X14_readTest _ _ _ _ e133) (ci := 14) rfl eo133 wc_X14_readTest wm_X14_332 wi_X14_readTest ws_X14_readTest wz_X14 hy_X14_readTest ⟨(Nat.le_of_ble_eq_true rfl), (Nat.le_of_ble_eq_true rfl)⟩ ⟨(Nat.le_refl _), (Nat.le_refl _)⟩ (Nat.le_of_ble_eq_true rfl) rfl dX14_reads_133 ?_
      refine ev_goto C (tgt := 143) (by decide) dX14_reads_136 ?_
      exact Ev.keep [true, false, false, true] (t_X14_reads_143 C  hs)
    · by_cases qE : E133 = RX12
      · replace hs := (if_pos qE).symm.trans hs
        subst qE
        refine ev_callVX C (T_X14_readTest _ _ _ _ e133) (ci := 14) rfl eo133 wc_X14_readTest wm_X14_332 wi_X14_readTest ws_X14_readTest wz_X14 hy_X14_readTest ⟨(Nat.le_of_ble_eq_true rfl), (Nat.le_of_ble_eq_true rfl)⟩ ⟨(Nat.le_refl _), (Nat.le_refl _)⟩ (Nat.le_of_ble_eq_true rfl) rfl dX14_reads_133 (ex_catch C ⟨123, 157, 160, 20⟩ rfl (by decide) (by decide) wk_X14_20 wq_SteeringHouseModel_Stop_SteeringHouseModel_Stop ?_)
        refine ev_astore_n C (x := .ref i133) trivial (by decide) dX14_reads_160 ?_
        refine ev_aload_n C (x := .ref l0) rfl trivial dX14_reads_161 ?_
        refine ev_aload_n C (x := .ref i133) rfl trivial dX14_reads_162 ?_
        obtain ⟨eo163, hs⟩ := kO_at hs
        obtain ⟨x163, h163, e163, hs⟩ := cI_at hs
        refine ev_callV C (T_X14_faulty _ _ _ _ _ e163) (ci := 14) rfl eo163 wc_X14_faulty wm_X14_372 wi_X14_faulty ws_X14_faulty wz_X14 hy_X14_faulty ⟨(Nat.le_of_ble_eq_true rfl), (Nat.le_of_ble_eq_true rfl)⟩ ⟨(Nat.le_refl _), (Nat.le_refl _)⟩ (Nat.le_of_ble_eq_true rfl) rfl dX14_reads_163 ?_
        cases hs
        exact ev_iret C rfl rfl (Nat.le_refl _) (Nat.le_refl _) rfl dX14_reads_166
      · cases (if_neg qE).symm.trans hs
theorem t_X14_reads_80_b (C : Cx p l s m args meth c B0 X RX14 "reads" cX14_reads 4 (some .int) [(123, 157, 160, 20)])   {k80 : Nat → Int32 → Int32 → Int32 → aH → aO} (K80 : ∀ (l0 : Nat) (l1 : Int32) (l2 : Int32) (l3 : Int32) (h : aH), k80 l0 l1 l2 l3 h = some (r, h') → Ev p l e { frames := 14, cells := mc, slots := ms, locals := 302 } s m args below meth c D B0 X ws0 r h' mc ms 4 mc ms 80 [some (.ref l0), some (.int l1), some (.int l2), some (.int l3)] [] h) {l0 : Nat} {l1 : Int32} {l2 : Int32} {l3 : Int32} {h : aH} (hs : s_X14_reads_80_b  k80 l0 l1 l2 l3 h = some (r, h')) : Ev p l e { frames := 14, cells := mc, slots := ms, locals := 302 } s m args below meth c D B0 X ws0 r h' mc ms 4 mc ms 80 [some (.ref l0), some (.int l1), some (.int l2), some (.int l3)] [] h := by
  unfold s_X14_reads_80_b at hs
  refine ev_iload_n C rfl dX14_reads_80 ?_
  refine ev_bipush C (v := 11) dX14_reads_81 (by decide) ?_
  refine ev_icmp_ge C (tgt := 110) (by decide) dX14_reads_83 (fun q83 => ?_) (fun q83 => ?_)
  · replace hs := (if_pos q83).symm.trans hs
    refine ev_aload_n C (x := .ref l0) rfl trivial dX14_reads_110 ?_
    refine ev_iload_n C rfl dX14_reads_111 ?_
    refine ev_if_eq C (tgt := 119) (by decide) dX14_reads_112 (fun q112 => ?_) (fun q112 => ?_)
    · replace hs := (if_pos q112).symm.trans hs
      refine ev_iconst C (v := 1) dX14_reads_119 (by decide) ?_
      exact Ev.keep [true, true, true, false] (t_X14_reads_120 C  hs)
    · replace hs := (if_neg q112).symm.trans hs
      refine ev_iconst C (v := 0) dX14_reads_115 (by decide) ?_
      refine ev_goto C (tgt := 120) (by decide) dX14_reads_116 ?_
      exact Ev.keep [true, true, true, false] (t_X14_reads_120 C  hs)
  · replace hs := (if_neg q83).symm.trans hs
    refine ev_aload_n C (x := .ref l0) rfl trivial dX14_reads_86 ?_
    obtain ⟨x87, e87, hs⟩ := aB hs
    refine ev_get C (ci := 14) (k := 6) rfl wu_14 (by decide) wf_X14_249 (gO_F e87) dX14_reads_87 ?_
    obtain ⟨x90, e90, hs⟩ := aB hs
    refine ev_getN C (ci := 13) (k := 5) rfl wu_13 (by decide) wg_X14_255 (gO_F e90) dX14_reads_90 ?_
    refine ev_iload_n C rfl dX14_reads_93 ?_
    refine ev_aload_n C (x := .ref l0) rfl trivial dX14_reads_94 ?_
    obtain ⟨x95, e95, hs⟩ := aB hs
    refine ev_get C (ci := 14) (k := 4) rfl wu_14 (by decide) wf_X14_376 (gO_F e95) dX14_reads_95 ?_
    obtain ⟨x98, e98, hs⟩ := aB hs
    refine ev_getN C (ci := 13) (k := 5) rfl wu_13 (by decide) wg_X14_255 (gO_F e98) dX14_reads_98 ?_
    refine ev_iload_n C rfl dX14_reads_101 ?_
    obtain ⟨x102, e102, hs⟩ := aB hs
    refine ev_lald C e102 dX14_reads_102 ?_
    obtain ⟨h103, e103, hs⟩ := aB hs
    refine ev_last C e103 dX14_reads_103 ?_
    refine ev_iinc C (i := 3) (n := 1) (x := l3) (v := l3 + 1) rfl (congrArg (fun z => l3 + z) (show Int32.ofInt 1 = 1 by decide)) (by decide) dX14_reads_104 ?_
    refine ev_goto C (tgt := 80) (by decide) dX14_reads_107 ?_
    exact (K80 _ _ _ _ _ hs)
theorem t_X14_reads_80 (C : Cx p l s m args meth c B0 X RX14 "reads" cX14_reads 4 (some .int) [(123, 157, 160, 20)])   : ∀ (n : Nat) {l0 : Nat} {l1 : Int32} {l2 : Int32} {l3 : Int32} {h : aH} (hs : s_X14_reads_80  n l0 l1 l2 l3 h = some (r, h')), Ev p l e { frames := 14, cells := mc, slots := ms, locals := 302 } s m args below meth c D B0 X ws0 r h' mc ms 4 mc ms 80 [some (.ref l0), some (.int l1), some (.int l2), some (.int l3)] [] h
  | 0, _, _, _, _, _, hs => nomatch hs
  | n + 1, _, _, _, _, _, hs => t_X14_reads_80_b C  (k80 := s_X14_reads_80  n) (fun _ _ _ _ _ hs => t_X14_reads_80 C  n hs) hs
theorem t_X14_reads_49_b (C : Cx p l s m args meth c B0 X RX14 "reads" cX14_reads 4 (some .int) [(123, 157, 160, 20)])   {k49 : Nat → Int32 → Int32 → Int32 → aH → aO} (K49 : ∀ (l0 : Nat) (l1 : Int32) (l2 : Int32) (l3 : Int32) (h : aH), k49 l0 l1 l2 l3 h = some (r, h') → Ev p l e { frames := 14, cells := mc, slots := ms, locals := 302 } s m args below meth c D B0 X ws0 r h' mc ms 4 mc ms 49 [some (.ref l0), some (.int l1), some (.int l2), some (.int l3)] [] h) {l0 : Nat} {l1 : Int32} {l2 : Int32} {l3 : Int32} {h : aH} (hs : s_X14_reads_49_b  k49 l0 l1 l2 l3 h = some (r, h')) : Ev p l e { frames := 14, cells := mc, slots := ms, locals := 302 } s m args below meth c D B0 X ws0 r h' mc ms 4 mc ms 49 [some (.ref l0), some (.int l1), some (.int l2), some (.int l3)] [] h := by
  unfold s_X14_reads_49_b at hs
  refine ev_iload_n C rfl dX14_reads_49 ?_
  refine ev_iconst C (v := 5) dX14_reads_50 (by decide) ?_
  refine ev_icmp_ge C (tgt := 78) (by decide) dX14_reads_51 (fun q51 => ?_) (fun q51 => ?_)
  · replace hs := (if_pos q51).symm.trans hs
    refine ev_iconst C (v := 0) dX14_reads_78 (by decide) ?_
    refine ev_istore_n C (by decide) dX14_reads_79 ?_
    exact (t_X14_reads_80 C  FU hs)
  · replace hs := (if_neg q51).symm.trans hs
    refine ev_aload_n C (x := .ref l0) rfl trivial dX14_reads_54 ?_
    obtain ⟨x55, e55, hs⟩ := aB hs
    refine ev_get C (ci := 14) (k := 6) rfl wu_14 (by decide) wf_X14_249 (gO_F e55) dX14_reads_55 ?_
    obtain ⟨x58, e58, hs⟩ := aB hs
    refine ev_getN C (ci := 13) (k := 0) rfl wu_13 (by decide) wg_X14_252 (gO_F e58) dX14_reads_58 ?_
    refine ev_iload_n C rfl dX14_reads_61 ?_
    refine ev_aload_n C (x := .ref l0) rfl trivial dX14_reads_62 ?_
    obtain ⟨x63, e63, hs⟩ := aB hs
    refine ev_get C (ci := 14) (k := 4) rfl wu_14 (by decide) wf_X14_376 (gO_F e63) dX14_reads_63 ?_
    obtain ⟨x66, e66, hs⟩ := aB hs
    refine ev_getN C (ci := 13) (k := 0) rfl wu_13 (by decide) wg_X14_252 (gO_F e66) dX14_reads_66 ?_
    refine ev_iload_n C rfl dX14_reads_69 ?_
    obtain ⟨x70, e70, hs⟩ := aB hs
    refine ev_iald C e70 dX14_reads_70 ?_
    obtain ⟨h71, e71, hs⟩ := aB hs
    refine ev_iast C e71 dX14_reads_71 ?_
    refine ev_iinc C (i := 3) (n := 1) (x := l3) (v := l3 + 1) rfl (congrArg (fun z => l3 + z) (show Int32.ofInt 1 = 1 by decide)) (by decide) dX14_reads_72 ?_
    refine ev_goto C (tgt := 49) (by decide) dX14_reads_75 ?_
    exact (K49 _ _ _ _ _ hs)
theorem t_X14_reads_49 (C : Cx p l s m args meth c B0 X RX14 "reads" cX14_reads 4 (some .int) [(123, 157, 160, 20)])   : ∀ (n : Nat) {l0 : Nat} {l1 : Int32} {l2 : Int32} {l3 : Int32} {h : aH} (hs : s_X14_reads_49  n l0 l1 l2 l3 h = some (r, h')), Ev p l e { frames := 14, cells := mc, slots := ms, locals := 302 } s m args below meth c D B0 X ws0 r h' mc ms 4 mc ms 49 [some (.ref l0), some (.int l1), some (.int l2), some (.int l3)] [] h
  | 0, _, _, _, _, _, hs => nomatch hs
  | n + 1, _, _, _, _, _, hs => t_X14_reads_49_b C  (k49 := s_X14_reads_49  n) (fun _ _ _ _ _ hs => t_X14_reads_49 C  n hs) hs
theorem hy_X14_reads : yX14_reads.cls ≠ "java/lang/invoke/MethodHandle" ∧ yX14_reads.cls ≠ "java/lang/invoke/VarHandle" ∧ (parseMethodDescriptor yX14_reads.desc).map (fun d => d.parameters.length) = some 2 := by decide +kernel
theorem T_X14_reads (o : Nat) (a1 : Int32) (a2 : Int32) (h : aH) (r : aR) (h' : aH) (hs : s_X14_reads o a1 a2 h = some (r, h')) : Mt yX14_reads (Cond.codeWith yX14_reads cX14_reads 4 (some .int) [(123, 157, 160, 20)] :: aTB) 14 302 0 0 [.ref o, .int a1, .int a2] h r h' := by
  unfold s_X14_reads at hs
  refine Mt_ofH (k := 1) (by decide) rfl (fun p l e s m args below meth c D B0 X ws0 C => ?_)
  show Ev p l e { frames := 14, cells := 0, slots := 0, locals := 302 } s m args below meth c D B0 X ws0 r h' 0 0 4 0 0 0 [some (.ref o), some (.int a1), some (.int a2), none] [] h
  refine ev_aload_n C (x := .ref o) rfl trivial dX14_reads_0 ?_
  obtain ⟨x1, e1, hs⟩ := aB hs
  refine ev_get C (ci := 14) (k := 4) rfl wu_14 (by decide) wf_X14_376 (gW_F e1).1 dX14_reads_1 ?_
  cases x1 with
  | null =>
    refine ev_ifnonnull_n C dX14_reads_4 ?_
    refine ev_aload_n C (x := .ref o) rfl trivial dX14_reads_7 ?_
    refine ev_iconst C (v := 1) dX14_reads_8 (by decide) ?_
    obtain ⟨eo9, hs⟩ := kO_at hs
    obtain ⟨x9, h9, e9, hs⟩ := cI_at hs
    refine ev_callV C (T_X14_refused _ _ _ _ _ e9) (ci := 14) rfl eo9 wc_X14_refused wm_X14_360 wi_X14_refused ws_X14_refused wz_X14 hy_X14_refused ⟨(Nat.le_of_ble_eq_true rfl), (Nat.le_of_ble_eq_true rfl)⟩ ⟨(Nat.le_refl _), (Nat.le_refl _)⟩ (Nat.le_of_ble_eq_true rfl) rfl dX14_reads_9 ?_
    cases hs
    exact ev_iret C rfl rfl (Nat.le_refl _) (Nat.le_refl _) rfl dX14_reads_12
  | ref n4 =>
    refine ev_ifnonnull_r C (tgt := 13) (by decide) dX14_reads_4 ?_
    refine ev_iload_n C rfl dX14_reads_13 ?_
    refine ev_if_lt C (tgt := 25) (by decide) dX14_reads_14 (fun q14 => ?_) (fun q14 => ?_)
    · replace hs := (if_pos q14).symm.trans hs
      exact Ev.keep [true, false, false, true] (t_X14_reads_25 C  hs)
    · replace hs := (if_neg q14).symm.trans hs
      refine ev_iload_n C rfl dX14_reads_17 ?_
      refine ev_aload_n C (x := .ref o) rfl trivial dX14_reads_18 ?_
      obtain ⟨x19, e19, hs⟩ := aB hs
      refine ev_get C (ci := 14) (k := 9) rfl wu_14 (by decide) wf_X14_354 (gI_F e19) dX14_reads_19 ?_
      refine ev_icmp_le C (tgt := 31) (by decide) dX14_reads_22 (fun q22 => ?_) (fun q22 => ?_)
      · replace hs := (if_pos q22).symm.trans hs
        refine ev_aload_n C (x := .ref o) rfl trivial dX14_reads_31 ?_
        refine ev_aload_n C (x := .ref o) rfl trivial dX14_reads_32 ?_
        obtain ⟨x33, e33, hs⟩ := aB hs
        refine ev_get C (ci := 14) (k := 19) rfl wu_14 (by decide) wf_X14_31 (gO_F e33) dX14_reads_33 ?_
        obtain ⟨h36, e36, hs⟩ := aB hs
        refine ev_put C (ci := 14) (k := 6) rfl wu_14 (by decide) tyX14 tyX14_ok nmX14 wf_X14_249 rfl trivial e36 dX14_reads_36 ?_
        refine ev_aload_n C (x := .ref o) rfl trivial dX14_reads_39 ?_
        obtain ⟨x40, e40, hs⟩ := aB hs
        refine ev_get C (ci := 14) (k := 6) rfl wu_14 (by decide) wf_X14_249 (gO_F e40) dX14_reads_40 ?_
        refine ev_iconst C (v := 0) dX14_reads_43 (by decide) ?_
        obtain ⟨h44, e44, hs⟩ := aB hs
        refine ev_putN C (ci := 13) (k := 7) rfl wu_13 (by decide) tyX13 tyX13_ok nmX13 wg_X14_295 rfl trivial e44 dX14_reads_44 ?_
        refine ev_iconst C (v := 0) dX14_reads_47 (by decide) ?_
        refine ev_istore_n C (by decide) dX14_reads_48 ?_
        exact (t_X14_reads_49 C  FU hs)
      · replace hs := (if_neg q22).symm.trans hs
        exact Ev.keep [true, false, false, true] (t_X14_reads_25 C  hs)
  | _ => cases hs
end
-- X14_marks
theorem dX14_marks_0 : decode cX14_marks 0 = .ok (.iconst 0, 1) := by decide +kernel
theorem dX14_marks_1 : decode cX14_marks 1 = .ok (.istore_n 2, 1) := by decide +kernel
theorem dX14_marks_2 : decode cX14_marks 2 = .ok (.iconst 0, 1) := by decide +kernel
theorem dX14_marks_3 : decode cX14_marks 3 = .ok (.istore_n 3, 1) := by decide +kernel
theorem dX14_marks_4 : decode cX14_marks 4 = .ok (.iload_n 3, 1) := by decide +kernel
theorem dX14_marks_5 : decode cX14_marks 5 = .ok (.aload_n 0, 1) := by decide +kernel
theorem dX14_marks_6 : decode cX14_marks 6 = .ok (.getfield 379, 3) := by decide +kernel
theorem dX14_marks_9 : decode cX14_marks 9 = .ok (.if_icmp .ge 56, 3) := by decide +kernel
theorem dX14_marks_12 : decode cX14_marks 12 = .ok (.aload_n 0, 1) := by decide +kernel
theorem dX14_marks_13 : decode cX14_marks 13 = .ok (.iload_n 3, 1) := by decide +kernel
theorem dX14_marks_14 : decode cX14_marks 14 = .ok (.invokevirtual 416, 3) := by decide +kernel
theorem dX14_marks_17 : decode cX14_marks 17 = .ok (.aload_n 1, 1) := by decide +kernel
theorem dX14_marks_18 : decode cX14_marks 18 = .ok (.iload_n 3, 1) := by decide +kernel
theorem dX14_marks_19 : decode cX14_marks 19 = .ok (.aload_n 0, 1) := by decide +kernel
theorem dX14_marks_20 : decode cX14_marks 20 = .ok (.aload_n 0, 1) := by decide +kernel
theorem dX14_marks_21 : decode cX14_marks 21 = .ok (.getfield 31, 3) := by decide +kernel
theorem dX14_marks_24 : decode cX14_marks 24 = .ok (.iconst 0, 1) := by decide +kernel
theorem dX14_marks_25 : decode cX14_marks 25 = .ok (.aload_n 0, 1) := by decide +kernel
theorem dX14_marks_26 : decode cX14_marks 26 = .ok (.getfield 31, 3) := by decide +kernel
theorem dX14_marks_29 : decode cX14_marks 29 = .ok (.getfield 295, 3) := by decide +kernel
theorem dX14_marks_32 : decode cX14_marks 32 = .ok (.invokevirtual 419, 3) := by decide +kernel
theorem dX14_marks_35 : decode cX14_marks 35 = .ok (.iconst 1, 1) := by decide +kernel
theorem dX14_marks_36 : decode cX14_marks 36 = .ok (.if_icmp .ne 7, 3) := by decide +kernel
theorem dX14_marks_39 : decode cX14_marks 39 = .ok (.iconst 1, 1) := by decide +kernel
theorem dX14_marks_40 : decode cX14_marks 40 = .ok (.goto 4, 3) := by decide +kernel
theorem dX14_marks_43 : decode cX14_marks 43 = .ok (.iconst 0, 1) := by decide +kernel
theorem dX14_marks_44 : decode cX14_marks 44 = .ok (.bastore, 1) := by decide +kernel
theorem dX14_marks_45 : decode cX14_marks 45 = .ok (.iload_n 2, 1) := by decide +kernel
theorem dX14_marks_46 : decode cX14_marks 46 = .ok (.aload_n 1, 1) := by decide +kernel
theorem dX14_marks_47 : decode cX14_marks 47 = .ok (.iload_n 3, 1) := by decide +kernel
theorem dX14_marks_48 : decode cX14_marks 48 = .ok (.baload, 1) := by decide +kernel
theorem dX14_marks_49 : decode cX14_marks 49 = .ok (.ifCond .eq 7, 3) := by decide +kernel
theorem dX14_marks_52 : decode cX14_marks 52 = .ok (.iconst 1, 1) := by decide +kernel
theorem dX14_marks_53 : decode cX14_marks 53 = .ok (.goto 4, 3) := by decide +kernel
theorem dX14_marks_56 : decode cX14_marks 56 = .ok (.iconst 0, 1) := by decide +kernel
theorem dX14_marks_57 : decode cX14_marks 57 = .ok (.iadd, 1) := by decide +kernel
theorem dX14_marks_58 : decode cX14_marks 58 = .ok (.istore_n 2, 1) := by decide +kernel
theorem dX14_marks_59 : decode cX14_marks 59 = .ok (.iinc 3 1, 3) := by decide +kernel
theorem dX14_marks_62 : decode cX14_marks 62 = .ok (.goto (-58), 3) := by decide +kernel
theorem dX14_marks_65 : decode cX14_marks 65 = .ok (.iload_n 2, 1) := by decide +kernel
theorem dX14_marks_66 : decode cX14_marks 66 = .ok (.ireturn, 1) := by decide +kernel
def s_X14_marks_57 (k4 : Nat → Nat → Int32 → Int32 → aH → aO) (l0 : Nat) (l1 : Nat) (l3 : Int32) (s0 : Int32) (s1 : Int32) (h : aH) : aO :=
  k4 l0 l1 (s1 + s0) (l3 + 1) h
def s_X14_marks_44 (k4 : Nat → Nat → Int32 → Int32 → aH → aO) (l0 : Nat) (l1 : Nat) (l2 : Int32) (l3 : Int32) (s0 : Int32) (s1 : Int32) (s2 : Nat) (h : aH) : aO :=
  (stN .boolean h (.ref s2) s1 s0).bind fun h44 => (ldI .boolean h44 (.ref l1) l3).bind fun x48 => if x48 = 0 then (s_X14_marks_57 k4 l0 l1 l3 0 l2 h44) else (s_X14_marks_57 k4 l0 l1 l3 1 l2 h44)
def s_X14_marks_4_b  (k4 : Nat → Nat → Int32 → Int32 → aH → aO) (l0 : Nat) (l1 : Nat) (l2 : Int32) (l3 : Int32) (h : aH) : aO :=
  (gI h (.ref l0) 14 20).bind fun x6 => if x6 ≤ l3 then (some (.inl (some (.int l2)), h)) else (kO h l0 14 (cN (s_X14_lays l0 l3 h) fun h14 => (gO h14 (.ref l0) 14 19).bind fun x21 => (gO h14 (.ref l0) 14 19).bind fun x26 => (gI h14 (.ref x26) 13 7).bind fun x29 => kO h14 l0 14 (cI (s_X14_valueOf l0 x21 0 x29 h14) fun x32 h32 => if x32 = 1 then (s_X14_marks_44 k4 l0 l1 l2 l3 1 l3 l1 h32) else (s_X14_marks_44 k4 l0 l1 l2 l3 0 l3 l1 h32))))
def s_X14_marks_4  (n : Nat) : Nat → Nat → Int32 → Int32 → aH → aO := lpF (fun _ _ _ _ _ => none) (s_X14_marks_4_b ) n
def s_X14_marks (o : Nat) (a1 : Nat) (h : aH) : aO :=
  s_X14_marks_4 FU o a1 0 0 h
section
variable {p : Program} {l : Launch} {e : Env} {s : State} {m : MethodId} {args : Array Value} {below : List Frame} {meth : Method} {c : Code} {D : va_G} {B0 : Nat} {X : Nat → Nat} {ws0 : va_W} {r : aR} {h' : aH} {mc ms : Nat}
theorem t_X14_marks_57 (C : Cx p l s m args meth c B0 X RX14 "marks" cX14_marks 4 (some .int) []) {k4 : Nat → Nat → Int32 → Int32 → aH → aO} (K4 : ∀ (l0 : Nat) (l1 : Nat) (l2 : Int32) (l3 : Int32) (h : aH), k4 l0 l1 l2 l3 h = some (r, h') → Ev p l e { frames := 3, cells := mc, slots := ms, locals := 75 } s m args below meth c D B0 X ws0 r h' mc ms 4 mc ms 4 [some (.ref l0), some (.ref l1), some (.int l2), some (.int l3)] [] h) {l0 : Nat} {l1 : Nat} {l3 : Int32} {s0 : Int32} {s1 : Int32} {h : aH} (hs : s_X14_marks_57 k4 l0 l1 l3 s0 s1 h = some (r, h')) : Ev p l e { frames := 3, cells := mc, slots := ms, locals := 75 } s m args below meth c D B0 X ws0 r h' mc ms 4 mc ms 57 [some (.ref l0), some (.ref l1), none, some (.int l3)] [.int s0, .int s1] h := by
  unfold s_X14_marks_57 at hs
  refine ev_iadd C dX14_marks_57 ?_
  refine ev_istore_n C (by decide) dX14_marks_58 ?_
  refine ev_iinc C (i := 3) (n := 1) (x := l3) (v := l3 + 1) rfl (congrArg (fun z => l3 + z) (show Int32.ofInt 1 = 1 by decide)) (by decide) dX14_marks_59 ?_
  refine ev_goto C (tgt := 4) (by decide) dX14_marks_62 ?_
  exact (K4 _ _ _ _ _ hs)
theorem t_X14_marks_44 (C : Cx p l s m args meth c B0 X RX14 "marks" cX14_marks 4 (some .int) []) {k4 : Nat → Nat → Int32 → Int32 → aH → aO} (K4 : ∀ (l0 : Nat) (l1 : Nat) (l2 : Int32) (l3 : Int32) (h : aH), k4 l0 l1 l2 l3 h = some (r, h') → Ev p l e { frames := 3, cells := mc, slots := ms, locals := 75 } s m args below meth c D B0 X ws0 r h' mc ms 4 mc ms 4 [some (.ref l0), some (.ref l1), some (.int l2), some (.int l3)] [] h) {l0 : Nat} {l1 : Nat} {l2 : Int32} {l3 : Int32} {s0 : Int32} {s1 : Int32} {s2 : Nat} {h : aH} (hs : s_X14_marks_44 k4 l0 l1 l2 l3 s0 s1 s2 h = some (r, h')) : Ev p l e { frames := 3, cells := mc, slots := ms, locals := 75 } s m args below meth c D B0 X ws0 r h' mc ms 4 mc ms 44 [some (.ref l0), some (.ref l1), some (.int l2), some (.int l3)] [.int s0, .int s1, .ref s2] h := by
  unfold s_X14_marks_44 at hs
  obtain ⟨h44, e44, hs⟩ := aB hs
  refine ev_zast C e44 dX14_marks_44 ?_
  refine ev_iload_n C rfl dX14_marks_45 ?_
  refine ev_aload_n C (x := .ref l1) rfl trivial dX14_marks_46 ?_
  refine ev_iload_n C rfl dX14_marks_47 ?_
  obtain ⟨x48, e48, hs⟩ := aB hs
  refine ev_zald C e48 dX14_marks_48 ?_
  refine ev_if_eq C (tgt := 56) (by decide) dX14_marks_49 (fun q49 => ?_) (fun q49 => ?_)
  · replace hs := (if_pos q49).symm.trans hs
    refine ev_iconst C (v := 0) dX14_marks_56 (by decide) ?_
    exact Ev.keep [true, true, false, true] (t_X14_marks_57 C K4 hs)
  · replace hs := (if_neg q49).symm.trans hs
    refine ev_iconst C (v := 1) dX14_marks_52 (by decide) ?_
    refine ev_goto C (tgt := 57) (by decide) dX14_marks_53 ?_
    exact Ev.keep [true, true, false, true] (t_X14_marks_57 C K4 hs)
theorem t_X14_marks_4_b (C : Cx p l s m args meth c B0 X RX14 "marks" cX14_marks 4 (some .int) [])   {k4 : Nat → Nat → Int32 → Int32 → aH → aO} (K4 : ∀ (l0 : Nat) (l1 : Nat) (l2 : Int32) (l3 : Int32) (h : aH), k4 l0 l1 l2 l3 h = some (r, h') → Ev p l e { frames := 3, cells := mc, slots := ms, locals := 75 } s m args below meth c D B0 X ws0 r h' mc ms 4 mc ms 4 [some (.ref l0), some (.ref l1), some (.int l2), some (.int l3)] [] h) {l0 : Nat} {l1 : Nat} {l2 : Int32} {l3 : Int32} {h : aH} (hs : s_X14_marks_4_b  k4 l0 l1 l2 l3 h = some (r, h')) : Ev p l e { frames := 3, cells := mc, slots := ms, locals := 75 } s m args below meth c D B0 X ws0 r h' mc ms 4 mc ms 4 [some (.ref l0), some (.ref l1), some (.int l2), some (.int l3)] [] h := by
  unfold s_X14_marks_4_b at hs
  refine ev_iload_n C rfl dX14_marks_4 ?_
  refine ev_aload_n C (x := .ref l0) rfl trivial dX14_marks_5 ?_
  obtain ⟨x6, e6, hs⟩ := aB hs
  refine ev_get C (ci := 14) (k := 20) rfl wu_14 (by decide) wf_X14_379 (gI_F e6) dX14_marks_6 ?_
  refine ev_icmp_ge C (tgt := 65) (by decide) dX14_marks_9 (fun q9 => ?_) (fun q9 => ?_)
  · replace hs := (if_pos q9).symm.trans hs
    refine ev_iload_n C rfl dX14_marks_65 ?_
    cases hs
    exact ev_iret C rfl rfl (Nat.le_refl _) (Nat.le_refl _) rfl dX14_marks_66
  · replace hs := (if_neg q9).symm.trans hs
    refine ev_aload_n C (x := .ref l0) rfl trivial dX14_marks_12 ?_
    refine ev_iload_n C rfl dX14_marks_13 ?_
    obtain ⟨eo14, hs⟩ := kO_at hs
    obtain ⟨h14, e14, hs⟩ := cN_at hs
    refine ev_callV C (T_X14_lays _ _ _ _ _ e14) (ci := 14) rfl eo14 wc_X14_lays wm_X14_416 wi_X14_lays ws_X14_lays wz_X14 hy_X14_lays ⟨(Nat.le_of_ble_eq_true rfl), (Nat.le_of_ble_eq_true rfl)⟩ ⟨(Nat.le_refl _), (Nat.le_refl _)⟩ (Nat.le_of_ble_eq_true rfl) rfl dX14_marks_14 ?_
    refine ev_aload_n C (x := .ref l1) rfl trivial dX14_marks_17 ?_
    refine ev_iload_n C rfl dX14_marks_18 ?_
    refine ev_aload_n C (x := .ref l0) rfl trivial dX14_marks_19 ?_
    refine ev_aload_n C (x := .ref l0) rfl trivial dX14_marks_20 ?_
    obtain ⟨x21, e21, hs⟩ := aB hs
    refine ev_get C (ci := 14) (k := 19) rfl wu_14 (by decide) wf_X14_31 (gO_F e21) dX14_marks_21 ?_
    refine ev_iconst C (v := 0) dX14_marks_24 (by decide) ?_
    refine ev_aload_n C (x := .ref l0) rfl trivial dX14_marks_25 ?_
    obtain ⟨x26, e26, hs⟩ := aB hs
    refine ev_get C (ci := 14) (k := 19) rfl wu_14 (by decide) wf_X14_31 (gO_F e26) dX14_marks_26 ?_
    obtain ⟨x29, e29, hs⟩ := aB hs
    refine ev_getN C (ci := 13) (k := 7) rfl wu_13 (by decide) wg_X14_295 (gI_F e29) dX14_marks_29 ?_
    obtain ⟨eo32, hs⟩ := kO_at hs
    obtain ⟨x32, h32, e32, hs⟩ := cI_at hs
    refine ev_callV C (T_X14_valueOf _ _ _ _ _ _ _ e32) (ci := 14) rfl eo32 wc_X14_valueOf wm_X14_419 wi_X14_valueOf ws_X14_valueOf wz_X14 hy_X14_valueOf ⟨(Nat.le_of_ble_eq_true rfl), (Nat.le_of_ble_eq_true rfl)⟩ ⟨(Nat.le_refl _), (Nat.le_refl _)⟩ (Nat.le_of_ble_eq_true rfl) rfl dX14_marks_32 ?_
    refine ev_iconst C (v := 1) dX14_marks_35 (by decide) ?_
    refine ev_icmp_ne C (tgt := 43) (by decide) dX14_marks_36 (fun q36 => ?_) (fun q36 => ?_)
    · replace hs := (if_neg q36).symm.trans hs
      refine ev_iconst C (v := 0) dX14_marks_43 (by decide) ?_
      exact (t_X14_marks_44 C K4 hs)
    · replace hs := (if_pos q36).symm.trans hs
      refine ev_iconst C (v := 1) dX14_marks_39 (by decide) ?_
      refine ev_goto C (tgt := 44) (by decide) dX14_marks_40 ?_
      exact (t_X14_marks_44 C K4 hs)
theorem t_X14_marks_4 (C : Cx p l s m args meth c B0 X RX14 "marks" cX14_marks 4 (some .int) [])   : ∀ (n : Nat) {l0 : Nat} {l1 : Nat} {l2 : Int32} {l3 : Int32} {h : aH} (hs : s_X14_marks_4  n l0 l1 l2 l3 h = some (r, h')), Ev p l e { frames := 3, cells := mc, slots := ms, locals := 75 } s m args below meth c D B0 X ws0 r h' mc ms 4 mc ms 4 [some (.ref l0), some (.ref l1), some (.int l2), some (.int l3)] [] h
  | 0, _, _, _, _, _, hs => nomatch hs
  | n + 1, _, _, _, _, _, hs => t_X14_marks_4_b C  (k4 := s_X14_marks_4  n) (fun _ _ _ _ _ hs => t_X14_marks_4 C  n hs) hs
theorem hy_X14_marks : yX14_marks.cls ≠ "java/lang/invoke/MethodHandle" ∧ yX14_marks.cls ≠ "java/lang/invoke/VarHandle" ∧ (parseMethodDescriptor yX14_marks.desc).map (fun d => d.parameters.length) = some 1 := by decide +kernel
theorem T_X14_marks (o : Nat) (a1 : Nat) (h : aH) (r : aR) (h' : aH) (hs : s_X14_marks o a1 h = some (r, h')) : Mt yX14_marks (Cond.code yX14_marks cX14_marks 4 (some .int) :: aTB) 3 75 0 0 [.ref o, .ref a1] h r h' := by
  unfold s_X14_marks at hs
  refine Mt_of (k := 2) (by decide) rfl (fun p l e s m args below meth c D B0 X ws0 C => ?_)
  show Ev p l e { frames := 3, cells := 0, slots := 0, locals := 75 } s m args below meth c D B0 X ws0 r h' 0 0 4 0 0 0 [some (.ref o), some (.ref a1), none, none] [] h
  refine ev_iconst C (v := 0) dX14_marks_0 (by decide) ?_
  refine ev_istore_n C (by decide) dX14_marks_1 ?_
  refine ev_iconst C (v := 0) dX14_marks_2 (by decide) ?_
  refine ev_istore_n C (by decide) dX14_marks_3 ?_
  exact (t_X14_marks_4 C  FU hs)
end
-- X14_good
theorem dX14_good_0 : decode cX14_good 0 = .ok (.aload_n 0, 1) := by decide +kernel
theorem dX14_good_1 : decode cX14_good 1 = .ok (.iconst 0, 1) := by decide +kernel
theorem dX14_good_2 : decode cX14_good 2 = .ok (.putfield 154, 3) := by decide +kernel
theorem dX14_good_5 : decode cX14_good 5 = .ok (.aload_n 0, 1) := by decide +kernel
theorem dX14_good_6 : decode cX14_good 6 = .ok (.iload_n 1, 1) := by decide +kernel
theorem dX14_good_7 : decode cX14_good 7 = .ok (.iconst 1, 1) := by decide +kernel
theorem dX14_good_8 : decode cX14_good 8 = .ok (.invokevirtual 422, 3) := by decide +kernel
theorem dX14_good_11 : decode cX14_good 11 = .ok (.istore_n 2, 1) := by decide +kernel
theorem dX14_good_12 : decode cX14_good 12 = .ok (.iload_n 2, 1) := by decide +kernel
theorem dX14_good_13 : decode cX14_good 13 = .ok (.iconst (-1), 1) := by decide +kernel
theorem dX14_good_14 : decode cX14_good 14 = .ok (.if_icmp .ne 7, 3) := by decide +kernel
theorem dX14_good_17 : decode cX14_good 17 = .ok (.iconst (-1), 1) := by decide +kernel
theorem dX14_good_18 : decode cX14_good 18 = .ok (.goto 11, 3) := by decide +kernel
theorem dX14_good_21 : decode cX14_good 21 = .ok (.aload_n 0, 1) := by decide +kernel
theorem dX14_good_22 : decode cX14_good 22 = .ok (.aload_n 0, 1) := by decide +kernel
theorem dX14_good_23 : decode cX14_good 23 = .ok (.getfield 37, 3) := by decide +kernel
theorem dX14_good_26 : decode cX14_good 26 = .ok (.invokevirtual 426, 3) := by decide +kernel
theorem dX14_good_29 : decode cX14_good 29 = .ok (.ireturn, 1) := by decide +kernel
def s_X14_good (o : Nat) (a1 : Int32) (h : aH) : aO :=
  (pF h (.ref o) 14 0 (.int 0)).bind fun h2 => kO h2 o 14 (cI (s_X14_reads o a1 1 h2) fun x8 h8 => if x8 = (-1) then (some (.inl (some (.int (-1))), h8)) else ((gO h8 (.ref o) 14 27).bind fun x23 => kO h8 o 14 (cI (s_X14_marks o x23 h8) fun x26 h26 => some (.inl (some (.int x26)), h26))))
section
variable {p : Program} {l : Launch} {e : Env} {s : State} {m : MethodId} {args : Array Value} {below : List Frame} {meth : Method} {c : Code} {D : va_G} {B0 : Nat} {X : Nat → Nat} {ws0 : va_W} {r : aR} {h' : aH} {mc ms : Nat}
theorem hy_X14_good : yX14_good.cls ≠ "java/lang/invoke/MethodHandle" ∧ yX14_good.cls ≠ "java/lang/invoke/VarHandle" ∧ (parseMethodDescriptor yX14_good.desc).map (fun d => d.parameters.length) = some 1 := by decide +kernel
theorem T_X14_good (o : Nat) (a1 : Int32) (h : aH) (r : aR) (h' : aH) (hs : s_X14_good o a1 h = some (r, h')) : Mt yX14_good (Cond.code yX14_good cX14_good 3 (some .int) :: aTB) 15 325 0 0 [.ref o, .int a1] h r h' := by
  unfold s_X14_good at hs
  refine Mt_of (k := 1) (by decide) rfl (fun p l e s m args below meth c D B0 X ws0 C => ?_)
  show Ev p l e { frames := 15, cells := 0, slots := 0, locals := 325 } s m args below meth c D B0 X ws0 r h' 0 0 3 0 0 0 [some (.ref o), some (.int a1), none] [] h
  refine ev_aload_n C (x := .ref o) rfl trivial dX14_good_0 ?_
  refine ev_iconst C (v := 0) dX14_good_1 (by decide) ?_
  obtain ⟨h2, e2, hs⟩ := aB hs
  refine ev_put C (ci := 14) (k := 0) rfl wu_14 (by decide) tyX14 tyX14_ok nmX14 wf_X14_154 rfl trivial e2 dX14_good_2 ?_
  refine ev_aload_n C (x := .ref o) rfl trivial dX14_good_5 ?_
  refine ev_iload_n C rfl dX14_good_6 ?_
  refine ev_iconst C (v := 1) dX14_good_7 (by decide) ?_
  obtain ⟨eo8, hs⟩ := kO_at hs
  obtain ⟨x8, h8, e8, hs⟩ := cI_at hs
  refine ev_callVW C (T_X14_reads _ _ _ _ _ _ e8) (ci := 14) rfl eo8 wc_X14_reads wm_X14_422 wi_X14_reads ws_X14_reads wz_X14 hy_X14_reads ⟨(Nat.le_of_ble_eq_true rfl), (Nat.le_of_ble_eq_true rfl)⟩ ⟨(Nat.le_refl _), (Nat.le_refl _)⟩ (Nat.le_of_ble_eq_true rfl) rfl dX14_good_8 ?_
  refine ev_istore_n C (by decide) dX14_good_11 ?_
  refine ev_iload_n C rfl dX14_good_12 ?_
  refine ev_iconst C (v := (-1)) dX14_good_13 (by decide) ?_
  refine ev_icmp_ne C (tgt := 21) (by decide) dX14_good_14 (fun q14 => ?_) (fun q14 => ?_)
  · replace hs := (if_neg q14).symm.trans hs
    refine ev_aload_n C (x := .ref o) rfl trivial dX14_good_21 ?_
    refine ev_aload_n C (x := .ref o) rfl trivial dX14_good_22 ?_
    obtain ⟨x23, e23, hs⟩ := aB hs
    refine ev_get C (ci := 14) (k := 27) rfl wu_14 (by decide) wf_X14_37 (gO_F e23) dX14_good_23 ?_
    obtain ⟨eo26, hs⟩ := kO_at hs
    obtain ⟨x26, h26, e26, hs⟩ := cI_at hs
    refine ev_callV C (T_X14_marks _ _ _ _ _ e26) (ci := 14) rfl eo26 wc_X14_marks wm_X14_426 wi_X14_marks ws_X14_marks wz_X14 hy_X14_marks ⟨(Nat.le_of_ble_eq_true rfl), (Nat.le_of_ble_eq_true rfl)⟩ ⟨(Nat.le_refl _), (Nat.le_refl _)⟩ (Nat.le_of_ble_eq_true rfl) rfl dX14_good_26 ?_
    cases hs
    exact ev_iret C rfl rfl (Nat.le_refl _) (Nat.le_refl _) rfl dX14_good_29
  · replace hs := (if_pos q14).symm.trans hs
    refine ev_iconst C (v := (-1)) dX14_good_17 (by decide) ?_
    refine ev_goto C (tgt := 29) (by decide) dX14_good_18 ?_
    cases hs
    exact ev_iret C rfl rfl (Nat.le_refl _) (Nat.le_refl _) rfl dX14_good_29
end
-- X14_goal
theorem dX14_goal_0 : decode cX14_goal 0 = .ok (.aload_n 0, 1) := by decide +kernel
theorem dX14_goal_1 : decode cX14_goal 1 = .ok (.iconst 0, 1) := by decide +kernel
theorem dX14_goal_2 : decode cX14_goal 2 = .ok (.putfield 154, 3) := by decide +kernel
theorem dX14_goal_5 : decode cX14_goal 5 = .ok (.aload_n 0, 1) := by decide +kernel
theorem dX14_goal_6 : decode cX14_goal 6 = .ok (.iload_n 1, 1) := by decide +kernel
theorem dX14_goal_7 : decode cX14_goal 7 = .ok (.iconst 1, 1) := by decide +kernel
theorem dX14_goal_8 : decode cX14_goal 8 = .ok (.invokevirtual 422, 3) := by decide +kernel
theorem dX14_goal_11 : decode cX14_goal 11 = .ok (.istore_n 2, 1) := by decide +kernel
theorem dX14_goal_12 : decode cX14_goal 12 = .ok (.iload_n 2, 1) := by decide +kernel
theorem dX14_goal_13 : decode cX14_goal 13 = .ok (.iconst (-1), 1) := by decide +kernel
theorem dX14_goal_14 : decode cX14_goal 14 = .ok (.if_icmp .ne 7, 3) := by decide +kernel
theorem dX14_goal_17 : decode cX14_goal 17 = .ok (.iconst (-1), 1) := by decide +kernel
theorem dX14_goal_18 : decode cX14_goal 18 = .ok (.goto 11, 3) := by decide +kernel
theorem dX14_goal_21 : decode cX14_goal 21 = .ok (.aload_n 0, 1) := by decide +kernel
theorem dX14_goal_22 : decode cX14_goal 22 = .ok (.aload_n 0, 1) := by decide +kernel
theorem dX14_goal_23 : decode cX14_goal 23 = .ok (.getfield 41, 3) := by decide +kernel
theorem dX14_goal_26 : decode cX14_goal 26 = .ok (.invokevirtual 426, 3) := by decide +kernel
theorem dX14_goal_29 : decode cX14_goal 29 = .ok (.ireturn, 1) := by decide +kernel
def s_X14_goal (o : Nat) (a1 : Int32) (h : aH) : aO :=
  (pF h (.ref o) 14 0 (.int 0)).bind fun h2 => kO h2 o 14 (cI (s_X14_reads o a1 1 h2) fun x8 h8 => if x8 = (-1) then (some (.inl (some (.int (-1))), h8)) else ((gO h8 (.ref o) 14 28).bind fun x23 => kO h8 o 14 (cI (s_X14_marks o x23 h8) fun x26 h26 => some (.inl (some (.int x26)), h26))))
section
variable {p : Program} {l : Launch} {e : Env} {s : State} {m : MethodId} {args : Array Value} {below : List Frame} {meth : Method} {c : Code} {D : va_G} {B0 : Nat} {X : Nat → Nat} {ws0 : va_W} {r : aR} {h' : aH} {mc ms : Nat}
theorem hy_X14_goal : yX14_goal.cls ≠ "java/lang/invoke/MethodHandle" ∧ yX14_goal.cls ≠ "java/lang/invoke/VarHandle" ∧ (parseMethodDescriptor yX14_goal.desc).map (fun d => d.parameters.length) = some 1 := by decide +kernel
theorem T_X14_goal (o : Nat) (a1 : Int32) (h : aH) (r : aR) (h' : aH) (hs : s_X14_goal o a1 h = some (r, h')) : Mt yX14_goal (Cond.code yX14_goal cX14_goal 3 (some .int) :: aTB) 15 325 0 0 [.ref o, .int a1] h r h' := by
  unfold s_X14_goal at hs
  refine Mt_of (k := 1) (by decide) rfl (fun p l e s m args below meth c D B0 X ws0 C => ?_)
  show Ev p l e { frames := 15, cells := 0, slots := 0, locals := 325 } s m args below meth c D B0 X ws0 r h' 0 0 3 0 0 0 [some (.ref o), some (.int a1), none] [] h
  refine ev_aload_n C (x := .ref o) rfl trivial dX14_goal_0 ?_
  refine ev_iconst C (v := 0) dX14_goal_1 (by decide) ?_
  obtain ⟨h2, e2, hs⟩ := aB hs
  refine ev_put C (ci := 14) (k := 0) rfl wu_14 (by decide) tyX14 tyX14_ok nmX14 wf_X14_154 rfl trivial e2 dX14_goal_2 ?_
  refine ev_aload_n C (x := .ref o) rfl trivial dX14_goal_5 ?_
  refine ev_iload_n C rfl dX14_goal_6 ?_
  refine ev_iconst C (v := 1) dX14_goal_7 (by decide) ?_
  obtain ⟨eo8, hs⟩ := kO_at hs
  obtain ⟨x8, h8, e8, hs⟩ := cI_at hs
  refine ev_callVW C (T_X14_reads _ _ _ _ _ _ e8) (ci := 14) rfl eo8 wc_X14_reads wm_X14_422 wi_X14_reads ws_X14_reads wz_X14 hy_X14_reads ⟨(Nat.le_of_ble_eq_true rfl), (Nat.le_of_ble_eq_true rfl)⟩ ⟨(Nat.le_refl _), (Nat.le_refl _)⟩ (Nat.le_of_ble_eq_true rfl) rfl dX14_goal_8 ?_
  refine ev_istore_n C (by decide) dX14_goal_11 ?_
  refine ev_iload_n C rfl dX14_goal_12 ?_
  refine ev_iconst C (v := (-1)) dX14_goal_13 (by decide) ?_
  refine ev_icmp_ne C (tgt := 21) (by decide) dX14_goal_14 (fun q14 => ?_) (fun q14 => ?_)
  · replace hs := (if_neg q14).symm.trans hs
    refine ev_aload_n C (x := .ref o) rfl trivial dX14_goal_21 ?_
    refine ev_aload_n C (x := .ref o) rfl trivial dX14_goal_22 ?_
    obtain ⟨x23, e23, hs⟩ := aB hs
    refine ev_get C (ci := 14) (k := 28) rfl wu_14 (by decide) wf_X14_41 (gO_F e23) dX14_goal_23 ?_
    obtain ⟨eo26, hs⟩ := kO_at hs
    obtain ⟨x26, h26, e26, hs⟩ := cI_at hs
    refine ev_callV C (T_X14_marks _ _ _ _ _ e26) (ci := 14) rfl eo26 wc_X14_marks wm_X14_426 wi_X14_marks ws_X14_marks wz_X14 hy_X14_marks ⟨(Nat.le_of_ble_eq_true rfl), (Nat.le_of_ble_eq_true rfl)⟩ ⟨(Nat.le_refl _), (Nat.le_refl _)⟩ (Nat.le_of_ble_eq_true rfl) rfl dX14_goal_26 ?_
    cases hs
    exact ev_iret C rfl rfl (Nat.le_refl _) (Nat.le_refl _) rfl dX14_goal_29
  · replace hs := (if_pos q14).symm.trans hs
    refine ev_iconst C (v := (-1)) dX14_goal_17 (by decide) ?_
    refine ev_goto C (tgt := 29) (by decide) dX14_goal_18 ?_
    cases hs
    exact ev_iret C rfl rfl (Nat.le_refl _) (Nat.le_refl _) rfl dX14_goal_29
end
-- X14_cost
theorem dX14_cost_0 : decode cX14_cost 0 = .ok (.aload_n 0, 1) := by decide +kernel
theorem dX14_cost_1 : decode cX14_cost 1 = .ok (.iconst 0, 1) := by decide +kernel
theorem dX14_cost_2 : decode cX14_cost 2 = .ok (.putfield 154, 3) := by decide +kernel
theorem dX14_cost_5 : decode cX14_cost 5 = .ok (.aload_n 0, 1) := by decide +kernel
theorem dX14_cost_6 : decode cX14_cost 6 = .ok (.iload_n 1, 1) := by decide +kernel
theorem dX14_cost_7 : decode cX14_cost 7 = .ok (.iconst 0, 1) := by decide +kernel
theorem dX14_cost_8 : decode cX14_cost 8 = .ok (.invokevirtual 422, 3) := by decide +kernel
theorem dX14_cost_11 : decode cX14_cost 11 = .ok (.istore_n 2, 1) := by decide +kernel
theorem dX14_cost_12 : decode cX14_cost 12 = .ok (.iload_n 2, 1) := by decide +kernel
theorem dX14_cost_13 : decode cX14_cost 13 = .ok (.iconst (-1), 1) := by decide +kernel
theorem dX14_cost_14 : decode cX14_cost 14 = .ok (.if_icmp .ne 5, 3) := by decide +kernel
theorem dX14_cost_17 : decode cX14_cost 17 = .ok (.iconst (-1), 1) := by decide +kernel
theorem dX14_cost_18 : decode cX14_cost 18 = .ok (.ireturn, 1) := by decide +kernel
theorem dX14_cost_19 : decode cX14_cost 19 = .ok (.iconst 0, 1) := by decide +kernel
theorem dX14_cost_20 : decode cX14_cost 20 = .ok (.istore_n 3, 1) := by decide +kernel
theorem dX14_cost_21 : decode cX14_cost 21 = .ok (.iload_n 3, 1) := by decide +kernel
theorem dX14_cost_22 : decode cX14_cost 22 = .ok (.aload_n 0, 1) := by decide +kernel
theorem dX14_cost_23 : decode cX14_cost 23 = .ok (.getfield 31, 3) := by decide +kernel
theorem dX14_cost_26 : decode cX14_cost 26 = .ok (.getfield 295, 3) := by decide +kernel
theorem dX14_cost_29 : decode cX14_cost 29 = .ok (.if_icmp .ge 45, 3) := by decide +kernel
theorem dX14_cost_32 : decode cX14_cost 32 = .ok (.aload_n 0, 1) := by decide +kernel
theorem dX14_cost_33 : decode cX14_cost 33 = .ok (.getfield 34, 3) := by decide +kernel
theorem dX14_cost_36 : decode cX14_cost 36 = .ok (.getfield 430, 3) := by decide +kernel
theorem dX14_cost_39 : decode cX14_cost 39 = .ok (.iload_n 3, 1) := by decide +kernel
theorem dX14_cost_40 : decode cX14_cost 40 = .ok (.aload_n 0, 1) := by decide +kernel
theorem dX14_cost_41 : decode cX14_cost 41 = .ok (.getfield 31, 3) := by decide +kernel
theorem dX14_cost_44 : decode cX14_cost 44 = .ok (.getfield 430, 3) := by decide +kernel
theorem dX14_cost_47 : decode cX14_cost 47 = .ok (.iload_n 3, 1) := by decide +kernel
theorem dX14_cost_48 : decode cX14_cost 48 = .ok (.iaload, 1) := by decide +kernel
theorem dX14_cost_49 : decode cX14_cost 49 = .ok (.iastore, 1) := by decide +kernel
theorem dX14_cost_50 : decode cX14_cost 50 = .ok (.aload_n 0, 1) := by decide +kernel
theorem dX14_cost_51 : decode cX14_cost 51 = .ok (.getfield 34, 3) := by decide +kernel
theorem dX14_cost_54 : decode cX14_cost 54 = .ok (.getfield 433, 3) := by decide +kernel
theorem dX14_cost_57 : decode cX14_cost 57 = .ok (.iload_n 3, 1) := by decide +kernel
theorem dX14_cost_58 : decode cX14_cost 58 = .ok (.aload_n 0, 1) := by decide +kernel
theorem dX14_cost_59 : decode cX14_cost 59 = .ok (.getfield 31, 3) := by decide +kernel
theorem dX14_cost_62 : decode cX14_cost 62 = .ok (.getfield 433, 3) := by decide +kernel
theorem dX14_cost_65 : decode cX14_cost 65 = .ok (.iload_n 3, 1) := by decide +kernel
theorem dX14_cost_66 : decode cX14_cost 66 = .ok (.iaload, 1) := by decide +kernel
theorem dX14_cost_67 : decode cX14_cost 67 = .ok (.iastore, 1) := by decide +kernel
theorem dX14_cost_68 : decode cX14_cost 68 = .ok (.iinc 3 1, 3) := by decide +kernel
theorem dX14_cost_71 : decode cX14_cost 71 = .ok (.goto (-50), 3) := by decide +kernel
theorem dX14_cost_74 : decode cX14_cost 74 = .ok (.aload_n 0, 1) := by decide +kernel
theorem dX14_cost_75 : decode cX14_cost 75 = .ok (.aload_n 0, 1) := by decide +kernel
theorem dX14_cost_76 : decode cX14_cost 76 = .ok (.getfield 31, 3) := by decide +kernel
theorem dX14_cost_79 : decode cX14_cost 79 = .ok (.getfield 295, 3) := by decide +kernel
theorem dX14_cost_82 : decode cX14_cost 82 = .ok (.putfield 391, 3) := by decide +kernel
theorem dX14_cost_85 : decode cX14_cost 85 = .ok (.iconst 0, 1) := by decide +kernel
theorem dX14_cost_86 : decode cX14_cost 86 = .ok (.ireturn, 1) := by decide +kernel
def s_X14_cost_21_b  (k21 : Nat → Int32 → aH → aO) (l0 : Nat) (l3 : Int32) (h : aH) : aO :=
  (gO h (.ref l0) 14 19).bind fun x23 => (gI h (.ref x23) 13 7).bind fun x26 => if x26 ≤ l3 then ((gO h (.ref l0) 14 19).bind fun x76 => (gI h (.ref x76) 13 7).bind fun x79 => (pF h (.ref l0) 14 24 (.int x79)).bind fun h82 => some (.inl (some (.int 0)), h82)) else ((gO h (.ref l0) 14 26).bind fun x33 => (gO h (.ref x33) 13 12).bind fun x36 => (gO h (.ref l0) 14 19).bind fun x41 => (gO h (.ref x41) 13 12).bind fun x44 => (ldI .int h (.ref x44) l3).bind fun x48 => (stI h (.ref x36) l3 x48).bind fun h49 => (gO h49 (.ref l0) 14 26).bind fun x51 => (gO h49 (.ref x51) 13 13).bind fun x54 => (gO h49 (.ref l0) 14 19).bind fun x59 => (gO h49 (.ref x59) 13 13).bind fun x62 => (ldI .int h49 (.ref x62) l3).bind fun x66 => (stI h49 (.ref x54) l3 x66).bind fun h67 => k21 l0 (l3 + 1) h67)
def s_X14_cost_21  (n : Nat) : Nat → Int32 → aH → aO := lpF (fun _ _ _ => none) (s_X14_cost_21_b ) n
def s_X14_cost (o : Nat) (a1 : Int32) (h : aH) : aO :=
  (pF h (.ref o) 14 0 (.int 0)).bind fun h2 => kO h2 o 14 (cI (s_X14_reads o a1 0 h2) fun x8 h8 => if x8 = (-1) then (some (.inl (some (.int (-1))), h8)) else (s_X14_cost_21 FU o 0 h8))
section
variable {p : Program} {l : Launch} {e : Env} {s : State} {m : MethodId} {args : Array Value} {below : List Frame} {meth : Method} {c : Code} {D : va_G} {B0 : Nat} {X : Nat → Nat} {ws0 : va_W} {r : aR} {h' : aH} {mc ms : Nat}
theorem t_X14_cost_21_b (C : Cx p l s m args meth c B0 X RX14 "cost" cX14_cost 4 (some .int) [])   {k21 : Nat → Int32 → aH → aO} (K21 : ∀ (l0 : Nat) (l3 : Int32) (h : aH), k21 l0 l3 h = some (r, h') → Ev p l e { frames := 15, cells := mc, slots := ms, locals := 325 } s m args below meth c D B0 X ws0 r h' mc ms 4 mc ms 21 [some (.ref l0), none, none, some (.int l3)] [] h) {l0 : Nat} {l3 : Int32} {h : aH} (hs : s_X14_cost_21_b  k21 l0 l3 h = some (r, h')) : Ev p l e { frames := 15, cells := mc, slots := ms, locals := 325 } s m args below meth c D B0 X ws0 r h' mc ms 4 mc ms 21 [some (.ref l0), none, none, some (.int l3)] [] h := by
  unfold s_X14_cost_21_b at hs
  refine ev_iload_n C rfl dX14_cost_21 ?_
  refine ev_aload_n C (x := .ref l0) rfl trivial dX14_cost_22 ?_
  obtain ⟨x23, e23, hs⟩ := aB hs
  refine ev_get C (ci := 14) (k := 19) rfl wu_14 (by decide) wf_X14_31 (gO_F e23) dX14_cost_23 ?_
  obtain ⟨x26, e26, hs⟩ := aB hs
  refine ev_getN C (ci := 13) (k := 7) rfl wu_13 (by decide) wg_X14_295 (gI_F e26) dX14_cost_26 ?_
  refine ev_icmp_ge C (tgt := 74) (by decide) dX14_cost_29 (fun q29 => ?_) (fun q29 => ?_)
  · replace hs := (if_pos q29).symm.trans hs
    refine ev_aload_n C (x := .ref l0) rfl trivial dX14_cost_74 ?_
    refine ev_aload_n C (x := .ref l0) rfl trivial dX14_cost_75 ?_
    obtain ⟨x76, e76, hs⟩ := aB hs
    refine ev_get C (ci := 14) (k := 19) rfl wu_14 (by decide) wf_X14_31 (gO_F e76) dX14_cost_76 ?_
    obtain ⟨x79, e79, hs⟩ := aB hs
    refine ev_getN C (ci := 13) (k := 7) rfl wu_13 (by decide) wg_X14_295 (gI_F e79) dX14_cost_79 ?_
    obtain ⟨h82, e82, hs⟩ := aB hs
    refine ev_put C (ci := 14) (k := 24) rfl wu_14 (by decide) tyX14 tyX14_ok nmX14 wf_X14_391 rfl trivial e82 dX14_cost_82 ?_
    refine ev_iconst C (v := 0) dX14_cost_85 (by decide) ?_
    cases hs
    exact ev_iret C rfl rfl (Nat.le_refl _) (Nat.le_refl _) rfl dX14_cost_86
  · replace hs := (if_neg q29).symm.trans hs
    refine ev_aload_n C (x := .ref l0) rfl trivial dX14_cost_32 ?_
    obtain ⟨x33, e33, hs⟩ := aB hs
    refine ev_get C (ci := 14) (k := 26) rfl wu_14 (by decide) wf_X14_34 (gO_F e33) dX14_cost_33 ?_
    obtain ⟨x36, e36, hs⟩ := aB hs
    refine ev_getN C (ci := 13) (k := 12) rfl wu_13 (by decide) wg_X14_430 (gO_F e36) dX14_cost_36 ?_
    refine ev_iload_n C rfl dX14_cost_39 ?_
    refine ev_aload_n C (x := .ref l0) rfl trivial dX14_cost_40 ?_
    obtain ⟨x41, e41, hs⟩ := aB hs
    refine ev_get C (ci := 14) (k := 19) rfl wu_14 (by decide) wf_X14_31 (gO_F e41) dX14_cost_41 ?_
    obtain ⟨x44, e44, hs⟩ := aB hs
    refine ev_getN C (ci := 13) (k := 12) rfl wu_13 (by decide) wg_X14_430 (gO_F e44) dX14_cost_44 ?_
    refine ev_iload_n C rfl dX14_cost_47 ?_
    obtain ⟨x48, e48, hs⟩ := aB hs
    refine ev_iald C e48 dX14_cost_48 ?_
    obtain ⟨h49, e49, hs⟩ := aB hs
    refine ev_iast C e49 dX14_cost_49 ?_
    refine ev_aload_n C (x := .ref l0) rfl trivial dX14_cost_50 ?_
    obtain ⟨x51, e51, hs⟩ := aB hs
    refine ev_get C (ci := 14) (k := 26) rfl wu_14 (by decide) wf_X14_34 (gO_F e51) dX14_cost_51 ?_
    obtain ⟨x54, e54, hs⟩ := aB hs
    refine ev_getN C (ci := 13) (k := 13) rfl wu_13 (by decide) wg_X14_433 (gO_F e54) dX14_cost_54 ?_
    refine ev_iload_n C rfl dX14_cost_57 ?_
    refine ev_aload_n C (x := .ref l0) rfl trivial dX14_cost_58 ?_
    obtain ⟨x59, e59, hs⟩ := aB hs
    refine ev_get C (ci := 14) (k := 19) rfl wu_14 (by decide) wf_X14_31 (gO_F e59) dX14_cost_59 ?_
    obtain ⟨x62, e62, hs⟩ := aB hs
    refine ev_getN C (ci := 13) (k := 13) rfl wu_13 (by decide) wg_X14_433 (gO_F e62) dX14_cost_62 ?_
    refine ev_iload_n C rfl dX14_cost_65 ?_
    obtain ⟨x66, e66, hs⟩ := aB hs
    refine ev_iald C e66 dX14_cost_66 ?_
    obtain ⟨h67, e67, hs⟩ := aB hs
    refine ev_iast C e67 dX14_cost_67 ?_
    refine ev_iinc C (i := 3) (n := 1) (x := l3) (v := l3 + 1) rfl (congrArg (fun z => l3 + z) (show Int32.ofInt 1 = 1 by decide)) (by decide) dX14_cost_68 ?_
    refine ev_goto C (tgt := 21) (by decide) dX14_cost_71 ?_
    exact (K21 _ _ _ hs)
theorem t_X14_cost_21 (C : Cx p l s m args meth c B0 X RX14 "cost" cX14_cost 4 (some .int) [])   : ∀ (n : Nat) {l0 : Nat} {l3 : Int32} {h : aH} (hs : s_X14_cost_21  n l0 l3 h = some (r, h')), Ev p l e { frames := 15, cells := mc, slots := ms, locals := 325 } s m args below meth c D B0 X ws0 r h' mc ms 4 mc ms 21 [some (.ref l0), none, none, some (.int l3)] [] h
  | 0, _, _, _, hs => nomatch hs
  | n + 1, _, _, _, hs => t_X14_cost_21_b C  (k21 := s_X14_cost_21  n) (fun _ _ _ hs => t_X14_cost_21 C  n hs) hs
theorem hy_X14_cost : yX14_cost.cls ≠ "java/lang/invoke/MethodHandle" ∧ yX14_cost.cls ≠ "java/lang/invoke/VarHandle" ∧ (parseMethodDescriptor yX14_cost.desc).map (fun d => d.parameters.length) = some 1 := by decide +kernel
theorem T_X14_cost (o : Nat) (a1 : Int32) (h : aH) (r : aR) (h' : aH) (hs : s_X14_cost o a1 h = some (r, h')) : Mt yX14_cost (Cond.code yX14_cost cX14_cost 4 (some .int) :: aTB) 15 325 0 0 [.ref o, .int a1] h r h' := by
  unfold s_X14_cost at hs
  refine Mt_of (k := 2) (by decide) rfl (fun p l e s m args below meth c D B0 X ws0 C => ?_)
  show Ev p l e { frames := 15, cells := 0, slots := 0, locals := 325 } s m args below meth c D B0 X ws0 r h' 0 0 4 0 0 0 [some (.ref o), some (.int a1), none, none] [] h
  refine ev_aload_n C (x := .ref o) rfl trivial dX14_cost_0 ?_
  refine ev_iconst C (v := 0) dX14_cost_1 (by decide) ?_
  obtain ⟨h2, e2, hs⟩ := aB hs
  refine ev_put C (ci := 14) (k := 0) rfl wu_14 (by decide) tyX14 tyX14_ok nmX14 wf_X14_154 rfl trivial e2 dX14_cost_2 ?_
  refine ev_aload_n C (x := .ref o) rfl trivial dX14_cost_5 ?_
  refine ev_iload_n C rfl dX14_cost_6 ?_
  refine ev_iconst C (v := 0) dX14_cost_7 (by decide) ?_
  obtain ⟨eo8, hs⟩ := kO_at hs
  obtain ⟨x8, h8, e8, hs⟩ := cI_at hs
  refine ev_callVW C (T_X14_reads _ _ _ _ _ _ e8) (ci := 14) rfl eo8 wc_X14_reads wm_X14_422 wi_X14_reads ws_X14_reads wz_X14 hy_X14_reads ⟨(Nat.le_of_ble_eq_true rfl), (Nat.le_of_ble_eq_true rfl)⟩ ⟨(Nat.le_refl _), (Nat.le_refl _)⟩ (Nat.le_of_ble_eq_true rfl) rfl dX14_cost_8 ?_
  refine ev_istore_n C (by decide) dX14_cost_11 ?_
  refine ev_iload_n C rfl dX14_cost_12 ?_
  refine ev_iconst C (v := (-1)) dX14_cost_13 (by decide) ?_
  refine ev_icmp_ne C (tgt := 19) (by decide) dX14_cost_14 (fun q14 => ?_) (fun q14 => ?_)
  · replace hs := (if_neg q14).symm.trans hs
    refine ev_iconst C (v := 0) dX14_cost_19 (by decide) ?_
    refine ev_istore_n C (by decide) dX14_cost_20 ?_
    exact Ev.keep [true, false, false, true] (t_X14_cost_21 C  FU hs)
  · replace hs := (if_pos q14).symm.trans hs
    refine ev_iconst C (v := (-1)) dX14_cost_17 (by decide) ?_
    cases hs
    exact ev_iret C rfl rfl (Nat.le_refl _) (Nat.le_refl _) rfl dX14_cost_18
end
-- X14_fault
theorem dX14_fault_0 : decode cX14_fault 0 = .ok (.aload_n 0, 1) := by decide +kernel
theorem dX14_fault_1 : decode cX14_fault 1 = .ok (.iconst 0, 1) := by decide +kernel
theorem dX14_fault_2 : decode cX14_fault 2 = .ok (.putfield 154, 3) := by decide +kernel
theorem dX14_fault_5 : decode cX14_fault 5 = .ok (.aload_n 0, 1) := by decide +kernel
theorem dX14_fault_6 : decode cX14_fault 6 = .ok (.getfield 357, 3) := by decide +kernel
theorem dX14_fault_9 : decode cX14_fault 9 = .ok (.ireturn, 1) := by decide +kernel
def s_X14_fault (o : Nat) (h : aH) : aO :=
  (pF h (.ref o) 14 0 (.int 0)).bind fun h2 => (gI h2 (.ref o) 14 3).bind fun x6 => some (.inl (some (.int x6)), h2)
section
variable {p : Program} {l : Launch} {e : Env} {s : State} {m : MethodId} {args : Array Value} {below : List Frame} {meth : Method} {c : Code} {D : va_G} {B0 : Nat} {X : Nat → Nat} {ws0 : va_W} {r : aR} {h' : aH} {mc ms : Nat}
theorem hy_X14_fault : yX14_fault.cls ≠ "java/lang/invoke/MethodHandle" ∧ yX14_fault.cls ≠ "java/lang/invoke/VarHandle" ∧ (parseMethodDescriptor yX14_fault.desc).map (fun d => d.parameters.length) = some 0 := by decide +kernel
theorem T_X14_fault (o : Nat) (h : aH) (r : aR) (h' : aH) (hs : s_X14_fault o h = some (r, h')) : Mt yX14_fault (Cond.code yX14_fault cX14_fault 1 (some .int) :: aTB) 0 0 0 0 [.ref o] h r h' := by
  unfold s_X14_fault at hs
  refine Mt_of (k := 0) (by decide) rfl (fun p l e s m args below meth c D B0 X ws0 C => ?_)
  show Ev p l e { frames := 0, cells := 0, slots := 0, locals := 0 } s m args below meth c D B0 X ws0 r h' 0 0 1 0 0 0 [some (.ref o)] [] h
  refine ev_aload_n C (x := .ref o) rfl trivial dX14_fault_0 ?_
  refine ev_iconst C (v := 0) dX14_fault_1 (by decide) ?_
  obtain ⟨h2, e2, hs⟩ := aB hs
  refine ev_put C (ci := 14) (k := 0) rfl wu_14 (by decide) tyX14 tyX14_ok nmX14 wf_X14_154 rfl trivial e2 dX14_fault_2 ?_
  refine ev_aload_n C (x := .ref o) rfl trivial dX14_fault_5 ?_
  obtain ⟨x6, e6, hs⟩ := aB hs
  refine ev_get C (ci := 14) (k := 3) rfl wu_14 (by decide) wf_X14_357 (gI_F e6) dX14_fault_6 ?_
  cases hs
  exact ev_iret C rfl rfl (Nat.le_refl _) (Nat.le_refl _) rfl dX14_fault_9
end
-- X14_where
theorem dX14_where_0 : decode cX14_where 0 = .ok (.aload_n 0, 1) := by decide +kernel
theorem dX14_where_1 : decode cX14_where 1 = .ok (.iconst 0, 1) := by decide +kernel
theorem dX14_where_2 : decode cX14_where 2 = .ok (.putfield 154, 3) := by decide +kernel
theorem dX14_where_5 : decode cX14_where 5 = .ok (.aload_n 0, 1) := by decide +kernel
theorem dX14_where_6 : decode cX14_where 6 = .ok (.getfield 9, 3) := by decide +kernel
theorem dX14_where_9 : decode cX14_where 9 = .ok (.ireturn, 1) := by decide +kernel
def s_X14_where (o : Nat) (h : aH) : aO :=
  (pF h (.ref o) 14 0 (.int 0)).bind fun h2 => (gI h2 (.ref o) 14 2).bind fun x6 => some (.inl (some (.int x6)), h2)
section
variable {p : Program} {l : Launch} {e : Env} {s : State} {m : MethodId} {args : Array Value} {below : List Frame} {meth : Method} {c : Code} {D : va_G} {B0 : Nat} {X : Nat → Nat} {ws0 : va_W} {r : aR} {h' : aH} {mc ms : Nat}
theorem hy_X14_where : yX14_where.cls ≠ "java/lang/invoke/MethodHandle" ∧ yX14_where.cls ≠ "java/lang/invoke/VarHandle" ∧ (parseMethodDescriptor yX14_where.desc).map (fun d => d.parameters.length) = some 0 := by decide +kernel
theorem T_X14_where (o : Nat) (h : aH) (r : aR) (h' : aH) (hs : s_X14_where o h = some (r, h')) : Mt yX14_where (Cond.code yX14_where cX14_where 1 (some .int) :: aTB) 0 0 0 0 [.ref o] h r h' := by
  unfold s_X14_where at hs
  refine Mt_of (k := 0) (by decide) rfl (fun p l e s m args below meth c D B0 X ws0 C => ?_)
  show Ev p l e { frames := 0, cells := 0, slots := 0, locals := 0 } s m args below meth c D B0 X ws0 r h' 0 0 1 0 0 0 [some (.ref o)] [] h
  refine ev_aload_n C (x := .ref o) rfl trivial dX14_where_0 ?_
  refine ev_iconst C (v := 0) dX14_where_1 (by decide) ?_
  obtain ⟨h2, e2, hs⟩ := aB hs
  refine ev_put C (ci := 14) (k := 0) rfl wu_14 (by decide) tyX14 tyX14_ok nmX14 wf_X14_154 rfl trivial e2 dX14_where_2 ?_
  refine ev_aload_n C (x := .ref o) rfl trivial dX14_where_5 ?_
  obtain ⟨x6, e6, hs⟩ := aB hs
  refine ev_get C (ci := 14) (k := 2) rfl wu_14 (by decide) wf_X14_9 (gI_F e6) dX14_where_6 ?_
  cases hs
  exact ev_iret C rfl rfl (Nat.le_refl _) (Nat.le_refl _) rfl dX14_where_9
end
-- X14_isCell
theorem dX14_isCell_0 : decode cX14_isCell 0 = .ok (.aload_n 0, 1) := by decide +kernel
theorem dX14_isCell_1 : decode cX14_isCell 1 = .ok (.getfield 376, 3) := by decide +kernel
theorem dX14_isCell_4 : decode cX14_isCell 4 = .ok (.ifnull 21, 3) := by decide +kernel
theorem dX14_isCell_7 : decode cX14_isCell 7 = .ok (.iload_n 1, 1) := by decide +kernel
theorem dX14_isCell_8 : decode cX14_isCell 8 = .ok (.iconst 0, 1) := by decide +kernel
theorem dX14_isCell_9 : decode cX14_isCell 9 = .ok (.aload_n 0, 1) := by decide +kernel
theorem dX14_isCell_10 : decode cX14_isCell 10 = .ok (.getfield 379, 3) := by decide +kernel
theorem dX14_isCell_13 : decode cX14_isCell 13 = .ok (.iconst 1, 1) := by decide +kernel
theorem dX14_isCell_14 : decode cX14_isCell 14 = .ok (.isub, 1) := by decide +kernel
theorem dX14_isCell_15 : decode cX14_isCell 15 = .ok (.invokestatic 313, 3) := by decide +kernel
theorem dX14_isCell_18 : decode cX14_isCell 18 = .ok (.ifCond .eq 7, 3) := by decide +kernel
theorem dX14_isCell_21 : decode cX14_isCell 21 = .ok (.iconst 1, 1) := by decide +kernel
theorem dX14_isCell_22 : decode cX14_isCell 22 = .ok (.goto 4, 3) := by decide +kernel
theorem dX14_isCell_25 : decode cX14_isCell 25 = .ok (.iconst 0, 1) := by decide +kernel
theorem dX14_isCell_26 : decode cX14_isCell 26 = .ok (.ireturn, 1) := by decide +kernel
def s_X14_isCell (o : Nat) (a1 : Int32) (h : aH) : aO :=
  (gW h (.ref o) 14 4).bind fun x1 => match x1 with | .null => (rtZ 0 h) | .ref n4 => ((gI h (.ref o) 14 20).bind fun x10 => cI (s_X14_in a1 0 (x10 - 1) h) fun x15 h15 => if x15 = 0 then (rtZ 0 h15) else (rtZ 1 h15)) | _ => none
section
variable {p : Program} {l : Launch} {e : Env} {s : State} {m : MethodId} {args : Array Value} {below : List Frame} {meth : Method} {c : Code} {D : va_G} {B0 : Nat} {X : Nat → Nat} {ws0 : va_W} {r : aR} {h' : aH} {mc ms : Nat}
theorem hy_X14_isCell : yX14_isCell.cls ≠ "java/lang/invoke/MethodHandle" ∧ yX14_isCell.cls ≠ "java/lang/invoke/VarHandle" ∧ (parseMethodDescriptor yX14_isCell.desc).map (fun d => d.parameters.length) = some 1 := by decide +kernel
theorem T_X14_isCell (o : Nat) (a1 : Int32) (h : aH) (r : aR) (h' : aH) (hs : s_X14_isCell o a1 h = some (r, h')) : Mt yX14_isCell (Cond.code yX14_isCell cX14_isCell 2 (some .boolean) :: aTB) 1 22 0 0 [.ref o, .int a1] h r h' := by
  unfold s_X14_isCell at hs
  refine Mt_of (k := 0) (by decide) rfl (fun p l e s m args below meth c D B0 X ws0 C => ?_)
  show Ev p l e { frames := 1, cells := 0, slots := 0, locals := 22 } s m args below meth c D B0 X ws0 r h' 0 0 2 0 0 0 [some (.ref o), some (.int a1)] [] h
  refine ev_aload_n C (x := .ref o) rfl trivial dX14_isCell_0 ?_
  obtain ⟨x1, e1, hs⟩ := aB hs
  refine ev_get C (ci := 14) (k := 4) rfl wu_14 (by decide) wf_X14_376 (gW_F e1).1 dX14_isCell_1 ?_
  cases x1 with
  | null =>
    refine ev_ifnull_n C (tgt := 25) (by decide) dX14_isCell_4 ?_
    refine ev_iconst C (v := 0) dX14_isCell_25 (by decide) ?_
    obtain ⟨hz, rfl, rfl⟩ := rtZ_at hs
    exact ev_zret C rfl hz rfl (Nat.le_refl _) (Nat.le_refl _) rfl dX14_isCell_26
  | ref n4 =>
    refine ev_ifnull_r C dX14_isCell_4 ?_
    refine ev_iload_n C rfl dX14_isCell_7 ?_
    refine ev_iconst C (v := 0) dX14_isCell_8 (by decide) ?_
    refine ev_aload_n C (x := .ref o) rfl trivial dX14_isCell_9 ?_
    obtain ⟨x10, e10, hs⟩ := aB hs
    refine ev_get C (ci := 14) (k := 20) rfl wu_14 (by decide) wf_X14_379 (gI_F e10) dX14_isCell_10 ?_
    refine ev_iconst C (v := 1) dX14_isCell_13 (by decide) ?_
    refine ev_isub C dX14_isCell_14 ?_
    obtain ⟨x15, h15, e15, hs⟩ := cI_at hs
    refine ev_callS C (T_X14_in _ _ _ _ _ _ e15) wc_X14_in wm_X14_313 wt_X14_in wz_X14 hy_X14_in ⟨(Nat.le_of_ble_eq_true rfl), (Nat.le_of_ble_eq_true rfl)⟩ ⟨(Nat.le_refl _), (Nat.le_refl _)⟩ (Nat.le_of_ble_eq_true rfl) rfl dX14_isCell_15 ?_
    refine ev_if_eq C (tgt := 25) (by decide) dX14_isCell_18 (fun q18 => ?_) (fun q18 => ?_)
    · replace hs := (if_pos q18).symm.trans hs
      refine ev_iconst C (v := 0) dX14_isCell_25 (by decide) ?_
      obtain ⟨hz, rfl, rfl⟩ := rtZ_at hs
      exact ev_zret C rfl hz rfl (Nat.le_refl _) (Nat.le_refl _) rfl dX14_isCell_26
    · replace hs := (if_neg q18).symm.trans hs
      refine ev_iconst C (v := 1) dX14_isCell_21 (by decide) ?_
      refine ev_goto C (tgt := 26) (by decide) dX14_isCell_22 ?_
      obtain ⟨hz, rfl, rfl⟩ := rtZ_at hs
      exact ev_zret C rfl hz rfl (Nat.le_refl _) (Nat.le_refl _) rfl dX14_isCell_26
  | _ => cases hs
end
-- X14_isPush
theorem dX14_isPush_0 : decode cX14_isPush 0 = .ok (.aload_n 0, 1) := by decide +kernel
theorem dX14_isPush_1 : decode cX14_isPush 1 = .ok (.getfield 376, 3) := by decide +kernel
theorem dX14_isPush_4 : decode cX14_isPush 4 = .ok (.ifnull 21, 3) := by decide +kernel
theorem dX14_isPush_7 : decode cX14_isPush 7 = .ok (.iload_n 1, 1) := by decide +kernel
theorem dX14_isPush_8 : decode cX14_isPush 8 = .ok (.iconst 0, 1) := by decide +kernel
theorem dX14_isPush_9 : decode cX14_isPush 9 = .ok (.aload_n 0, 1) := by decide +kernel
theorem dX14_isPush_10 : decode cX14_isPush 10 = .ok (.getfield 382, 3) := by decide +kernel
theorem dX14_isPush_13 : decode cX14_isPush 13 = .ok (.iconst 1, 1) := by decide +kernel
theorem dX14_isPush_14 : decode cX14_isPush 14 = .ok (.isub, 1) := by decide +kernel
theorem dX14_isPush_15 : decode cX14_isPush 15 = .ok (.invokestatic 313, 3) := by decide +kernel
theorem dX14_isPush_18 : decode cX14_isPush 18 = .ok (.ifCond .eq 7, 3) := by decide +kernel
theorem dX14_isPush_21 : decode cX14_isPush 21 = .ok (.iconst 1, 1) := by decide +kernel
theorem dX14_isPush_22 : decode cX14_isPush 22 = .ok (.goto 4, 3) := by decide +kernel
theorem dX14_isPush_25 : decode cX14_isPush 25 = .ok (.iconst 0, 1) := by decide +kernel
theorem dX14_isPush_26 : decode cX14_isPush 26 = .ok (.ireturn, 1) := by decide +kernel
def s_X14_isPush (o : Nat) (a1 : Int32) (h : aH) : aO :=
  (gW h (.ref o) 14 4).bind fun x1 => match x1 with | .null => (rtZ 0 h) | .ref n4 => ((gI h (.ref o) 14 21).bind fun x10 => cI (s_X14_in a1 0 (x10 - 1) h) fun x15 h15 => if x15 = 0 then (rtZ 0 h15) else (rtZ 1 h15)) | _ => none
section
variable {p : Program} {l : Launch} {e : Env} {s : State} {m : MethodId} {args : Array Value} {below : List Frame} {meth : Method} {c : Code} {D : va_G} {B0 : Nat} {X : Nat → Nat} {ws0 : va_W} {r : aR} {h' : aH} {mc ms : Nat}
theorem hy_X14_isPush : yX14_isPush.cls ≠ "java/lang/invoke/MethodHandle" ∧ yX14_isPush.cls ≠ "java/lang/invoke/VarHandle" ∧ (parseMethodDescriptor yX14_isPush.desc).map (fun d => d.parameters.length) = some 1 := by decide +kernel
theorem T_X14_isPush (o : Nat) (a1 : Int32) (h : aH) (r : aR) (h' : aH) (hs : s_X14_isPush o a1 h = some (r, h')) : Mt yX14_isPush (Cond.code yX14_isPush cX14_isPush 2 (some .boolean) :: aTB) 1 22 0 0 [.ref o, .int a1] h r h' := by
  unfold s_X14_isPush at hs
  refine Mt_of (k := 0) (by decide) rfl (fun p l e s m args below meth c D B0 X ws0 C => ?_)
  show Ev p l e { frames := 1, cells := 0, slots := 0, locals := 22 } s m args below meth c D B0 X ws0 r h' 0 0 2 0 0 0 [some (.ref o), some (.int a1)] [] h
  refine ev_aload_n C (x := .ref o) rfl trivial dX14_isPush_0 ?_
  obtain ⟨x1, e1, hs⟩ := aB hs
  refine ev_get C (ci := 14) (k := 4) rfl wu_14 (by decide) wf_X14_376 (gW_F e1).1 dX14_isPush_1 ?_
  cases x1 with
  | null =>
    refine ev_ifnull_n C (tgt := 25) (by decide) dX14_isPush_4 ?_
    refine ev_iconst C (v := 0) dX14_isPush_25 (by decide) ?_
    obtain ⟨hz, rfl, rfl⟩ := rtZ_at hs
    exact ev_zret C rfl hz rfl (Nat.le_refl _) (Nat.le_refl _) rfl dX14_isPush_26
  | ref n4 =>
    refine ev_ifnull_r C dX14_isPush_4 ?_
    refine ev_iload_n C rfl dX14_isPush_7 ?_
    refine ev_iconst C (v := 0) dX14_isPush_8 (by decide) ?_
    refine ev_aload_n C (x := .ref o) rfl trivial dX14_isPush_9 ?_
    obtain ⟨x10, e10, hs⟩ := aB hs
    refine ev_get C (ci := 14) (k := 21) rfl wu_14 (by decide) wf_X14_382 (gI_F e10) dX14_isPush_10 ?_
    refine ev_iconst C (v := 1) dX14_isPush_13 (by decide) ?_
    refine ev_isub C dX14_isPush_14 ?_
    obtain ⟨x15, h15, e15, hs⟩ := cI_at hs
    refine ev_callS C (T_X14_in _ _ _ _ _ _ e15) wc_X14_in wm_X14_313 wt_X14_in wz_X14 hy_X14_in ⟨(Nat.le_of_ble_eq_true rfl), (Nat.le_of_ble_eq_true rfl)⟩ ⟨(Nat.le_refl _), (Nat.le_refl _)⟩ (Nat.le_of_ble_eq_true rfl) rfl dX14_isPush_15 ?_
    refine ev_if_eq C (tgt := 25) (by decide) dX14_isPush_18 (fun q18 => ?_) (fun q18 => ?_)
    · replace hs := (if_pos q18).symm.trans hs
      refine ev_iconst C (v := 0) dX14_isPush_25 (by decide) ?_
      obtain ⟨hz, rfl, rfl⟩ := rtZ_at hs
      exact ev_zret C rfl hz rfl (Nat.le_refl _) (Nat.le_refl _) rfl dX14_isPush_26
    · replace hs := (if_neg q18).symm.trans hs
      refine ev_iconst C (v := 1) dX14_isPush_21 (by decide) ?_
      refine ev_goto C (tgt := 26) (by decide) dX14_isPush_22 ?_
      obtain ⟨hz, rfl, rfl⟩ := rtZ_at hs
      exact ev_zret C rfl hz rfl (Nat.le_refl _) (Nat.le_refl _) rfl dX14_isPush_26
  | _ => cases hs
end
-- X14_isWorld
theorem dX14_isWorld_0 : decode cX14_isWorld 0 = .ok (.aload_n 0, 1) := by decide +kernel
theorem dX14_isWorld_1 : decode cX14_isWorld 1 = .ok (.getfield 376, 3) := by decide +kernel
theorem dX14_isWorld_4 : decode cX14_isWorld 4 = .ok (.ifnull 21, 3) := by decide +kernel
theorem dX14_isWorld_7 : decode cX14_isWorld 7 = .ok (.iload_n 1, 1) := by decide +kernel
theorem dX14_isWorld_8 : decode cX14_isWorld 8 = .ok (.iconst 0, 1) := by decide +kernel
theorem dX14_isWorld_9 : decode cX14_isWorld 9 = .ok (.aload_n 0, 1) := by decide +kernel
theorem dX14_isWorld_10 : decode cX14_isWorld 10 = .ok (.getfield 388, 3) := by decide +kernel
theorem dX14_isWorld_13 : decode cX14_isWorld 13 = .ok (.iconst 1, 1) := by decide +kernel
theorem dX14_isWorld_14 : decode cX14_isWorld 14 = .ok (.isub, 1) := by decide +kernel
theorem dX14_isWorld_15 : decode cX14_isWorld 15 = .ok (.invokestatic 313, 3) := by decide +kernel
theorem dX14_isWorld_18 : decode cX14_isWorld 18 = .ok (.ifCond .eq 7, 3) := by decide +kernel
theorem dX14_isWorld_21 : decode cX14_isWorld 21 = .ok (.iconst 1, 1) := by decide +kernel
theorem dX14_isWorld_22 : decode cX14_isWorld 22 = .ok (.goto 4, 3) := by decide +kernel
theorem dX14_isWorld_25 : decode cX14_isWorld 25 = .ok (.iconst 0, 1) := by decide +kernel
theorem dX14_isWorld_26 : decode cX14_isWorld 26 = .ok (.ireturn, 1) := by decide +kernel
def s_X14_isWorld (o : Nat) (a1 : Int32) (h : aH) : aO :=
  (gW h (.ref o) 14 4).bind fun x1 => match x1 with | .null => (rtZ 0 h) | .ref n4 => ((gI h (.ref o) 14 22).bind fun x10 => cI (s_X14_in a1 0 (x10 - 1) h) fun x15 h15 => if x15 = 0 then (rtZ 0 h15) else (rtZ 1 h15)) | _ => none
section
variable {p : Program} {l : Launch} {e : Env} {s : State} {m : MethodId} {args : Array Value} {below : List Frame} {meth : Method} {c : Code} {D : va_G} {B0 : Nat} {X : Nat → Nat} {ws0 : va_W} {r : aR} {h' : aH} {mc ms : Nat}
theorem hy_X14_isWorld : yX14_isWorld.cls ≠ "java/lang/invoke/MethodHandle" ∧ yX14_isWorld.cls ≠ "java/lang/invoke/VarHandle" ∧ (parseMethodDescriptor yX14_isWorld.desc).map (fun d => d.parameters.length) = some 1 := by decide +kernel
theorem T_X14_isWorld (o : Nat) (a1 : Int32) (h : aH) (r : aR) (h' : aH) (hs : s_X14_isWorld o a1 h = some (r, h')) : Mt yX14_isWorld (Cond.code yX14_isWorld cX14_isWorld 2 (some .boolean) :: aTB) 1 22 0 0 [.ref o, .int a1] h r h' := by
  unfold s_X14_isWorld at hs
  refine Mt_of (k := 0) (by decide) rfl (fun p l e s m args below meth c D B0 X ws0 C => ?_)
  show Ev p l e { frames := 1, cells := 0, slots := 0, locals := 22 } s m args below meth c D B0 X ws0 r h' 0 0 2 0 0 0 [some (.ref o), some (.int a1)] [] h
  refine ev_aload_n C (x := .ref o) rfl trivial dX14_isWorld_0 ?_
  obtain ⟨x1, e1, hs⟩ := aB hs
  refine ev_get C (ci := 14) (k := 4) rfl wu_14 (by decide) wf_X14_376 (gW_F e1).1 dX14_isWorld_1 ?_
  cases x1 with
  | null =>
    refine ev_ifnull_n C (tgt := 25) (by decide) dX14_isWorld_4 ?_
    refine ev_iconst C (v := 0) dX14_isWorld_25 (by decide) ?_
    obtain ⟨hz, rfl, rfl⟩ := rtZ_at hs
    exact ev_zret C rfl hz rfl (Nat.le_refl _) (Nat.le_refl _) rfl dX14_isWorld_26
  | ref n4 =>
    refine ev_ifnull_r C dX14_isWorld_4 ?_
    refine ev_iload_n C rfl dX14_isWorld_7 ?_
    refine ev_iconst C (v := 0) dX14_isWorld_8 (by decide) ?_
    refine ev_aload_n C (x := .ref o) rfl trivial dX14_isWorld_9 ?_
    obtain ⟨x10, e10, hs⟩ := aB hs
    refine ev_get C (ci := 14) (k := 22) rfl wu_14 (by decide) wf_X14_388 (gI_F e10) dX14_isWorld_10 ?_
    refine ev_iconst C (v := 1) dX14_isWorld_13 (by decide) ?_
    refine ev_isub C dX14_isWorld_14 ?_
    obtain ⟨x15, h15, e15, hs⟩ := cI_at hs
    refine ev_callS C (T_X14_in _ _ _ _ _ _ e15) wc_X14_in wm_X14_313 wt_X14_in wz_X14 hy_X14_in ⟨(Nat.le_of_ble_eq_true rfl), (Nat.le_of_ble_eq_true rfl)⟩ ⟨(Nat.le_refl _), (Nat.le_refl _)⟩ (Nat.le_of_ble_eq_true rfl) rfl dX14_isWorld_15 ?_
    refine ev_if_eq C (tgt := 25) (by decide) dX14_isWorld_18 (fun q18 => ?_) (fun q18 => ?_)
    · replace hs := (if_pos q18).symm.trans hs
      refine ev_iconst C (v := 0) dX14_isWorld_25 (by decide) ?_
      obtain ⟨hz, rfl, rfl⟩ := rtZ_at hs
      exact ev_zret C rfl hz rfl (Nat.le_refl _) (Nat.le_refl _) rfl dX14_isWorld_26
    · replace hs := (if_neg q18).symm.trans hs
      refine ev_iconst C (v := 1) dX14_isWorld_21 (by decide) ?_
      refine ev_goto C (tgt := 26) (by decide) dX14_isWorld_22 ?_
      obtain ⟨hz, rfl, rfl⟩ := rtZ_at hs
      exact ev_zret C rfl hz rfl (Nat.le_refl _) (Nat.le_refl _) rfl dX14_isWorld_26
  | _ => cases hs
end
-- X14_to
theorem dX14_to_0 : decode cX14_to 0 = .ok (.aload_n 0, 1) := by decide +kernel
theorem dX14_to_1 : decode cX14_to 1 = .ok (.getfield 55, 3) := by decide +kernel
theorem dX14_to_4 : decode cX14_to 4 = .ok (.iload_n 1, 1) := by decide +kernel
theorem dX14_to_5 : decode cX14_to 5 = .ok (.bipush 9, 2) := by decide +kernel
theorem dX14_to_7 : decode cX14_to 7 = .ok (.imul, 1) := by decide +kernel
theorem dX14_to_8 : decode cX14_to 8 = .ok (.iload_n 2, 1) := by decide +kernel
theorem dX14_to_9 : decode cX14_to 9 = .ok (.iadd, 1) := by decide +kernel
theorem dX14_to_10 : decode cX14_to 10 = .ok (.bipush 27, 2) := by decide +kernel
theorem dX14_to_12 : decode cX14_to 12 = .ok (.imul, 1) := by decide +kernel
theorem dX14_to_13 : decode cX14_to 13 = .ok (.iload_n 3, 1) := by decide +kernel
theorem dX14_to_14 : decode cX14_to 14 = .ok (.iadd, 1) := by decide +kernel
theorem dX14_to_15 : decode cX14_to 15 = .ok (.saload, 1) := by decide +kernel
theorem dX14_to_16 : decode cX14_to 16 = .ok (.ireturn, 1) := by decide +kernel
def s_X14_to (o : Nat) (a1 : Int32) (a2 : Int32) (a3 : Int32) (h : aH) : aO :=
  (gO h (.ref o) 14 33).bind fun x1 => (ldI .short h (.ref x1) ((((a1 * 9) + a2) * 27) + a3)).bind fun x15 => some (.inl (some (.int x15)), h)
section
variable {p : Program} {l : Launch} {e : Env} {s : State} {m : MethodId} {args : Array Value} {below : List Frame} {meth : Method} {c : Code} {D : va_G} {B0 : Nat} {X : Nat → Nat} {ws0 : va_W} {r : aR} {h' : aH} {mc ms : Nat}
theorem hy_X14_to : yX14_to.cls ≠ "java/lang/invoke/MethodHandle" ∧ yX14_to.cls ≠ "java/lang/invoke/VarHandle" ∧ (parseMethodDescriptor yX14_to.desc).map (fun d => d.parameters.length) = some 3 := by decide +kernel
theorem T_X14_to (o : Nat) (a1 : Int32) (a2 : Int32) (a3 : Int32) (h : aH) (r : aR) (h' : aH) (hs : s_X14_to o a1 a2 a3 h = some (r, h')) : Mt yX14_to (Cond.code yX14_to cX14_to 4 (some .int) :: aTB) 0 0 0 0 [.ref o, .int a1, .int a2, .int a3] h r h' := by
  unfold s_X14_to at hs
  refine Mt_of (k := 0) (by decide) rfl (fun p l e s m args below meth c D B0 X ws0 C => ?_)
  show Ev p l e { frames := 0, cells := 0, slots := 0, locals := 0 } s m args below meth c D B0 X ws0 r h' 0 0 4 0 0 0 [some (.ref o), some (.int a1), some (.int a2), some (.int a3)] [] h
  refine ev_aload_n C (x := .ref o) rfl trivial dX14_to_0 ?_
  obtain ⟨x1, e1, hs⟩ := aB hs
  refine ev_get C (ci := 14) (k := 33) rfl wu_14 (by decide) wf_X14_55 (gO_F e1) dX14_to_1 ?_
  refine ev_iload_n C rfl dX14_to_4 ?_
  refine ev_bipush C (v := 9) dX14_to_5 (by decide) ?_
  refine ev_imul C dX14_to_7 ?_
  refine ev_iload_n C rfl dX14_to_8 ?_
  refine ev_iadd C dX14_to_9 ?_
  refine ev_bipush C (v := 27) dX14_to_10 (by decide) ?_
  refine ev_imul C dX14_to_12 ?_
  refine ev_iload_n C rfl dX14_to_13 ?_
  refine ev_iadd C dX14_to_14 ?_
  obtain ⟨x15, e15, hs⟩ := aB hs
  refine ev_sald C e15 dX14_to_15 ?_
  cases hs
  exact ev_iret C rfl rfl (Nat.le_refl _) (Nat.le_refl _) rfl dX14_to_16
end
-- X14_counts
theorem dX14_counts_0 : decode cX14_counts 0 = .ok (.aload_n 0, 1) := by decide +kernel
theorem dX14_counts_1 : decode cX14_counts 1 = .ok (.getfield 103, 3) := by decide +kernel
theorem dX14_counts_4 : decode cX14_counts 4 = .ok (.iload_n 1, 1) := by decide +kernel
theorem dX14_counts_5 : decode cX14_counts 5 = .ok (.iaload, 1) := by decide +kernel
theorem dX14_counts_6 : decode cX14_counts 6 = .ok (.istore_n 3, 1) := by decide +kernel
theorem dX14_counts_7 : decode cX14_counts 7 = .ok (.iload_n 3, 1) := by decide +kernel
theorem dX14_counts_8 : decode cX14_counts 8 = .ok (.iconst (-1), 1) := by decide +kernel
theorem dX14_counts_9 : decode cX14_counts 9 = .ok (.if_icmp .ne 4, 3) := by decide +kernel
theorem dX14_counts_12 : decode cX14_counts 12 = .ok (.return_, 1) := by decide +kernel
theorem dX14_counts_13 : decode cX14_counts 13 = .ok (.aload_n 0, 1) := by decide +kernel
theorem dX14_counts_14 : decode cX14_counts 14 = .ok (.aload_n 0, 1) := by decide +kernel
theorem dX14_counts_15 : decode cX14_counts 15 = .ok (.getfield 543, 3) := by decide +kernel
theorem dX14_counts_18 : decode cX14_counts 18 = .ok (.ifCond .eq 37, 3) := by decide +kernel
theorem dX14_counts_21 : decode cX14_counts 21 = .ok (.iload_n 3, 1) := by decide +kernel
theorem dX14_counts_22 : decode cX14_counts 22 = .ok (.ifCond .lt 33, 3) := by decide +kernel
theorem dX14_counts_25 : decode cX14_counts 25 = .ok (.aload_n 0, 1) := by decide +kernel
theorem dX14_counts_26 : decode cX14_counts 26 = .ok (.getfield 106, 3) := by decide +kernel
theorem dX14_counts_29 : decode cX14_counts 29 = .ok (.iload_n 1, 1) := by decide +kernel
theorem dX14_counts_30 : decode cX14_counts 30 = .ok (.laload, 1) := by decide +kernel
theorem dX14_counts_31 : decode cX14_counts 31 = .ok (.ldc2_w 546, 3) := by decide +kernel
theorem dX14_counts_34 : decode cX14_counts 34 = .ok (.lcmp, 1) := by decide +kernel
theorem dX14_counts_35 : decode cX14_counts 35 = .ok (.ifCond .lt 20, 3) := by decide +kernel
theorem dX14_counts_38 : decode cX14_counts 38 = .ok (.aload_n 0, 1) := by decide +kernel
theorem dX14_counts_39 : decode cX14_counts 39 = .ok (.getfield 106, 3) := by decide +kernel
theorem dX14_counts_42 : decode cX14_counts 42 = .ok (.iload_n 1, 1) := by decide +kernel
theorem dX14_counts_43 : decode cX14_counts 43 = .ok (.laload, 1) := by decide +kernel
theorem dX14_counts_44 : decode cX14_counts 44 = .ok (.ldc2_w 548, 3) := by decide +kernel
theorem dX14_counts_47 : decode cX14_counts 47 = .ok (.lcmp, 1) := by decide +kernel
theorem dX14_counts_48 : decode cX14_counts 48 = .ok (.ifCond .gt 7, 3) := by decide +kernel
theorem dX14_counts_51 : decode cX14_counts 51 = .ok (.iconst 1, 1) := by decide +kernel
theorem dX14_counts_52 : decode cX14_counts 52 = .ok (.goto 4, 3) := by decide +kernel
theorem dX14_counts_55 : decode cX14_counts 55 = .ok (.iconst 0, 1) := by decide +kernel
theorem dX14_counts_56 : decode cX14_counts 56 = .ok (.putfield 543, 3) := by decide +kernel
theorem dX14_counts_59 : decode cX14_counts 59 = .ok (.iload_n 3, 1) := by decide +kernel
theorem dX14_counts_60 : decode cX14_counts 60 = .ok (.ifCond .lt 32, 3) := by decide +kernel
theorem dX14_counts_63 : decode cX14_counts 63 = .ok (.aload_n 0, 1) := by decide +kernel
theorem dX14_counts_64 : decode cX14_counts 64 = .ok (.getfield 90, 3) := by decide +kernel
theorem dX14_counts_67 : decode cX14_counts 67 = .ok (.iload_n 3, 1) := by decide +kernel
theorem dX14_counts_68 : decode cX14_counts 68 = .ok (.dup2, 1) := by decide +kernel
theorem dX14_counts_69 : decode cX14_counts 69 = .ok (.laload, 1) := by decide +kernel
theorem dX14_counts_70 : decode cX14_counts 70 = .ok (.iload_n 2, 1) := by decide +kernel
theorem dX14_counts_71 : decode cX14_counts 71 = .ok (.ifCond .eq 13, 3) := by decide +kernel
theorem dX14_counts_74 : decode cX14_counts 74 = .ok (.aload_n 0, 1) := by decide +kernel
theorem dX14_counts_75 : decode cX14_counts 75 = .ok (.getfield 106, 3) := by decide +kernel
theorem dX14_counts_78 : decode cX14_counts 78 = .ok (.iload_n 1, 1) := by decide +kernel
theorem dX14_counts_79 : decode cX14_counts 79 = .ok (.laload, 1) := by decide +kernel
theorem dX14_counts_80 : decode cX14_counts 80 = .ok (.lneg, 1) := by decide +kernel
theorem dX14_counts_81 : decode cX14_counts 81 = .ok (.goto 9, 3) := by decide +kernel
theorem dX14_counts_84 : decode cX14_counts 84 = .ok (.aload_n 0, 1) := by decide +kernel
theorem dX14_counts_85 : decode cX14_counts 85 = .ok (.getfield 106, 3) := by decide +kernel
theorem dX14_counts_88 : decode cX14_counts 88 = .ok (.iload_n 1, 1) := by decide +kernel
theorem dX14_counts_89 : decode cX14_counts 89 = .ok (.laload, 1) := by decide +kernel
theorem dX14_counts_90 : decode cX14_counts 90 = .ok (.ladd, 1) := by decide +kernel
theorem dX14_counts_91 : decode cX14_counts 91 = .ok (.lastore, 1) := by decide +kernel
theorem dX14_counts_92 : decode cX14_counts 92 = .ok (.return_, 1) := by decide +kernel
def s_X14_counts_90  (s0 : Int64) (s1 : Int64) (s2 : Int32) (s3 : Nat) (h : aH) : aO :=
  (stJ h (.ref s3) s2 (s1 + s0)).bind fun h91 => some (.inl none, h91)
def s_X14_counts_56  (l0 : Nat) (l1 : Int32) (l2 : Int32) (l3 : Int32) (s0 : Int32) (s1 : Nat) (h : aH) : aO :=
  (pZ h (.ref s1) 14 50 s0).bind fun h56 => if l3 < 0 then (some (.inl none, h56)) else ((gO h56 (.ref l0) 14 44).bind fun x64 => (ldJ h56 (.ref x64) l3).bind fun x69 => if l2 = 0 then ((gO h56 (.ref l0) 14 49).bind fun x85 => (ldJ h56 (.ref x85) l1).bind fun x89 => s_X14_counts_90 x89 x69 l3 x64 h56) else ((gO h56 (.ref l0) 14 49).bind fun x75 => (ldJ h56 (.ref x75) l1).bind fun x79 => s_X14_counts_90 (-x79) x69 l3 x64 h56))
def s_X14_counts_55  (l0 : Nat) (l1 : Int32) (l2 : Int32) (l3 : Int32) (s0 : Nat) (h : aH) : aO :=
  s_X14_counts_56 l0 l1 l2 l3 0 s0 h
def s_X14_counts (o : Nat) (a1 : Int32) (a2 : Int32) (h : aH) : aO :=
  (gO h (.ref o) 14 48).bind fun x1 => (ldI .int h (.ref x1) a1).bind fun x5 => if x5 = (-1) then (some (.inl none, h)) else ((gI h (.ref o) 14 50).bind fun x15 => if x15 = 0 then (s_X14_counts_55 o a1 a2 x5 o h) else (if x5 < 0 then (s_X14_counts_55 o a1 a2 x5 o h) else ((gO h (.ref o) 14 49).bind fun x26 => (ldJ h (.ref x26) a1).bind fun x30 => if (lg_cmp x30 (-20)) < 0 then (s_X14_counts_55 o a1 a2 x5 o h) else ((gO h (.ref o) 14 49).bind fun x39 => (ldJ h (.ref x39) a1).bind fun x43 => if 0 < (lg_cmp x43 20) then (s_X14_counts_55 o a1 a2 x5 o h) else (s_X14_counts_56 o a1 a2 x5 1 o h)))))
section
variable {p : Program} {l : Launch} {e : Env} {s : State} {m : MethodId} {args : Array Value} {below : List Frame} {meth : Method} {c : Code} {D : va_G} {B0 : Nat} {X : Nat → Nat} {ws0 : va_W} {r : aR} {h' : aH} {mc ms : Nat}
theorem t_X14_counts_90 (C : Cx p l s m args meth c B0 X RX14 "counts" cX14_counts 4 none [])   {s0 : Int64} {s1 : Int64} {s2 : Int32} {s3 : Nat} {h : aH} (hs : s_X14_counts_90  s0 s1 s2 s3 h = some (r, h')) : Ev p l e { frames := 0, cells := mc, slots := ms, locals := 0 } s m args below meth c D B0 X ws0 r h' mc ms 4 mc ms 90 [none, none, none, none] [.long s0, .long s1, .int s2, .ref s3] h := by
  unfold s_X14_counts_90 at hs
  refine ev_ladd C dX14_counts_90 ?_
  obtain ⟨h91, e91, hs⟩ := aB hs
  refine ev_last C e91 dX14_counts_91 ?_
  cases hs
  exact ev_vret C rfl rfl (Nat.le_refl _) (Nat.le_refl _) rfl dX14_counts_92
theorem t_X14_counts_56 (C : Cx p l s m args meth c B0 X RX14 "counts" cX14_counts 4 none [])   {l0 : Nat} {l1 : Int32} {l2 : Int32} {l3 : Int32} {s0 : Int32} {s1 : Nat} {h : aH} (hs : s_X14_counts_56  l0 l1 l2 l3 s0 s1 h = some (r, h')) : Ev p l e { frames := 0, cells := mc, slots := ms, locals := 0 } s m args below meth c D B0 X ws0 r h' mc ms 4 mc ms 56 [some (.ref l0), some (.int l1), some (.int l2), some (.int l3)] [.int s0, .ref s1] h := by
  unfold s_X14_counts_56 at hs
  obtain ⟨h56, e56, hs⟩ := aB hs
  refine ev_put C (ci := 14) (k := 50) rfl wu_14 (by decide) tyX14 tyX14_ok nmX14 wf_X14_543 rfl (pZ_F e56).2 (pZ_F e56).1 dX14_counts_56 ?_
  refine ev_iload_n C rfl dX14_counts_59 ?_
  refine ev_if_lt C (tgt := 92) (by decide) dX14_counts_60 (fun q60 => ?_) (fun q60 => ?_)
  · replace hs := (if_pos q60).symm.trans hs
    cases hs
    exact ev_vret C rfl rfl (Nat.le_refl _) (Nat.le_refl _) rfl dX14_counts_92
  · replace hs := (if_neg q60).symm.trans hs
    refine ev_aload_n C (x := .ref l0) rfl trivial dX14_counts_63 ?_
    obtain ⟨x64, e64, hs⟩ := aB hs
    refine ev_get C (ci := 14) (k := 44) rfl wu_14 (by decide) wf_X14_90 (gO_F e64) dX14_counts_64 ?_
    refine ev_iload_n C rfl dX14_counts_67 ?_
    refine ev_dup2 C rfl rfl dX14_counts_68 ?_
    obtain ⟨x69, e69, hs⟩ := aB hs
    refine ev_lald C e69 dX14_counts_69 ?_
    refine ev_iload_n C rfl dX14_counts_70 ?_
    refine ev_if_eq C (tgt := 84) (by decide) dX14_counts_71 (fun q71 => ?_) (fun q71 => ?_)
    · replace hs := (if_pos q71).symm.trans hs
      refine ev_aload_n C (x := .ref l0) rfl trivial dX14_counts_84 ?_
      obtain ⟨x85, e85, hs⟩ := aB hs
      refine ev_get C (ci := 14) (k := 49) rfl wu_14 (by decide) wf_X14_106 (gO_F e85) dX14_counts_85 ?_
      refine ev_iload_n C rfl dX14_counts_88 ?_
      obtain ⟨x89, e89, hs⟩ := aB hs
      refine ev_lald C e89 dX14_counts_89 ?_
      exact Ev.keep [false, false, false, false] (t_X14_counts_90 C  hs)
    · replace hs := (if_neg q71).symm.trans hs
      refine ev_aload_n C (x := .ref l0) rfl trivial dX14_counts_74 ?_
      obtain ⟨x75, e75, hs⟩ := aB hs
      refine ev_get C (ci := 14) (k := 49) rfl wu_14 (by decide) wf_X14_106 (gO_F e75) dX14_counts_75 ?_
      refine ev_iload_n C rfl dX14_counts_78 ?_
      obtain ⟨x79, e79, hs⟩ := aB hs
      refine ev_lald C e79 dX14_counts_79 ?_
      refine ev_lneg C dX14_counts_80 ?_
      refine ev_goto C (tgt := 90) (by decide) dX14_counts_81 ?_
      exact Ev.keep [false, false, false, false] (t_X14_counts_90 C  hs)
theorem t_X14_counts_55 (C : Cx p l s m args meth c B0 X RX14 "counts" cX14_counts 4 none [])   {l0 : Nat} {l1 : Int32} {l2 : Int32} {l3 : Int32} {s0 : Nat} {h : aH} (hs : s_X14_counts_55  l0 l1 l2 l3 s0 h = some (r, h')) : Ev p l e { frames := 0, cells := mc, slots := ms, locals := 0 } s m args below meth c D B0 X ws0 r h' mc ms 4 mc ms 55 [some (.ref l0), some (.int l1), some (.int l2), some (.int l3)] [.ref s0] h := by
  unfold s_X14_counts_55 at hs
  refine ev_iconst C (v := 0) dX14_counts_55 (by decide) ?_
  exact (t_X14_counts_56 C  hs)
theorem hy_X14_counts : yX14_counts.cls ≠ "java/lang/invoke/MethodHandle" ∧ yX14_counts.cls ≠ "java/lang/invoke/VarHandle" ∧ (parseMethodDescriptor yX14_counts.desc).map (fun d => d.parameters.length) = some 2 := by decide +kernel
theorem T_X14_counts (o : Nat) (a1 : Int32) (a2 : Int32) (h : aH) (r : aR) (h' : aH) (hs : s_X14_counts o a1 a2 h = some (r, h')) : Mt yX14_counts (Cond.code yX14_counts cX14_counts 4 none :: aTB) 0 0 0 0 [.ref o, .int a1, .int a2] h r h' := by
  unfold s_X14_counts at hs
  refine Mt_of (k := 1) (by decide) rfl (fun p l e s m args below meth c D B0 X ws0 C => ?_)
  show Ev p l e { frames := 0, cells := 0, slots := 0, locals := 0 } s m args below meth c D B0 X ws0 r h' 0 0 4 0 0 0 [some (.ref o), some (.int a1), some (.int a2), none] [] h
  refine ev_aload_n C (x := .ref o) rfl trivial dX14_counts_0 ?_
  obtain ⟨x1, e1, hs⟩ := aB hs
  refine ev_get C (ci := 14) (k := 48) rfl wu_14 (by decide) wf_X14_103 (gO_F e1) dX14_counts_1 ?_
  refine ev_iload_n C rfl dX14_counts_4 ?_
  obtain ⟨x5, e5, hs⟩ := aB hs
  refine ev_iald C e5 dX14_counts_5 ?_
  refine ev_istore_n C (by decide) dX14_counts_6 ?_
  refine ev_iload_n C rfl dX14_counts_7 ?_
  refine ev_iconst C (v := (-1)) dX14_counts_8 (by decide) ?_
  refine ev_icmp_ne C (tgt := 13) (by decide) dX14_counts_9 (fun q9 => ?_) (fun q9 => ?_)
  · replace hs := (if_neg q9).symm.trans hs
    refine ev_aload_n C (x := .ref o) rfl trivial dX14_counts_13 ?_
    refine ev_aload_n C (x := .ref o) rfl trivial dX14_counts_14 ?_
    obtain ⟨x15, e15, hs⟩ := aB hs
    refine ev_get C (ci := 14) (k := 50) rfl wu_14 (by decide) wf_X14_543 (gI_F e15) dX14_counts_15 ?_
    refine ev_if_eq C (tgt := 55) (by decide) dX14_counts_18 (fun q18 => ?_) (fun q18 => ?_)
    · replace hs := (if_pos q18).symm.trans hs
      exact (t_X14_counts_55 C  hs)
    · replace hs := (if_neg q18).symm.trans hs
      refine ev_iload_n C rfl dX14_counts_21 ?_
      refine ev_if_lt C (tgt := 55) (by decide) dX14_counts_22 (fun q22 => ?_) (fun q22 => ?_)
      · replace hs := (if_pos q22).symm.trans hs
        exact (t_X14_counts_55 C  hs)
      · replace hs := (if_neg q22).symm.trans hs
        refine ev_aload_n C (x := .ref o) rfl trivial dX14_counts_25 ?_
        obtain ⟨x26, e26, hs⟩ := aB hs
        refine ev_get C (ci := 14) (k := 49) rfl wu_14 (by decide) wf_X14_106 (gO_F e26) dX14_counts_26 ?_
        refine ev_iload_n C rfl dX14_counts_29 ?_
        obtain ⟨x30, e30, hs⟩ := aB hs
        refine ev_lald C e30 dX14_counts_30 ?_
        refine ev_ldc2 C wv_X14_546 dX14_counts_31 ?_
        refine ev_lcmp C dX14_counts_34 ?_
        refine ev_if_lt C (tgt := 55) (by decide) dX14_counts_35 (fun q35 => ?_) (fun q35 => ?_)
        · replace hs := (if_pos q35).symm.trans hs
          exact (t_X14_counts_55 C  hs)
        · replace hs := (if_neg q35).symm.trans hs
          refine ev_aload_n C (x := .ref o) rfl trivial dX14_counts_38 ?_
          obtain ⟨x39, e39, hs⟩ := aB hs
          refine ev_get C (ci := 14) (k := 49) rfl wu_14 (by decide) wf_X14_106 (gO_F e39) dX14_counts_39 ?_
          refine ev_iload_n C rfl dX14_counts_42 ?_
          obtain ⟨x43, e43, hs⟩ := aB hs
          refine ev_lald C e43 dX14_counts_43 ?_
          refine ev_ldc2 C wv_X14_548 dX14_counts_44 ?_
          refine ev_lcmp C dX14_counts_47 ?_
          refine ev_if_gt C (tgt := 55) (by decide) dX14_counts_48 (fun q48 => ?_) (fun q48 => ?_)
          · replace hs := (if_pos q48).symm.trans hs
            exact (t_X14_counts_55 C  hs)
          · replace hs := (if_neg q48).symm.trans hs
            refine ev_iconst C (v := 1) dX14_counts_51 (by decide) ?_
            refine ev_goto C (tgt := 56) (by decide) dX14_counts_52 ?_
            exact (t_X14_counts_56 C  hs)
  · replace hs := (if_pos q9).symm.trans hs
    cases hs
    exact ev_vret C rfl rfl (Nat.le_refl _) (Nat.le_refl _) rfl dX14_counts_12
end
-- X14_factorsOf
theorem dX14_factorsOf_0 : decode cX14_factorsOf 0 = .ok (.iconst 0, 1) := by decide +kernel
theorem dX14_factorsOf_1 : decode cX14_factorsOf 1 = .ok (.istore 4, 2) := by decide +kernel
theorem dX14_factorsOf_3 : decode cX14_factorsOf 3 = .ok (.iload 4, 2) := by decide +kernel
theorem dX14_factorsOf_5 : decode cX14_factorsOf 5 = .ok (.bipush 7, 2) := by decide +kernel
theorem dX14_factorsOf_7 : decode cX14_factorsOf 7 = .ok (.if_icmp .ge 17, 3) := by decide +kernel
theorem dX14_factorsOf_10 : decode cX14_factorsOf 10 = .ok (.aload_n 0, 1) := by decide +kernel
theorem dX14_factorsOf_11 : decode cX14_factorsOf 11 = .ok (.getfield 90, 3) := by decide +kernel
theorem dX14_factorsOf_14 : decode cX14_factorsOf 14 = .ok (.iload 4, 2) := by decide +kernel
theorem dX14_factorsOf_16 : decode cX14_factorsOf 16 = .ok (.lconst 0, 1) := by decide +kernel
theorem dX14_factorsOf_17 : decode cX14_factorsOf 17 = .ok (.lastore, 1) := by decide +kernel
theorem dX14_factorsOf_18 : decode cX14_factorsOf 18 = .ok (.iinc 4 1, 3) := by decide +kernel
theorem dX14_factorsOf_21 : decode cX14_factorsOf 21 = .ok (.goto (-18), 3) := by decide +kernel
theorem dX14_factorsOf_24 : decode cX14_factorsOf 24 = .ok (.iconst 0, 1) := by decide +kernel
theorem dX14_factorsOf_25 : decode cX14_factorsOf 25 = .ok (.istore 4, 2) := by decide +kernel
theorem dX14_factorsOf_27 : decode cX14_factorsOf 27 = .ok (.iload_n 1, 1) := by decide +kernel
theorem dX14_factorsOf_28 : decode cX14_factorsOf 28 = .ok (.istore 5, 2) := by decide +kernel
theorem dX14_factorsOf_30 : decode cX14_factorsOf 30 = .ok (.iload 5, 2) := by decide +kernel
theorem dX14_factorsOf_32 : decode cX14_factorsOf 32 = .ok (.iload_n 2, 1) := by decide +kernel
theorem dX14_factorsOf_33 : decode cX14_factorsOf 33 = .ok (.if_icmp .ge 328, 3) := by decide +kernel
theorem dX14_factorsOf_36 : decode cX14_factorsOf 36 = .ok (.aload_n 0, 1) := by decide +kernel
theorem dX14_factorsOf_37 : decode cX14_factorsOf 37 = .ok (.getfield 376, 3) := by decide +kernel
theorem dX14_factorsOf_40 : decode cX14_factorsOf 40 = .ok (.getfield 430, 3) := by decide +kernel
theorem dX14_factorsOf_43 : decode cX14_factorsOf 43 = .ok (.iload 5, 2) := by decide +kernel
theorem dX14_factorsOf_45 : decode cX14_factorsOf 45 = .ok (.iaload, 1) := by decide +kernel
theorem dX14_factorsOf_46 : decode cX14_factorsOf 46 = .ok (.istore 6, 2) := by decide +kernel
theorem dX14_factorsOf_48 : decode cX14_factorsOf 48 = .ok (.iload 6, 2) := by decide +kernel
theorem dX14_factorsOf_50 : decode cX14_factorsOf 50 = .ok (.ifCond .eq 9, 3) := by decide +kernel
theorem dX14_factorsOf_53 : decode cX14_factorsOf 53 = .ok (.iload 6, 2) := by decide +kernel
theorem dX14_factorsOf_55 : decode cX14_factorsOf 55 = .ok (.iconst 1, 1) := by decide +kernel
theorem dX14_factorsOf_56 : decode cX14_factorsOf 56 = .ok (.if_icmp .ne 125, 3) := by decide +kernel
theorem dX14_factorsOf_59 : decode cX14_factorsOf 59 = .ok (.iload 6, 2) := by decide +kernel
theorem dX14_factorsOf_61 : decode cX14_factorsOf 61 = .ok (.iconst 1, 1) := by decide +kernel
theorem dX14_factorsOf_62 : decode cX14_factorsOf 62 = .ok (.if_icmp .ne 24, 3) := by decide +kernel
theorem dX14_factorsOf_65 : decode cX14_factorsOf 65 = .ok (.aload_n 0, 1) := by decide +kernel
theorem dX14_factorsOf_66 : decode cX14_factorsOf 66 = .ok (.getfield 376, 3) := by decide +kernel
theorem dX14_factorsOf_69 : decode cX14_factorsOf 69 = .ok (.getfield 433, 3) := by decide +kernel
theorem dX14_factorsOf_72 : decode cX14_factorsOf 72 = .ok (.iload 5, 2) := by decide +kernel
theorem dX14_factorsOf_74 : decode cX14_factorsOf 74 = .ok (.iaload, 1) := by decide +kernel
theorem dX14_factorsOf_75 : decode cX14_factorsOf 75 = .ok (.iconst 3, 1) := by decide +kernel
theorem dX14_factorsOf_76 : decode cX14_factorsOf 76 = .ok (.invokestatic 246, 3) := by decide +kernel
theorem dX14_factorsOf_79 : decode cX14_factorsOf 79 = .ok (.if_icmp .lt 7, 3) := by decide +kernel
theorem dX14_factorsOf_82 : decode cX14_factorsOf 82 = .ok (.iconst 1, 1) := by decide +kernel
theorem dX14_factorsOf_83 : decode cX14_factorsOf 83 = .ok (.goto 4, 3) := by decide +kernel
theorem dX14_factorsOf_86 : decode cX14_factorsOf 86 = .ok (.iconst 0, 1) := by decide +kernel
theorem dX14_factorsOf_87 : decode cX14_factorsOf 87 = .ok (.istore 7, 2) := by decide +kernel
theorem dX14_factorsOf_89 : decode cX14_factorsOf 89 = .ok (.aload_n 0, 1) := by decide +kernel
theorem dX14_factorsOf_90 : decode cX14_factorsOf 90 = .ok (.getfield 103, 3) := by decide +kernel
theorem dX14_factorsOf_93 : decode cX14_factorsOf 93 = .ok (.iload 4, 2) := by decide +kernel
theorem dX14_factorsOf_95 : decode cX14_factorsOf 95 = .ok (.iload 6, 2) := by decide +kernel
theorem dX14_factorsOf_97 : decode cX14_factorsOf 97 = .ok (.iconst 1, 1) := by decide +kernel
theorem dX14_factorsOf_98 : decode cX14_factorsOf 98 = .ok (.if_icmp .ne 21, 3) := by decide +kernel
theorem dX14_factorsOf_101 : decode cX14_factorsOf 101 = .ok (.iload 7, 2) := by decide +kernel
theorem dX14_factorsOf_103 : decode cX14_factorsOf 103 = .ok (.ifCond .ne 16, 3) := by decide +kernel
theorem dX14_factorsOf_106 : decode cX14_factorsOf 106 = .ok (.aload_n 0, 1) := by decide +kernel
theorem dX14_factorsOf_107 : decode cX14_factorsOf 107 = .ok (.getfield 376, 3) := by decide +kernel
theorem dX14_factorsOf_110 : decode cX14_factorsOf 110 = .ok (.getfield 433, 3) := by decide +kernel
theorem dX14_factorsOf_113 : decode cX14_factorsOf 113 = .ok (.iload 5, 2) := by decide +kernel
theorem dX14_factorsOf_115 : decode cX14_factorsOf 115 = .ok (.iaload, 1) := by decide +kernel
theorem dX14_factorsOf_116 : decode cX14_factorsOf 116 = .ok (.goto 4, 3) := by decide +kernel
theorem dX14_factorsOf_119 : decode cX14_factorsOf 119 = .ok (.iconst (-1), 1) := by decide +kernel
theorem dX14_factorsOf_120 : decode cX14_factorsOf 120 = .ok (.iastore, 1) := by decide +kernel
theorem dX14_factorsOf_121 : decode cX14_factorsOf 121 = .ok (.aload_n 0, 1) := by decide +kernel
theorem dX14_factorsOf_122 : decode cX14_factorsOf 122 = .ok (.getfield 106, 3) := by decide +kernel
theorem dX14_factorsOf_125 : decode cX14_factorsOf 125 = .ok (.iload 4, 2) := by decide +kernel
theorem dX14_factorsOf_127 : decode cX14_factorsOf 127 = .ok (.iload 6, 2) := by decide +kernel
theorem dX14_factorsOf_129 : decode cX14_factorsOf 129 = .ok (.ifCond .ne 17, 3) := by decide +kernel
theorem dX14_factorsOf_132 : decode cX14_factorsOf 132 = .ok (.aload_n 0, 1) := by decide +kernel
theorem dX14_factorsOf_133 : decode cX14_factorsOf 133 = .ok (.getfield 376, 3) := by decide +kernel
theorem dX14_factorsOf_136 : decode cX14_factorsOf 136 = .ok (.getfield 433, 3) := by decide +kernel
theorem dX14_factorsOf_139 : decode cX14_factorsOf 139 = .ok (.iload 5, 2) := by decide +kernel
theorem dX14_factorsOf_141 : decode cX14_factorsOf 141 = .ok (.iaload, 1) := by decide +kernel
theorem dX14_factorsOf_142 : decode cX14_factorsOf 142 = .ok (.i2l, 1) := by decide +kernel
theorem dX14_factorsOf_143 : decode cX14_factorsOf 143 = .ok (.goto 31, 3) := by decide +kernel
theorem dX14_factorsOf_146 : decode cX14_factorsOf 146 = .ok (.iload 7, 2) := by decide +kernel
theorem dX14_factorsOf_148 : decode cX14_factorsOf 148 = .ok (.ifCond .eq 25, 3) := by decide +kernel
theorem dX14_factorsOf_151 : decode cX14_factorsOf 151 = .ok (.aload_n 0, 1) := by decide +kernel
theorem dX14_factorsOf_152 : decode cX14_factorsOf 152 = .ok (.getfield 376, 3) := by decide +kernel
theorem dX14_factorsOf_155 : decode cX14_factorsOf 155 = .ok (.getfield 307, 3) := by decide +kernel
theorem dX14_factorsOf_158 : decode cX14_factorsOf 158 = .ok (.aload_n 0, 1) := by decide +kernel
theorem dX14_factorsOf_159 : decode cX14_factorsOf 159 = .ok (.getfield 376, 3) := by decide +kernel
theorem dX14_factorsOf_162 : decode cX14_factorsOf 162 = .ok (.getfield 433, 3) := by decide +kernel
theorem dX14_factorsOf_165 : decode cX14_factorsOf 165 = .ok (.iload 5, 2) := by decide +kernel
theorem dX14_factorsOf_167 : decode cX14_factorsOf 167 = .ok (.iaload, 1) := by decide +kernel
theorem dX14_factorsOf_168 : decode cX14_factorsOf 168 = .ok (.iaload, 1) := by decide +kernel
theorem dX14_factorsOf_169 : decode cX14_factorsOf 169 = .ok (.i2l, 1) := by decide +kernel
theorem dX14_factorsOf_170 : decode cX14_factorsOf 170 = .ok (.goto 4, 3) := by decide +kernel
theorem dX14_factorsOf_173 : decode cX14_factorsOf 173 = .ok (.lconst 1, 1) := by decide +kernel
theorem dX14_factorsOf_174 : decode cX14_factorsOf 174 = .ok (.lastore, 1) := by decide +kernel
theorem dX14_factorsOf_175 : decode cX14_factorsOf 175 = .ok (.iinc 4 1, 3) := by decide +kernel
theorem dX14_factorsOf_178 : decode cX14_factorsOf 178 = .ok (.goto 177, 3) := by decide +kernel
theorem dX14_factorsOf_181 : decode cX14_factorsOf 181 = .ok (.iload 6, 2) := by decide +kernel
theorem dX14_factorsOf_183 : decode cX14_factorsOf 183 = .ok (.iconst 4, 1) := by decide +kernel
theorem dX14_factorsOf_184 : decode cX14_factorsOf 184 = .ok (.if_icmp .ne 104, 3) := by decide +kernel
theorem dX14_factorsOf_187 : decode cX14_factorsOf 187 = .ok (.iinc 4 (-1), 3) := by decide +kernel
theorem dX14_factorsOf_190 : decode cX14_factorsOf 190 = .ok (.aload_n 0, 1) := by decide +kernel
theorem dX14_factorsOf_191 : decode cX14_factorsOf 191 = .ok (.getfield 103, 3) := by decide +kernel
theorem dX14_factorsOf_194 : decode cX14_factorsOf 194 = .ok (.iload 4, 2) := by decide +kernel
theorem dX14_factorsOf_196 : decode cX14_factorsOf 196 = .ok (.iconst 1, 1) := by decide +kernel
theorem dX14_factorsOf_197 : decode cX14_factorsOf 197 = .ok (.isub, 1) := by decide +kernel
theorem dX14_factorsOf_198 : decode cX14_factorsOf 198 = .ok (.iaload, 1) := by decide +kernel
theorem dX14_factorsOf_199 : decode cX14_factorsOf 199 = .ok (.istore 7, 2) := by decide +kernel
theorem dX14_factorsOf_201 : decode cX14_factorsOf 201 = .ok (.aload_n 0, 1) := by decide +kernel
theorem dX14_factorsOf_202 : decode cX14_factorsOf 202 = .ok (.getfield 103, 3) := by decide +kernel
theorem dX14_factorsOf_205 : decode cX14_factorsOf 205 = .ok (.iload 4, 2) := by decide +kernel
theorem dX14_factorsOf_207 : decode cX14_factorsOf 207 = .ok (.iaload, 1) := by decide +kernel
theorem dX14_factorsOf_208 : decode cX14_factorsOf 208 = .ok (.istore 8, 2) := by decide +kernel
theorem dX14_factorsOf_210 : decode cX14_factorsOf 210 = .ok (.aload_n 0, 1) := by decide +kernel
theorem dX14_factorsOf_211 : decode cX14_factorsOf 211 = .ok (.getfield 103, 3) := by decide +kernel
theorem dX14_factorsOf_214 : decode cX14_factorsOf 214 = .ok (.iload 4, 2) := by decide +kernel
theorem dX14_factorsOf_216 : decode cX14_factorsOf 216 = .ok (.iconst 1, 1) := by decide +kernel
theorem dX14_factorsOf_217 : decode cX14_factorsOf 217 = .ok (.isub, 1) := by decide +kernel
theorem dX14_factorsOf_218 : decode cX14_factorsOf 218 = .ok (.iload 7, 2) := by decide +kernel
theorem dX14_factorsOf_220 : decode cX14_factorsOf 220 = .ok (.iconst (-1), 1) := by decide +kernel
theorem dX14_factorsOf_221 : decode cX14_factorsOf 221 = .ok (.if_icmp .ne 8, 3) := by decide +kernel
theorem dX14_factorsOf_224 : decode cX14_factorsOf 224 = .ok (.iload 8, 2) := by decide +kernel
theorem dX14_factorsOf_226 : decode cX14_factorsOf 226 = .ok (.goto 16, 3) := by decide +kernel
theorem dX14_factorsOf_229 : decode cX14_factorsOf 229 = .ok (.iload 8, 2) := by decide +kernel
theorem dX14_factorsOf_231 : decode cX14_factorsOf 231 = .ok (.iconst (-1), 1) := by decide +kernel
theorem dX14_factorsOf_232 : decode cX14_factorsOf 232 = .ok (.if_icmp .ne 8, 3) := by decide +kernel
theorem dX14_factorsOf_235 : decode cX14_factorsOf 235 = .ok (.iload 7, 2) := by decide +kernel
theorem dX14_factorsOf_237 : decode cX14_factorsOf 237 = .ok (.goto 5, 3) := by decide +kernel
theorem dX14_factorsOf_240 : decode cX14_factorsOf 240 = .ok (.bipush (-2), 2) := by decide +kernel
theorem dX14_factorsOf_242 : decode cX14_factorsOf 242 = .ok (.iastore, 1) := by decide +kernel
theorem dX14_factorsOf_243 : decode cX14_factorsOf 243 = .ok (.aload_n 0, 1) := by decide +kernel
theorem dX14_factorsOf_244 : decode cX14_factorsOf 244 = .ok (.getfield 106, 3) := by decide +kernel
theorem dX14_factorsOf_247 : decode cX14_factorsOf 247 = .ok (.iload 4, 2) := by decide +kernel
theorem dX14_factorsOf_249 : decode cX14_factorsOf 249 = .ok (.iconst 1, 1) := by decide +kernel
theorem dX14_factorsOf_250 : decode cX14_factorsOf 250 = .ok (.isub, 1) := by decide +kernel
theorem dX14_factorsOf_251 : decode cX14_factorsOf 251 = .ok (.laload, 1) := by decide +kernel
theorem dX14_factorsOf_252 : decode cX14_factorsOf 252 = .ok (.aload_n 0, 1) := by decide +kernel
theorem dX14_factorsOf_253 : decode cX14_factorsOf 253 = .ok (.getfield 106, 3) := by decide +kernel
theorem dX14_factorsOf_256 : decode cX14_factorsOf 256 = .ok (.iload 4, 2) := by decide +kernel
theorem dX14_factorsOf_258 : decode cX14_factorsOf 258 = .ok (.laload, 1) := by decide +kernel
theorem dX14_factorsOf_259 : decode cX14_factorsOf 259 = .ok (.lmul, 1) := by decide +kernel
theorem dX14_factorsOf_260 : decode cX14_factorsOf 260 = .ok (.lstore 9, 2) := by decide +kernel
theorem dX14_factorsOf_262 : decode cX14_factorsOf 262 = .ok (.aload_n 0, 1) := by decide +kernel
theorem dX14_factorsOf_263 : decode cX14_factorsOf 263 = .ok (.getfield 106, 3) := by decide +kernel
theorem dX14_factorsOf_266 : decode cX14_factorsOf 266 = .ok (.iload 4, 2) := by decide +kernel
theorem dX14_factorsOf_268 : decode cX14_factorsOf 268 = .ok (.iconst 1, 1) := by decide +kernel
theorem dX14_factorsOf_269 : decode cX14_factorsOf 269 = .ok (.isub, 1) := by decide +kernel
theorem dX14_factorsOf_270 : decode cX14_factorsOf 270 = .ok (.ldc2_w 436, 3) := by decide +kernel
theorem dX14_factorsOf_273 : decode cX14_factorsOf 273 = .ok (.ldc2_w 438, 3) := by decide +kernel
theorem dX14_factorsOf_276 : decode cX14_factorsOf 276 = .ok (.lload 9, 2) := by decide +kernel
theorem dX14_factorsOf_278 : decode cX14_factorsOf 278 = .ok (.invokestatic 440, 3) := by decide +kernel
theorem dX14_factorsOf_281 : decode cX14_factorsOf 281 = .ok (.invokestatic 446, 3) := by decide +kernel
theorem dX14_factorsOf_284 : decode cX14_factorsOf 284 = .ok (.lastore, 1) := by decide +kernel
theorem dX14_factorsOf_285 : decode cX14_factorsOf 285 = .ok (.goto 70, 3) := by decide +kernel
theorem dX14_factorsOf_288 : decode cX14_factorsOf 288 = .ok (.iload 6, 2) := by decide +kernel
theorem dX14_factorsOf_290 : decode cX14_factorsOf 290 = .ok (.iconst 5, 1) := by decide +kernel
theorem dX14_factorsOf_291 : decode cX14_factorsOf 291 = .ok (.if_icmp .ne 25, 3) := by decide +kernel
theorem dX14_factorsOf_294 : decode cX14_factorsOf 294 = .ok (.aload_n 0, 1) := by decide +kernel
theorem dX14_factorsOf_295 : decode cX14_factorsOf 295 = .ok (.iload 4, 2) := by decide +kernel
theorem dX14_factorsOf_297 : decode cX14_factorsOf 297 = .ok (.iconst 1, 1) := by decide +kernel
theorem dX14_factorsOf_298 : decode cX14_factorsOf 298 = .ok (.isub, 1) := by decide +kernel
theorem dX14_factorsOf_299 : decode cX14_factorsOf 299 = .ok (.iconst 1, 1) := by decide +kernel
theorem dX14_factorsOf_300 : decode cX14_factorsOf 300 = .ok (.invokevirtual 550, 3) := by decide +kernel
theorem dX14_factorsOf_303 : decode cX14_factorsOf 303 = .ok (.aload_n 0, 1) := by decide +kernel
theorem dX14_factorsOf_304 : decode cX14_factorsOf 304 = .ok (.getfield 103, 3) := by decide +kernel
theorem dX14_factorsOf_307 : decode cX14_factorsOf 307 = .ok (.iload 4, 2) := by decide +kernel
theorem dX14_factorsOf_309 : decode cX14_factorsOf 309 = .ok (.iconst 1, 1) := by decide +kernel
theorem dX14_factorsOf_310 : decode cX14_factorsOf 310 = .ok (.isub, 1) := by decide +kernel
theorem dX14_factorsOf_311 : decode cX14_factorsOf 311 = .ok (.iconst (-1), 1) := by decide +kernel
theorem dX14_factorsOf_312 : decode cX14_factorsOf 312 = .ok (.iastore, 1) := by decide +kernel
theorem dX14_factorsOf_313 : decode cX14_factorsOf 313 = .ok (.goto 42, 3) := by decide +kernel
theorem dX14_factorsOf_316 : decode cX14_factorsOf 316 = .ok (.iinc 4 (-1), 3) := by decide +kernel
theorem dX14_factorsOf_319 : decode cX14_factorsOf 319 = .ok (.aload_n 0, 1) := by decide +kernel
theorem dX14_factorsOf_320 : decode cX14_factorsOf 320 = .ok (.iload 4, 2) := by decide +kernel
theorem dX14_factorsOf_322 : decode cX14_factorsOf 322 = .ok (.iconst 1, 1) := by decide +kernel
theorem dX14_factorsOf_323 : decode cX14_factorsOf 323 = .ok (.isub, 1) := by decide +kernel
theorem dX14_factorsOf_324 : decode cX14_factorsOf 324 = .ok (.iconst 0, 1) := by decide +kernel
theorem dX14_factorsOf_325 : decode cX14_factorsOf 325 = .ok (.invokevirtual 550, 3) := by decide +kernel
theorem dX14_factorsOf_328 : decode cX14_factorsOf 328 = .ok (.aload_n 0, 1) := by decide +kernel
theorem dX14_factorsOf_329 : decode cX14_factorsOf 329 = .ok (.iload 4, 2) := by decide +kernel
theorem dX14_factorsOf_331 : decode cX14_factorsOf 331 = .ok (.iload 6, 2) := by decide +kernel
theorem dX14_factorsOf_333 : decode cX14_factorsOf 333 = .ok (.iconst 3, 1) := by decide +kernel
theorem dX14_factorsOf_334 : decode cX14_factorsOf 334 = .ok (.if_icmp .ne 7, 3) := by decide +kernel
theorem dX14_factorsOf_337 : decode cX14_factorsOf 337 = .ok (.iconst 1, 1) := by decide +kernel
theorem dX14_factorsOf_338 : decode cX14_factorsOf 338 = .ok (.goto 4, 3) := by decide +kernel
theorem dX14_factorsOf_341 : decode cX14_factorsOf 341 = .ok (.iconst 0, 1) := by decide +kernel
theorem dX14_factorsOf_342 : decode cX14_factorsOf 342 = .ok (.invokevirtual 550, 3) := by decide +kernel
theorem dX14_factorsOf_345 : decode cX14_factorsOf 345 = .ok (.aload_n 0, 1) := by decide +kernel
theorem dX14_factorsOf_346 : decode cX14_factorsOf 346 = .ok (.getfield 103, 3) := by decide +kernel
theorem dX14_factorsOf_349 : decode cX14_factorsOf 349 = .ok (.iload 4, 2) := by decide +kernel
theorem dX14_factorsOf_351 : decode cX14_factorsOf 351 = .ok (.iconst 1, 1) := by decide +kernel
theorem dX14_factorsOf_352 : decode cX14_factorsOf 352 = .ok (.isub, 1) := by decide +kernel
theorem dX14_factorsOf_353 : decode cX14_factorsOf 353 = .ok (.iconst (-1), 1) := by decide +kernel
theorem dX14_factorsOf_354 : decode cX14_factorsOf 354 = .ok (.iastore, 1) := by decide +kernel
theorem dX14_factorsOf_355 : decode cX14_factorsOf 355 = .ok (.iinc 5 1, 3) := by decide +kernel
theorem dX14_factorsOf_358 : decode cX14_factorsOf 358 = .ok (.goto (-328), 3) := by decide +kernel
theorem dX14_factorsOf_361 : decode cX14_factorsOf 361 = .ok (.aload_n 0, 1) := by decide +kernel
theorem dX14_factorsOf_362 : decode cX14_factorsOf 362 = .ok (.iconst 0, 1) := by decide +kernel
theorem dX14_factorsOf_363 : decode cX14_factorsOf 363 = .ok (.iconst 0, 1) := by decide +kernel
theorem dX14_factorsOf_364 : decode cX14_factorsOf 364 = .ok (.invokevirtual 550, 3) := by decide +kernel
theorem dX14_factorsOf_367 : decode cX14_factorsOf 367 = .ok (.iconst 0, 1) := by decide +kernel
theorem dX14_factorsOf_368 : decode cX14_factorsOf 368 = .ok (.istore 5, 2) := by decide +kernel
theorem dX14_factorsOf_370 : decode cX14_factorsOf 370 = .ok (.iload 5, 2) := by decide +kernel
theorem dX14_factorsOf_372 : decode cX14_factorsOf 372 = .ok (.iload_n 3, 1) := by decide +kernel
theorem dX14_factorsOf_373 : decode cX14_factorsOf 373 = .ok (.if_icmp .ge 53, 3) := by decide +kernel
theorem dX14_factorsOf_376 : decode cX14_factorsOf 376 = .ok (.aload_n 0, 1) := by decide +kernel
theorem dX14_factorsOf_377 : decode cX14_factorsOf 377 = .ok (.aload_n 0, 1) := by decide +kernel
theorem dX14_factorsOf_378 : decode cX14_factorsOf 378 = .ok (.getfield 543, 3) := by decide +kernel
theorem dX14_factorsOf_381 : decode cX14_factorsOf 381 = .ok (.ifCond .eq 35, 3) := by decide +kernel
theorem dX14_factorsOf_384 : decode cX14_factorsOf 384 = .ok (.aload_n 0, 1) := by decide +kernel
theorem dX14_factorsOf_385 : decode cX14_factorsOf 385 = .ok (.getfield 90, 3) := by decide +kernel
theorem dX14_factorsOf_388 : decode cX14_factorsOf 388 = .ok (.iload 5, 2) := by decide +kernel
theorem dX14_factorsOf_390 : decode cX14_factorsOf 390 = .ok (.laload, 1) := by decide +kernel
theorem dX14_factorsOf_391 : decode cX14_factorsOf 391 = .ok (.ldc2_w 546, 3) := by decide +kernel
theorem dX14_factorsOf_394 : decode cX14_factorsOf 394 = .ok (.lcmp, 1) := by decide +kernel
theorem dX14_factorsOf_395 : decode cX14_factorsOf 395 = .ok (.ifCond .lt 21, 3) := by decide +kernel
theorem dX14_factorsOf_398 : decode cX14_factorsOf 398 = .ok (.aload_n 0, 1) := by decide +kernel
theorem dX14_factorsOf_399 : decode cX14_factorsOf 399 = .ok (.getfield 90, 3) := by decide +kernel
theorem dX14_factorsOf_402 : decode cX14_factorsOf 402 = .ok (.iload 5, 2) := by decide +kernel
theorem dX14_factorsOf_404 : decode cX14_factorsOf 404 = .ok (.laload, 1) := by decide +kernel
theorem dX14_factorsOf_405 : decode cX14_factorsOf 405 = .ok (.ldc2_w 548, 3) := by decide +kernel
theorem dX14_factorsOf_408 : decode cX14_factorsOf 408 = .ok (.lcmp, 1) := by decide +kernel
theorem dX14_factorsOf_409 : decode cX14_factorsOf 409 = .ok (.ifCond .gt 7, 3) := by decide +kernel
theorem dX14_factorsOf_412 : decode cX14_factorsOf 412 = .ok (.iconst 1, 1) := by decide +kernel
theorem dX14_factorsOf_413 : decode cX14_factorsOf 413 = .ok (.goto 4, 3) := by decide +kernel
theorem dX14_factorsOf_416 : decode cX14_factorsOf 416 = .ok (.iconst 0, 1) := by decide +kernel
theorem dX14_factorsOf_417 : decode cX14_factorsOf 417 = .ok (.putfield 543, 3) := by decide +kernel
theorem dX14_factorsOf_420 : decode cX14_factorsOf 420 = .ok (.iinc 5 1, 3) := by decide +kernel
theorem dX14_factorsOf_423 : decode cX14_factorsOf 423 = .ok (.goto (-53), 3) := by decide +kernel
theorem dX14_factorsOf_426 : decode cX14_factorsOf 426 = .ok (.return_, 1) := by decide +kernel
def s_X14_factorsOf_417 (k370 : Nat → Int32 → Int32 → aH → aO) (l0 : Nat) (l3 : Int32) (l5 : Int32) (s0 : Int32) (s1 : Nat) (h : aH) : aO :=
  (pZ h (.ref s1) 14 50 s0).bind fun h417 => k370 l0 l3 (l5 + 1) h417
def s_X14_factorsOf_416 (k370 : Nat → Int32 → Int32 → aH → aO) (l0 : Nat) (l3 : Int32) (l5 : Int32) (s0 : Nat) (h : aH) : aO :=
  s_X14_factorsOf_417 k370 l0 l3 l5 0 s0 h
def s_X14_factorsOf_370_b  (k370 : Nat → Int32 → Int32 → aH → aO) (l0 : Nat) (l3 : Int32) (l5 : Int32) (h : aH) : aO :=
  if l3 ≤ l5 then (some (.inl none, h)) else ((gI h (.ref l0) 14 50).bind fun x378 => if x378 = 0 then (s_X14_factorsOf_416 k370 l0 l3 l5 l0 h) else ((gO h (.ref l0) 14 44).bind fun x385 => (ldJ h (.ref x385) l5).bind fun x390 => if (lg_cmp x390 (-20)) < 0 then (s_X14_factorsOf_416 k370 l0 l3 l5 l0 h) else ((gO h (.ref l0) 14 44).bind fun x399 => (ldJ h (.ref x399) l5).bind fun x404 => if 0 < (lg_cmp x404 20) then (s_X14_factorsOf_416 k370 l0 l3 l5 l0 h) else (s_X14_factorsOf_417 k370 l0 l3 l5 1 l0 h))))
def s_X14_factorsOf_370  (n : Nat) : Nat → Int32 → Int32 → aH → aO := lpF (fun _ _ _ _ => none) (s_X14_factorsOf_370_b ) n
def s_X14_factorsOf_174 (k30 : Nat → Int32 → Int32 → Int32 → Int32 → aH → aO) (l0 : Nat) (l2 : Int32) (l3 : Int32) (l4 : Int32) (l5 : Int32) (s0 : Int64) (s1 : Int32) (s2 : Nat) (h : aH) : aO :=
  (stJ h (.ref s2) s1 s0).bind fun h174 => k30 l0 l2 l3 (l4 + 1) (l5 + 1) h174
def s_X14_factorsOf_120 (k30 : Nat → Int32 → Int32 → Int32 → Int32 → aH → aO) (l0 : Nat) (l2 : Int32) (l3 : Int32) (l4 : Int32) (l5 : Int32) (l6 : Int32) (l7 : Int32) (s0 : Int32) (s1 : Int32) (s2 : Nat) (h : aH) : aO :=
  (stI h (.ref s2) s1 s0).bind fun h120 => (gO h120 (.ref l0) 14 49).bind fun x122 => if l6 = 0 then ((gO h120 (.ref l0) 14 4).bind fun x133 => (gO h120 (.ref x133) 13 13).bind fun x136 => (ldI .int h120 (.ref x136) l5).bind fun x141 => s_X14_factorsOf_174 k30 l0 l2 l3 l4 l5 x141.toInt64 l4 x122 h120) else (if l7 = 0 then (s_X14_factorsOf_174 k30 l0 l2 l3 l4 l5 1 l4 x122 h120) else ((gO h120 (.ref l0) 14 4).bind fun x152 => (gO h120 (.ref x152) 13 1).bind fun x155 => (gO h120 (.ref l0) 14 4).bind fun x159 => (gO h120 (.ref x159) 13 13).bind fun x162 => (ldI .int h120 (.ref x162) l5).bind fun x167 => (ldI .int h120 (.ref x155) x167).bind fun x168 => s_X14_factorsOf_174 k30 l0 l2 l3 l4 l5 x168.toInt64 l4 x122 h120))
def s_X14_factorsOf_119 (k30 : Nat → Int32 → Int32 → Int32 → Int32 → aH → aO) (l0 : Nat) (l2 : Int32) (l3 : Int32) (l4 : Int32) (l5 : Int32) (l6 : Int32) (l7 : Int32) (s0 : Int32) (s1 : Nat) (h : aH) : aO :=
  s_X14_factorsOf_120 k30 l0 l2 l3 l4 l5 l6 l7 (-1) s0 s1 h
def s_X14_factorsOf_87 (k30 : Nat → Int32 → Int32 → Int32 → Int32 → aH → aO) (l0 : Nat) (l2 : Int32) (l3 : Int32) (l4 : Int32) (l5 : Int32) (l6 : Int32) (s0 : Int32) (h : aH) : aO :=
  (gO h (.ref l0) 14 48).bind fun x90 => if l6 = 1 then (if s0 = 0 then ((gO h (.ref l0) 14 4).bind fun x107 => (gO h (.ref x107) 13 13).bind fun x110 => (ldI .int h (.ref x110) l5).bind fun x115 => s_X14_factorsOf_120 k30 l0 l2 l3 l4 l5 l6 s0 x115 l4 x90 h) else (s_X14_factorsOf_119 k30 l0 l2 l3 l4 l5 l6 s0 l4 x90 h)) else (s_X14_factorsOf_119 k30 l0 l2 l3 l4 l5 l6 s0 l4 x90 h)
def s_X14_factorsOf_86 (k30 : Nat → Int32 → Int32 → Int32 → Int32 → aH → aO) (l0 : Nat) (l2 : Int32) (l3 : Int32) (l4 : Int32) (l5 : Int32) (l6 : Int32) (h : aH) : aO :=
  s_X14_factorsOf_87 k30 l0 l2 l3 l4 l5 l6 0 h
def s_X14_factorsOf_59 (k30 : Nat → Int32 → Int32 → Int32 → Int32 → aH → aO) (l0 : Nat) (l2 : Int32) (l3 : Int32) (l4 : Int32) (l5 : Int32) (l6 : Int32) (h : aH) : aO :=
  if l6 = 1 then ((gO h (.ref l0) 14 4).bind fun x66 => (gO h (.ref x66) 13 13).bind fun x69 => (ldI .int h (.ref x69) l5).bind fun x74 => cI (s_X14_slotOf 3 h) fun x76 h76 => if x74 < x76 then (s_X14_factorsOf_86 k30 l0 l2 l3 l4 l5 l6 h76) else (s_X14_factorsOf_87 k30 l0 l2 l3 l4 l5 l6 1 h76)) else (s_X14_factorsOf_86 k30 l0 l2 l3 l4 l5 l6 h)
def s_X14_factorsOf_342 (k30 : Nat → Int32 → Int32 → Int32 → Int32 → aH → aO) (l0 : Nat) (l2 : Int32) (l3 : Int32) (l4 : Int32) (l5 : Int32) (s0 : Int32) (s1 : Int32) (s2 : Nat) (h : aH) : aO :=
  kO h s2 14 (cN (s_X14_counts s2 s1 s0 h) fun h342 => (gO h342 (.ref l0) 14 48).bind fun x346 => (stI h342 (.ref x346) (l4 - 1) (-1)).bind fun h354 => k30 l0 l2 l3 l4 (l5 + 1) h354)
def s_X14_factorsOf_242 (k30 : Nat → Int32 → Int32 → Int32 → Int32 → aH → aO) (l0 : Nat) (l2 : Int32) (l3 : Int32) (l4 : Int32) (l5 : Int32) (s0 : Int32) (s1 : Int32) (s2 : Nat) (h : aH) : aO :=
  (stI h (.ref s2) s1 s0).bind fun h242 => (gO h242 (.ref l0) 14 49).bind fun x244 => (ldJ h242 (.ref x244) (l4 - 1)).bind fun x251 => (gO h242 (.ref l0) 14 49).bind fun x253 => (ldJ h242 (.ref x253) l4).bind fun x258 => (gO h242 (.ref l0) 14 49).bind fun x263 => (stJ h242 (.ref x263) (l4 - 1) (jmaxL (-1000000) (jminL 1000000 (x251 * x258)))).bind fun h284 => k30 l0 l2 l3 l4 (l5 + 1) h284
def s_X14_factorsOf_30_b  (k30 : Nat → Int32 → Int32 → Int32 → Int32 → aH → aO) (l0 : Nat) (l2 : Int32) (l3 : Int32) (l4 : Int32) (l5 : Int32) (h : aH) : aO :=
  if l2 ≤ l5 then (kO h l0 14 (cN (s_X14_counts l0 0 0 h) fun h364 => s_X14_factorsOf_370 FU l0 l3 0 h364)) else ((gO h (.ref l0) 14 4).bind fun x37 => (gO h (.ref x37) 13 12).bind fun x40 => (ldI .int h (.ref x40) l5).bind fun x45 => if x45 = 0 then (s_X14_factorsOf_59 k30 l0 l2 l3 l4 l5 x45 h) else (if x45 = 1 then (s_X14_factorsOf_59 k30 l0 l2 l3 l4 l5 x45 h) else (if x45 = 4 then ((gO h (.ref l0) 14 48).bind fun x191 => (ldI .int h (.ref x191) ((l4 + (-1)) - 1)).bind fun x198 => (gO h (.ref l0) 14 48).bind fun x202 => (ldI .int h (.ref x202) (l4 + (-1))).bind fun x207 => (gO h (.ref l0) 14 48).bind fun x211 => if x198 = (-1) then (s_X14_factorsOf_242 k30 l0 l2 l3 (l4 + (-1)) l5 x207 ((l4 + (-1)) - 1) x211 h) else (if x207 = (-1) then (s_X14_factorsOf_242 k30 l0 l2 l3 (l4 + (-1)) l5 x198 ((l4 + (-1)) - 1) x211 h) else (s_X14_factorsOf_242 k30 l0 l2 l3 (l4 + (-1)) l5 (-2) ((l4 + (-1)) - 1) x211 h))) else (if x45 = 5 then (kO h l0 14 (cN (s_X14_counts l0 (l4 - 1) 1 h) fun h300 => (gO h300 (.ref l0) 14 48).bind fun x304 => (stI h300 (.ref x304) (l4 - 1) (-1)).bind fun h312 => k30 l0 l2 l3 l4 (l5 + 1) h312)) else (kO h l0 14 (cN (s_X14_counts l0 ((l4 + (-1)) - 1) 0 h) fun h325 => if x45 = 3 then (s_X14_factorsOf_342 k30 l0 l2 l3 (l4 + (-1)) l5 1 (l4 + (-1)) l0 h325) else (s_X14_factorsOf_342 k30 l0 l2 l3 (l4 + (-1)) l5 0 (l4 + (-1)) l0 h325)))))))
def s_X14_factorsOf_30  (n : Nat) : Nat → Int32 → Int32 → Int32 → Int32 → aH → aO := lpF (fun _ _ _ _ _ _ => none) (s_X14_factorsOf_30_b ) n
def s_X14_factorsOf_3_b  (k3 : Nat → Int32 → Int32 → Int32 → Int32 → aH → aO) (l0 : Nat) (l1 : Int32) (l2 : Int32) (l3 : Int32) (l4 : Int32) (h : aH) : aO :=
  if 7 ≤ l4 then (s_X14_factorsOf_30 FU l0 l2 l3 0 l1 h) else ((gO h (.ref l0) 14 44).bind fun x11 => (stJ h (.ref x11) l4 0).bind fun h17 => k3 l0 l1 l2 l3 (l4 + 1) h17)
def s_X14_factorsOf_3  (n : Nat) : Nat → Int32 → Int32 → Int32 → Int32 → aH → aO := lpF (fun _ _ _ _ _ _ => none) (s_X14_factorsOf_3_b ) n
def s_X14_factorsOf (o : Nat) (a1 : Int32) (a2 : Int32) (a3 : Int32) (h : aH) : aO :=
  s_X14_factorsOf_3 FU o a1 a2 a3 0 h
section
variable {p : Program} {l : Launch} {e : Env} {s : State} {m : MethodId} {args : Array Value} {below : List Frame} {meth : Method} {c : Code} {D : va_G} {B0 : Nat} {X : Nat → Nat} {ws0 : va_W} {r : aR} {h' : aH} {mc ms : Nat}
theorem t_X14_factorsOf_417 (C : Cx p l s m args meth c B0 X RX14 "factorsOf" cX14_factorsOf 11 none []) {k370 : Nat → Int32 → Int32 → aH → aO} (K370 : ∀ (l0 : Nat) (l3 : Int32) (l5 : Int32) (h : aH), k370 l0 l3 l5 h = some (r, h') → Ev p l e { frames := 1, cells := mc, slots := ms, locals := 23 } s m args below meth c D B0 X ws0 r h' mc ms 11 mc ms 370 [some (.ref l0), none, none, some (.int l3), none, some (.int l5), none, none, none, none, none] [] h) {l0 : Nat} {l3 : Int32} {l5 : Int32} {s0 : Int32} {s1 : Nat} {h : aH} (hs : s_X14_factorsOf_417 k370 l0 l3 l5 s0 s1 h = some (r, h')) : Ev p l e { frames := 1, cells := mc, slots := ms, locals := 23 } s m args below meth c D B0 X ws0 r h' mc ms 11 mc ms 417 [some (.ref l0), none, none, some (.int l3), none, some (.int l5), none, none, none, none, none] [.int s0, .ref s1] h := by
  unfold s_X14_factorsOf_417 at hs
  obtain ⟨h417, e417, hs⟩ := aB hs
  refine ev_put C (ci := 14) (k := 50) rfl wu_14 (by decide) tyX14 tyX14_ok nmX14 wf_X14_543 rfl (pZ_F e417).2 (pZ_F e417).1 dX14_factorsOf_417 ?_
  refine ev_iinc C (i := 5) (n := 1) (x := l5) (v := l5 + 1) rfl (congrArg (fun z => l5 + z) (show Int32.ofInt 1 = 1 by decide)) (by decide) dX14_factorsOf_420 ?_
  refine ev_goto C (tgt := 370) (by decide) dX14_factorsOf_423 ?_
  exact (K370 _ _ _ _ hs)
theorem t_X14_factorsOf_416 (C : Cx p l s m args meth c B0 X RX14 "factorsOf" cX14_factorsOf 11 none []) {k370 : Nat → Int32 → Int32 → aH → aO} (K370 : ∀ (l0 : Nat) (l3 : Int32) (l5 : Int32) (h : aH), k370 l0 l3 l5 h = some (r, h') → Ev p l e { frames := 1, cells := mc, slots := ms, locals := 23 } s m args below meth c D B0 X ws0 r h' mc ms 11 mc ms 370 [some (.ref l0), none, none, some (.int l3), none, some (.int l5), none, none, none, none, none] [] h) {l0 : Nat} {l3 : Int32} {l5 : Int32} {s0 : Nat} {h : aH} (hs : s_X14_factorsOf_416 k370 l0 l3 l5 s0 h = some (r, h')) : Ev p l e { frames := 1, cells := mc, slots := ms, locals := 23 } s m args below meth c D B0 X ws0 r h' mc ms 11 mc ms 416 [some (.ref l0), none, none, some (.int l3), none, some (.int l5), none, none, none, none, none] [.ref s0] h := by
  unfold s_X14_factorsOf_416 at hs
  refine ev_iconst C (v := 0) dX14_factorsOf_416 (by decide) ?_
  exact (t_X14_factorsOf_417 C K370 hs)
theorem t_X14_factorsOf_370_b (C : Cx p l s m args meth c B0 X RX14 "factorsOf" cX14_factorsOf 11 none [])   {k370 : Nat → Int32 → Int32 → aH → aO} (K370 : ∀ (l0 : Nat) (l3 : Int32) (l5 : Int32) (h : aH), k370 l0 l3 l5 h = some (r, h') → Ev p l e { frames := 1, cells := mc, slots := ms, locals := 23 } s m args below meth c D B0 X ws0 r h' mc ms 11 mc ms 370 [some (.ref l0), none, none, some (.int l3), none, some (.int l5), none, none, none, none, none] [] h) {l0 : Nat} {l3 : Int32} {l5 : Int32} {h : aH} (hs : s_X14_factorsOf_370_b  k370 l0 l3 l5 h = some (r, h')) : Ev p l e { frames := 1, cells := mc, slots := ms, locals := 23 } s m args below meth c D B0 X ws0 r h' mc ms 11 mc ms 370 [some (.ref l0), none, none, some (.int l3), none, some (.int l5), none, none, none, none, none] [] h := by
  unfold s_X14_factorsOf_370_b at hs
  refine ev_iload C rfl dX14_factorsOf_370 ?_
  refine ev_iload_n C rfl dX14_factorsOf_372 ?_
  refine ev_icmp_ge C (tgt := 426) (by decide) dX14_factorsOf_373 (fun q373 => ?_) (fun q373 => ?_)
  · replace hs := (if_pos q373).symm.trans hs
    cases hs
    exact ev_vret C rfl rfl (Nat.le_refl _) (Nat.le_refl _) rfl dX14_factorsOf_426
  · replace hs := (if_neg q373).symm.trans hs
    refine ev_aload_n C (x := .ref l0) rfl trivial dX14_factorsOf_376 ?_
    refine ev_aload_n C (x := .ref l0) rfl trivial dX14_factorsOf_377 ?_
    obtain ⟨x378, e378, hs⟩ := aB hs
    refine ev_get C (ci := 14) (k := 50) rfl wu_14 (by decide) wf_X14_543 (gI_F e378) dX14_factorsOf_378 ?_
    refine ev_if_eq C (tgt := 416) (by decide) dX14_factorsOf_381 (fun q381 => ?_) (fun q381 => ?_)
    · replace hs := (if_pos q381).symm.trans hs
      exact (t_X14_factorsOf_416 C K370 hs)
    · replace hs := (if_neg q381).symm.trans hs
      refine ev_aload_n C (x := .ref l0) rfl trivial dX14_factorsOf_384 ?_
      obtain ⟨x385, e385, hs⟩ := aB hs
      refine ev_get C (ci := 14) (k := 44) rfl wu_14 (by decide) wf_X14_90 (gO_F e385) dX14_factorsOf_385 ?_
      refine ev_iload C rfl dX14_factorsOf_388 ?_
      obtain ⟨x390, e390, hs⟩ := aB hs
      refine ev_lald C e390 dX14_factorsOf_390 ?_
      refine ev_ldc2 C wv_X14_546 dX14_factorsOf_391 ?_
      refine ev_lcmp C dX14_factorsOf_394 ?_
      refine ev_if_lt C (tgt := 416) (by decide) dX14_factorsOf_395 (fun q395 => ?_) (fun q395 => ?_)
      · replace hs := (if_pos q395).symm.trans hs
        exact (t_X14_factorsOf_416 C K370 hs)
      · replace hs := (if_neg q395).symm.trans hs
        refine ev_aload_n C (x := .ref l0) rfl trivial dX14_factorsOf_398 ?_
        obtain ⟨x399, e399, hs⟩ := aB hs
        refine ev_get C (ci := 14) (k := 44) rfl wu_14 (by decide) wf_X14_90 (gO_F e399) dX14_factorsOf_399 ?_
        refine ev_iload C rfl dX14_factorsOf_402 ?_
        obtain ⟨x404, e404, hs⟩ := aB hs
        refine ev_lald C e404 dX14_factorsOf_404 ?_
        refine ev_ldc2 C wv_X14_548 dX14_factorsOf_405 ?_
        refine ev_lcmp C dX14_factorsOf_408 ?_
        refine ev_if_gt C (tgt := 416) (by decide) dX14_factorsOf_409 (fun q409 => ?_) (fun q409 => ?_)
        · replace hs := (if_pos q409).symm.trans hs
          exact (t_X14_factorsOf_416 C K370 hs)
        · replace hs := (if_neg q409).symm.trans hs
          refine ev_iconst C (v := 1) dX14_factorsOf_412 (by decide) ?_
          refine ev_goto C (tgt := 417) (by decide) dX14_factorsOf_413 ?_
          exact (t_X14_factorsOf_417 C K370 hs)
theorem t_X14_factorsOf_370 (C : Cx p l s m args meth c B0 X RX14 "factorsOf" cX14_factorsOf 11 none [])   : ∀ (n : Nat) {l0 : Nat} {l3 : Int32} {l5 : Int32} {h : aH} (hs : s_X14_factorsOf_370  n l0 l3 l5 h = some (r, h')), Ev p l e { frames := 1, cells := mc, slots := ms, locals := 23 } s m args below meth c D B0 X ws0 r h' mc ms 11 mc ms 370 [some (.ref l0), none, none, some (.int l3), none, some (.int l5), none, none, none, none, none] [] h
  | 0, _, _, _, _, hs => nomatch hs
  | n + 1, _, _, _, _, hs => t_X14_factorsOf_370_b C  (k370 := s_X14_factorsOf_370  n) (fun _ _ _ _ hs => t_X14_factorsOf_370 C  n hs) hs
theorem t_X14_factorsOf_174 (C : Cx p l s m args meth c B0 X RX14 "factorsOf" cX14_factorsOf 11 none []) {k30 : Nat → Int32 → Int32 → Int32 → Int32 → aH → aO} (K30 : ∀ (l0 : Nat) (l2 : Int32) (l3 : Int32) (l4 : Int32) (l5 : Int32) (h : aH), k30 l0 l2 l3 l4 l5 h = some (r, h') → Ev p l e { frames := 1, cells := mc, slots := ms, locals := 23 } s m args below meth c D B0 X ws0 r h' mc ms 11 mc ms 30 [some (.ref l0), none, some (.int l2), some (.int l3), some (.int l4), some (.int l5), none, none, none, none, none] [] h) {l0 : Nat} {l2 : Int32} {l3 : Int32} {l4 : Int32} {l5 : Int32} {s0 : Int64} {s1 : Int32} {s2 : Nat} {h : aH} (hs : s_X14_factorsOf_174 k30 l0 l2 l3 l4 l5 s0 s1 s2 h = some (r, h')) : Ev p l e { frames := 1, cells := mc, slots := ms, locals := 23 } s m args below meth c D B0 X ws0 r h' mc ms 11 mc ms 174 [some (.ref l0), none, some (.int l2), some (.int l3), some (.int l4), some (.int l5), none, none, none, none, none] [.long s0, .int s1, .ref s2] h := by
  unfold s_X14_factorsOf_174 at hs
  obtain ⟨h174, e174, hs⟩ := aB hs
  refine ev_last C e174 dX14_factorsOf_174 ?_
  refine ev_iinc C (i := 4) (n := 1) (x := l4) (v := l4 + 1) rfl (congrArg (fun z => l4 + z) (show Int32.ofInt 1 = 1 by decide)) (by decide) dX14_factorsOf_175 ?_
  refine ev_goto C (tgt := 355) (by decide) dX14_factorsOf_178 ?_
  refine ev_iinc C (i := 5) (n := 1) (x := l5) (v := l5 + 1) rfl (congrArg (fun z => l5 + z) (show Int32.ofInt 1 = 1 by decide)) (by decide) dX14_factorsOf_355 ?_
  refine ev_goto C (tgt := 30) (by decide) dX14_factorsOf_358 ?_
  exact (K30 _ _ _ _ _ _ hs)
theorem t_X14_factorsOf_120 (C : Cx p l s m args meth c B0 X RX14 "factorsOf" cX14_factorsOf 11 none []) {k30 : Nat → Int32 → Int32 → Int32 → Int32 → aH → aO} (K30 : ∀ (l0 : Nat) (l2 : Int32) (l3 : Int32) (l4 : Int32) (l5 : Int32) (h : aH), k30 l0 l2 l3 l4 l5 h = some (r, h') → Ev p l e { frames := 1, cells := mc, slots := ms, locals := 23 } s m args below meth c D B0 X ws0 r h' mc ms 11 mc ms 30 [some (.ref l0), none, some (.int l2), some (.int l3), some (.int l4), some (.int l5), none, none, none, none, none] [] h) {l0 : Nat} {l2 : Int32} {l3 : Int32} {l4 : Int32} {l5 : Int32} {l6 : Int32} {l7 : Int32} {s0 : Int32} {s1 : Int32} {s2 : Nat} {h : aH} (hs : s_X14_factorsOf_120 k30 l0 l2 l3 l4 l5 l6 l7 s0 s1 s2 h = some (r, h')) : Ev p l e { frames := 1, cells := mc, slots := ms, locals := 23 } s m args below meth c D B0 X ws0 r h' mc ms 11 mc ms 120 [some (.ref l0), none, some (.int l2), some (.int l3), some (.int l4), some (.int l5), some (.int l6), some (.int l7), none, none, none] [.int s0, .int s1, .ref s2] h := by
  unfold s_X14_factorsOf_120 at hs
  obtain ⟨h120, e120, hs⟩ := aB hs
  refine ev_iast C e120 dX14_factorsOf_120 ?_
  refine ev_aload_n C (x := .ref l0) rfl trivial dX14_factorsOf_121 ?_
  obtain ⟨x122, e122, hs⟩ := aB hs
  refine ev_get C (ci := 14) (k := 49) rfl wu_14 (by decide) wf_X14_106 (gO_F e122) dX14_factorsOf_122 ?_
  refine ev_iload C rfl dX14_factorsOf_125 ?_
  refine ev_iload C rfl dX14_factorsOf_127 ?_
  refine ev_if_ne C (tgt := 146) (by decide) dX14_factorsOf_129 (fun q129 => ?_) (fun q129 => ?_)
  · replace hs := (if_neg q129).symm.trans hs
    refine ev_iload C rfl dX14_factorsOf_146 ?_
    refine ev_if_eq C (tgt := 173) (by decide) dX14_factorsOf_148 (fun q148 => ?_) (fun q148 => ?_)
    · replace hs := (if_pos q148).symm.trans hs
      refine ev_lconst C (v := 1) dX14_factorsOf_173 (by decide) ?_
      exact Ev.keep [true, true, true, true, true, true, false, false, true, true, true] (t_X14_factorsOf_174 C K30 hs)
    · replace hs := (if_neg q148).symm.trans hs
      refine ev_aload_n C (x := .ref l0) rfl trivial dX14_factorsOf_151 ?_
      obtain ⟨x152, e152, hs⟩ := aB hs
      refine ev_get C (ci := 14) (k := 4) rfl wu_14 (by decide) wf_X14_376 (gO_F e152) dX14_factorsOf_152 ?_
      obtain ⟨x155, e155, hs⟩ := aB hs
      refine ev_getN C (ci := 13) (k := 1) rfl wu_13 (by decide) wg_X14_307 (gO_F e155) dX14_factorsOf_155 ?_
      refine ev_aload_n C (x := .ref l0) rfl trivial dX14_factorsOf_158 ?_
      obtain ⟨x159, e159, hs⟩ := aB hs
      refine ev_get C (ci := 14) (k := 4) rfl wu_14 (by decide) wf_X14_376 (gO_F e159) dX14_factorsOf_159 ?_
      obtain ⟨x162, e162, hs⟩ := aB hs
      refine ev_getN C (ci := 13) (k := 13) rfl wu_13 (by decide) wg_X14_433 (gO_F e162) dX14_factorsOf_162 ?_
      refine ev_iload C rfl dX14_factorsOf_165 ?_
      obtain ⟨x167, e167, hs⟩ := aB hs
      refine ev_iald C e167 dX14_factorsOf_167 ?_
      obtain ⟨x168, e168, hs⟩ := aB hs
      refine ev_iald C e168 dX14_factorsOf_168 ?_
      refine ev_i2l C dX14_factorsOf_169 ?_
      refine ev_goto C (tgt := 174) (by decide) dX14_factorsOf_170 ?_
      exact Ev.keep [true, true, true, true, true, true, false, false, true, true, true] (t_X14_factorsOf_174 C K30 hs)
  · replace hs := (if_pos q129).symm.trans hs
    refine ev_aload_n C (x := .ref l0) rfl trivial dX14_factorsOf_132 ?_
    obtain ⟨x133, e133, hs⟩ := aB hs
    refine ev_get C (ci := 14) (k := 4) rfl wu_14 (by decide) wf_X14_376 (gO_F e133) dX14_factorsOf_133 ?_
    obtain ⟨x136, e136, hs⟩ := aB hs
    refine ev_getN C (ci := 13) (k := 13) rfl wu_13 (by decide) wg_X14_433 (gO_F e136) dX14_factorsOf_136 ?_
    refine ev_iload C rfl dX14_factorsOf_139 ?_
    obtain ⟨x141, e141, hs⟩ := aB hs
    refine ev_iald C e141 dX14_factorsOf_141 ?_
    refine ev_i2l C dX14_factorsOf_142 ?_
    refine ev_goto C (tgt := 174) (by decide) dX14_factorsOf_143 ?_
    exact Ev.keep [true, true, true, true, true, true, false, false, true, true, true] (t_X14_factorsOf_174 C K30 hs)
theorem t_X14_factorsOf_119 (C : Cx p l s m args meth c B0 X RX14 "factorsOf" cX14_factorsOf 11 none []) {k30 : Nat → Int32 → Int32 → Int32 → Int32 → aH → aO} (K30 : ∀ (l0 : Nat) (l2 : Int32) (l3 : Int32) (l4 : Int32) (l5 : Int32) (h : aH), k30 l0 l2 l3 l4 l5 h = some (r, h') → Ev p l e { frames := 1, cells := mc, slots := ms, locals := 23 } s m args below meth c D B0 X ws0 r h' mc ms 11 mc ms 30 [some (.ref l0), none, some (.int l2), some (.int l3), some (.int l4), some (.int l5), none, none, none, none, none] [] h) {l0 : Nat} {l2 : Int32} {l3 : Int32} {l4 : Int32} {l5 : Int32} {l6 : Int32} {l7 : Int32} {s0 : Int32} {s1 : Nat} {h : aH} (hs : s_X14_factorsOf_119 k30 l0 l2 l3 l4 l5 l6 l7 s0 s1 h = some (r, h')) : Ev p l e { frames := 1, cells := mc, slots := ms, locals := 23 } s m args below meth c D B0 X ws0 r h' mc ms 11 mc ms 119 [some (.ref l0), none, some (.int l2), some (.int l3), some (.int l4), some (.int l5), some (.int l6), some (.int l7), none, none, none] [.int s0, .ref s1] h := by
  unfold s_X14_factorsOf_119 at hs
  refine ev_iconst C (v := (-1)) dX14_factorsOf_119 (by decide) ?_
  exact (t_X14_factorsOf_120 C K30 hs)
theorem t_X14_factorsOf_87 (C : Cx p l s m args meth c B0 X RX14 "factorsOf" cX14_factorsOf 11 none []) {k30 : Nat → Int32 → Int32 → Int32 → Int32 → aH → aO} (K30 : ∀ (l0 : Nat) (l2 : Int32) (l3 : Int32) (l4 : Int32) (l5 : Int32) (h : aH), k30 l0 l2 l3 l4 l5 h = some (r, h') → Ev p l e { frames := 1, cells := mc, slots := ms, locals := 23 } s m args below meth c D B0 X ws0 r h' mc ms 11 mc ms 30 [some (.ref l0), none, some (.int l2), some (.int l3), some (.int l4), some (.int l5), none, none, none, none, none] [] h) {l0 : Nat} {l2 : Int32} {l3 : Int32} {l4 : Int32} {l5 : Int32} {l6 : Int32} {s0 : Int32} {h : aH} (hs : s_X14_factorsOf_87 k30 l0 l2 l3 l4 l5 l6 s0 h = some (r, h')) : Ev p l e { frames := 1, cells := mc, slots := ms, locals := 23 } s m args below meth c D B0 X ws0 r h' mc ms 11 mc ms 87 [some (.ref l0), none, some (.int l2), some (.int l3), some (.int l4), some (.int l5), some (.int l6), none, none, none, none] [.int s0] h := by
  unfold s_X14_factorsOf_87 at hs
  refine ev_istore C (by decide) dX14_factorsOf_87 ?_
  refine ev_aload_n C (x := .ref l0) rfl trivial dX14_factorsOf_89 ?_
  obtain ⟨x90, e90, hs⟩ := aB hs
  refine ev_get C (ci := 14) (k := 48) rfl wu_14 (by decide) wf_X14_103 (gO_F e90) dX14_factorsOf_90 ?_
  refine ev_iload C rfl dX14_factorsOf_93 ?_
  refine ev_iload C rfl dX14_factorsOf_95 ?_
  refine ev_iconst C (v := 1) dX14_factorsOf_97 (by decide) ?_
  refine ev_icmp_ne C (tgt := 119) (by decide) dX14_factorsOf_98 (fun q98 => ?_) (fun q98 => ?_)
  · replace hs := (if_neg q98).symm.trans hs
    exact (t_X14_factorsOf_119 C K30 hs)
  · replace hs := (if_pos q98).symm.trans hs
    refine ev_iload C rfl dX14_factorsOf_101 ?_
    refine ev_if_ne C (tgt := 119) (by decide) dX14_factorsOf_103 (fun q103 => ?_) (fun q103 => ?_)
    · replace hs := (if_neg q103).symm.trans hs
      exact (t_X14_factorsOf_119 C K30 hs)
    · replace hs := (if_pos q103).symm.trans hs
      refine ev_aload_n C (x := .ref l0) rfl trivial dX14_factorsOf_106 ?_
      obtain ⟨x107, e107, hs⟩ := aB hs
      refine ev_get C (ci := 14) (k := 4) rfl wu_14 (by decide) wf_X14_376 (gO_F e107) dX14_factorsOf_107 ?_
      obtain ⟨x110, e110, hs⟩ := aB hs
      refine ev_getN C (ci := 13) (k := 13) rfl wu_13 (by decide) wg_X14_433 (gO_F e110) dX14_factorsOf_110 ?_
      refine ev_iload C rfl dX14_factorsOf_113 ?_
      obtain ⟨x115, e115, hs⟩ := aB hs
      refine ev_iald C e115 dX14_factorsOf_115 ?_
      refine ev_goto C (tgt := 120) (by decide) dX14_factorsOf_116 ?_
      exact (t_X14_factorsOf_120 C K30 hs)
theorem t_X14_factorsOf_86 (C : Cx p l s m args meth c B0 X RX14 "factorsOf" cX14_factorsOf 11 none []) {k30 : Nat → Int32 → Int32 → Int32 → Int32 → aH → aO} (K30 : ∀ (l0 : Nat) (l2 : Int32) (l3 : Int32) (l4 : Int32) (l5 : Int32) (h : aH), k30 l0 l2 l3 l4 l5 h = some (r, h') → Ev p l e { frames := 1, cells := mc, slots := ms, locals := 23 } s m args below meth c D B0 X ws0 r h' mc ms 11 mc ms 30 [some (.ref l0), none, some (.int l2), some (.int l3), some (.int l4), some (.int l5), none, none, none, none, none] [] h) {l0 : Nat} {l2 : Int32} {l3 : Int32} {l4 : Int32} {l5 : Int32} {l6 : Int32} {h : aH} (hs : s_X14_factorsOf_86 k30 l0 l2 l3 l4 l5 l6 h = some (r, h')) : Ev p l e { frames := 1, cells := mc, slots := ms, locals := 23 } s m args below meth c D B0 X ws0 r h' mc ms 11 mc ms 86 [some (.ref l0), none, some (.int l2), some (.int l3), some (.int l4), some (.int l5), some (.int l6), none, none, none, none] [] h := by
  unfold s_X14_factorsOf_86 at hs
  refine ev_iconst C (v := 0) dX14_factorsOf_86 (by decide) ?_
  exact (t_X14_factorsOf_87 C K30 hs)
theorem t_X14_factorsOf_59 (C : Cx p l s m args meth c B0 X RX14 "factorsOf" cX14_factorsOf 11 none []) {k30 : Nat → Int32 → Int32 → Int32 → Int32 → aH → aO} (K30 : ∀ (l0 : Nat) (l2 : Int32) (l3 : Int32) (l4 : Int32) (l5 : Int32) (h : aH), k30 l0 l2 l3 l4 l5 h = some (r, h') → Ev p l e { frames := 1, cells := mc, slots := ms, locals := 23 } s m args below meth c D B0 X ws0 r h' mc ms 11 mc ms 30 [some (.ref l0), none, some (.int l2), some (.int l3), some (.int l4), some (.int l5), none, none, none, none, none] [] h) {l0 : Nat} {l2 : Int32} {l3 : Int32} {l4 : Int32} {l5 : Int32} {l6 : Int32} {h : aH} (hs : s_X14_factorsOf_59 k30 l0 l2 l3 l4 l5 l6 h = some (r, h')) : Ev p l e { frames := 1, cells := mc, slots := ms, locals := 23 } s m args below meth c D B0 X ws0 r h' mc ms 11 mc ms 59 [some (.ref l0), none, some (.int l2), some (.int l3), some (.int l4), some (.int l5), some (.int l6), none, none, none, none] [] h := by
  unfold s_X14_factorsOf_59 at hs
  refine ev_iload C rfl dX14_factorsOf_59 ?_
  refine ev_iconst C (v := 1) dX14_factorsOf_61 (by decide) ?_
  refine ev_icmp_ne C (tgt := 86) (by decide) dX14_factorsOf_62 (fun q62 => ?_) (fun q62 => ?_)
  · replace hs := (if_neg q62).symm.trans hs
    exact (t_X14_factorsOf_86 C K30 hs)
  · replace hs := (if_pos q62).symm.trans hs
    refine ev_aload_n C (x := .ref l0) rfl trivial dX14_factorsOf_65 ?_
    obtain ⟨x66, e66, hs⟩ := aB hs
    refine ev_get C (ci := 14) (k := 4) rfl wu_14 (by decide) wf_X14_376 (gO_F e66) dX14_factorsOf_66 ?_
    obtain ⟨x69, e69, hs⟩ := aB hs
    refine ev_getN C (ci := 13) (k := 13) rfl wu_13 (by decide) wg_X14_433 (gO_F e69) dX14_factorsOf_69 ?_
    refine ev_iload C rfl dX14_factorsOf_72 ?_
    obtain ⟨x74, e74, hs⟩ := aB hs
    refine ev_iald C e74 dX14_factorsOf_74 ?_
    refine ev_iconst C (v := 3) dX14_factorsOf_75 (by decide) ?_
    obtain ⟨x76, h76, e76, hs⟩ := cI_at hs
    refine ev_callS C (T_X14_slotOf _ _ _ _ e76) wc_X14_slotOf wm_X14_246 wt_X14_slotOf wz_X14 hy_X14_slotOf ⟨(Nat.le_of_ble_eq_true rfl), (Nat.le_of_ble_eq_true rfl)⟩ ⟨(Nat.le_refl _), (Nat.le_refl _)⟩ (Nat.le_of_ble_eq_true rfl) rfl dX14_factorsOf_76 ?_
    refine ev_icmp_lt C (tgt := 86) (by decide) dX14_factorsOf_79 (fun q79 => ?_) (fun q79 => ?_)
    · replace hs := (if_pos q79).symm.trans hs
      exact (t_X14_factorsOf_86 C K30 hs)
    · replace hs := (if_neg q79).symm.trans hs
      refine ev_iconst C (v := 1) dX14_factorsOf_82 (by decide) ?_
      refine ev_goto C (tgt := 87) (by decide) dX14_factorsOf_83 ?_
      exact (t_X14_factorsOf_87 C K30 hs)
theorem t_X14_factorsOf_342 (C : Cx p l s m args meth c B0 X RX14 "factorsOf" cX14_factorsOf 11 none []) {k30 : Nat → Int32 → Int32 → Int32 → Int32 → aH → aO} (K30 : ∀ (l0 : Nat) (l2 : Int32) (l3 : Int32) (l4 : Int32) (l5 : Int32) (h : aH), k30 l0 l2 l3 l4 l5 h = some (r, h') → Ev p l e { frames := 1, cells := mc, slots := ms, locals := 23 } s m args below meth c D B0 X ws0 r h' mc ms 11 mc ms 30 [some (.ref l0), none, some (.int l2), some (.int l3), some (.int l4), some (.int l5), none, none, none, none, none] [] h) {l0 : Nat} {l2 : Int32} {l3 : Int32} {l4 : Int32} {l5 : Int32} {s0 : Int32} {s1 : Int32} {s2 : Nat} {h : aH} (hs : s_X14_factorsOf_342 k30 l0 l2 l3 l4 l5 s0 s1 s2 h = some (r, h')) : Ev p l e { frames := 1, cells := mc, slots := ms, locals := 23 } s m args below meth c D B0 X ws0 r h' mc ms 11 mc ms 342 [some (.ref l0), none, some (.int l2), some (.int l3), some (.int l4), some (.int l5), none, none, none, none, none] [.int s0, .int s1, .ref s2] h := by
  unfold s_X14_factorsOf_342 at hs
  obtain ⟨eo342, hs⟩ := kO_at hs
  obtain ⟨h342, e342, hs⟩ := cN_at hs
  refine ev_callV C (T_X14_counts _ _ _ _ _ _ e342) (ci := 14) rfl eo342 wc_X14_counts wm_X14_550 wi_X14_counts ws_X14_counts wz_X14 hy_X14_counts ⟨(Nat.le_of_ble_eq_true rfl), (Nat.le_of_ble_eq_true rfl)⟩ ⟨(Nat.le_refl _), (Nat.le_refl _)⟩ (Nat.le_of_ble_eq_true rfl) rfl dX14_factorsOf_342 ?_
  refine ev_aload_n C (x := .ref l0) rfl trivial dX14_factorsOf_345 ?_
  obtain ⟨x346, e346, hs⟩ := aB hs
  refine ev_get C (ci := 14) (k := 48) rfl wu_14 (by decide) wf_X14_103 (gO_F e346) dX14_factorsOf_346 ?_
  refine ev_iload C rfl dX14_factorsOf_349 ?_
  refine ev_iconst C (v := 1) dX14_factorsOf_351 (by decide) ?_
  refine ev_isub C dX14_factorsOf_352 ?_
  refine ev_iconst C (v := (-1)) dX14_factorsOf_353 (by decide) ?_
  obtain ⟨h354, e354, hs⟩ := aB hs
  refine ev_iast C e354 dX14_factorsOf_354 ?_
  refine ev_iinc C (i := 5) (n := 1) (x := l5) (v := l5 + 1) rfl (congrArg (fun z => l5 + z) (show Int32.ofInt 1 = 1 by decide)) (by decide) dX14_factorsOf_355 ?_
  refine ev_goto C (tgt := 30) (by decide) dX14_factorsOf_358 ?_
  exact (K30 _ _ _ _ _ _ hs)
theorem t_X14_factorsOf_242 (C : Cx p l s m args meth c B0 X RX14 "factorsOf" cX14_factorsOf 11 none []) {k30 : Nat → Int32 → Int32 → Int32 → Int32 → aH → aO} (K30 : ∀ (l0 : Nat) (l2 : Int32) (l3 : Int32) (l4 : Int32) (l5 : Int32) (h : aH), k30 l0 l2 l3 l4 l5 h = some (r, h') → Ev p l e { frames := 1, cells := mc, slots := ms, locals := 23 } s m args below meth c D B0 X ws0 r h' mc ms 11 mc ms 30 [some (.ref l0), none, some (.int l2), some (.int l3), some (.int l4), some (.int l5), none, none, none, none, none] [] h) {l0 : Nat} {l2 : Int32} {l3 : Int32} {l4 : Int32} {l5 : Int32} {s0 : Int32} {s1 : Int32} {s2 : Nat} {h : aH} (hs : s_X14_factorsOf_242 k30 l0 l2 l3 l4 l5 s0 s1 s2 h = some (r, h')) : Ev p l e { frames := 1, cells := mc, slots := ms, locals := 23 } s m args below meth c D B0 X ws0 r h' mc ms 11 mc ms 242 [some (.ref l0), none, some (.int l2), some (.int l3), some (.int l4), some (.int l5), none, none, none, none, none] [.int s0, .int s1, .ref s2] h := by
  unfold s_X14_factorsOf_242 at hs
  obtain ⟨h242, e242, hs⟩ := aB hs
  refine ev_iast C e242 dX14_factorsOf_242 ?_
  refine ev_aload_n C (x := .ref l0) rfl trivial dX14_factorsOf_243 ?_
  obtain ⟨x244, e244, hs⟩ := aB hs
  refine ev_get C (ci := 14) (k := 49) rfl wu_14 (by decide) wf_X14_106 (gO_F e244) dX14_factorsOf_244 ?_
  refine ev_iload C rfl dX14_factorsOf_247 ?_
  refine ev_iconst C (v := 1) dX14_factorsOf_249 (by decide) ?_
  refine ev_isub C dX14_factorsOf_250 ?_
  obtain ⟨x251, e251, hs⟩ := aB hs
  refine ev_lald C e251 dX14_factorsOf_251 ?_
  refine ev_aload_n C (x := .ref l0) rfl trivial dX14_factorsOf_252 ?_
  obtain ⟨x253, e253, hs⟩ := aB hs
  refine ev_get C (ci := 14) (k := 49) rfl wu_14 (by decide) wf_X14_106 (gO_F e253) dX14_factorsOf_253 ?_
  refine ev_iload C rfl dX14_factorsOf_256 ?_
  obtain ⟨x258, e258, hs⟩ := aB hs
  refine ev_lald C e258 dX14_factorsOf_258 ?_
  refine ev_lmul C dX14_factorsOf_259 ?_
  refine ev_lstore C (by decide) dX14_factorsOf_260 ?_
  refine ev_aload_n C (x := .ref l0) rfl trivial dX14_factorsOf_262 ?_
  obtain ⟨x263, e263, hs⟩ := aB hs
  refine ev_get C (ci := 14) (k := 49) rfl wu_14 (by decide) wf_X14_106 (gO_F e263) dX14_factorsOf_263 ?_
  refine ev_iload C rfl dX14_factorsOf_266 ?_
  refine ev_iconst C (v := 1) dX14_factorsOf_268 (by decide) ?_
  refine ev_isub C dX14_factorsOf_269 ?_
  refine ev_ldc2 C wv_X14_436 dX14_factorsOf_270 ?_
  refine ev_ldc2 C wv_X14_438 dX14_factorsOf_273 ?_
  refine ev_lload C rfl dX14_factorsOf_276 ?_
  refine ev_mminL C wm_X14_440 wt_mminL wz_J9 wc_mminL (Nat.le_of_ble_eq_true rfl) (Nat.le_of_ble_eq_true rfl) (Nat.le_refl _) (Nat.le_refl _) dX14_factorsOf_278 ?_
  refine ev_mmaxL C wm_X14_446 wt_mmaxL wz_J9 wc_mmaxL (Nat.le_of_ble_eq_true rfl) (Nat.le_of_ble_eq_true rfl) (Nat.le_refl _) (Nat.le_refl _) dX14_factorsOf_281 ?_
  obtain ⟨h284, e284, hs⟩ := aB hs
  refine ev_last C e284 dX14_factorsOf_284 ?_
  refine ev_goto C (tgt := 355) (by decide) dX14_factorsOf_285 ?_
  refine ev_iinc C (i := 5) (n := 1) (x := l5) (v := l5 + 1) rfl (congrArg (fun z => l5 + z) (show Int32.ofInt 1 = 1 by decide)) (by decide) dX14_factorsOf_355 ?_
  refine ev_goto C (tgt := 30) (by decide) dX14_factorsOf_358 ?_
  exact Ev.keep [true, true, true, true, true, true, true, true, true, false, true] (K30 _ _ _ _ _ _ hs)
theorem t_X14_factorsOf_30_b (C : Cx p l s m args meth c B0 X RX14 "factorsOf" cX14_factorsOf 11 none [])   {k30 : Nat → Int32 → Int32 → Int32 → Int32 → aH → aO} (K30 : ∀ (l0 : Nat) (l2 : Int32) (l3 : Int32) (l4 : Int32) (l5 : Int32) (h : aH), k30 l0 l2 l3 l4 l5 h = some (r, h') → Ev p l e { frames := 1, cells := mc, slots := ms, locals := 23 } s m args below meth c D B0 X ws0 r h' mc ms 11 mc ms 30 [some (.ref l0), none, some (.int l2), some (.int l3), some (.int l4), some (.int l5), none, none, none, none, none] [] h) {l0 : Nat} {l2 : Int32} {l3 : Int32} {l4 : Int32} {l5 : Int32} {h : aH} (hs : s_X14_factorsOf_30_b  k30 l0 l2 l3 l4 l5 h = some (r, h')) : Ev p l e { frames := 1, cells := mc, slots := ms, locals := 23 } s m args below meth c D B0 X ws0 r h' mc ms 11 mc ms 30 [some (.ref l0), none, some (.int l2), some (.int l3), some (.int l4), some (.int l5), none, none, none, none, none] [] h := by
  unfold s_X14_factorsOf_30_b at hs
  refine ev_iload C rfl dX14_factorsOf_30 ?_
  refine ev_iload_n C rfl dX14_factorsOf_32 ?_
  refine ev_icmp_ge C (tgt := 361) (by decide) dX14_factorsOf_33 (fun q33 => ?_) (fun q33 => ?_)
  · replace hs := (if_pos q33).symm.trans hs
    refine ev_aload_n C (x := .ref l0) rfl trivial dX14_factorsOf_361 ?_
    refine ev_iconst C (v := 0) dX14_factorsOf_362 (by decide) ?_
    refine ev_iconst C (v := 0) dX14_factorsOf_363 (by decide) ?_
    obtain ⟨eo364, hs⟩ := kO_at hs
    obtain ⟨h364, e364, hs⟩ := cN_at hs
    refine ev_callV C (T_X14_counts _ _ _ _ _ _ e364) (ci := 14) rfl eo364 wc_X14_counts wm_X14_550 wi_X14_counts ws_X14_counts wz_X14 hy_X14_counts ⟨(Nat.le_of_ble_eq_true rfl), (Nat.le_of_ble_eq_true rfl)⟩ ⟨(Nat.le_refl _), (Nat.le_refl _)⟩ (Nat.le_of_ble_eq_true rfl) rfl dX14_factorsOf_364 ?_
    refine ev_iconst C (v := 0) dX14_factorsOf_367 (by decide) ?_
    refine ev_istore C (by decide) dX14_factorsOf_368 ?_
    exact Ev.keep [true, true, false, true, false, true, true, true, true, true, true] (t_X14_factorsOf_370 C  FU hs)
  · replace hs := (if_neg q33).symm.trans hs
    refine ev_aload_n C (x := .ref l0) rfl trivial dX14_factorsOf_36 ?_
    obtain ⟨x37, e37, hs⟩ := aB hs
    refine ev_get C (ci := 14) (k := 4) rfl wu_14 (by decide) wf_X14_376 (gO_F e37) dX14_factorsOf_37 ?_
    obtain ⟨x40, e40, hs⟩ := aB hs
    refine ev_getN C (ci := 13) (k := 12) rfl wu_13 (by decide) wg_X14_430 (gO_F e40) dX14_factorsOf_40 ?_
    refine ev_iload C rfl dX14_factorsOf_43 ?_
    obtain ⟨x45, e45, hs⟩ := aB hs
    refine ev_iald C e45 dX14_factorsOf_45 ?_
    refine ev_istore C (by decide) dX14_factorsOf_46 ?_
    refine ev_iload C rfl dX14_factorsOf_48 ?_
    refine ev_if_eq C (tgt := 59) (by decide) dX14_factorsOf_50 (fun q50 => ?_) (fun q50 => ?_)
    · replace hs := (if_pos q50).symm.trans hs
      exact (t_X14_factorsOf_59 C K30 hs)
    · replace hs := (if_neg q50).symm.trans hs
      refine ev_iload C rfl dX14_factorsOf_53 ?_
      refine ev_iconst C (v := 1) dX14_factorsOf_55 (by decide) ?_
      refine ev_icmp_ne C (tgt := 181) (by decide) dX14_factorsOf_56 (fun q56 => ?_) (fun q56 => ?_)
      · replace hs := (if_neg q56).symm.trans hs
        refine ev_iload C rfl dX14_factorsOf_181 ?_
        refine ev_iconst C (v := 4) dX14_factorsOf_183 (by decide) ?_
        refine ev_icmp_ne C (tgt := 288) (by decide) dX14_factorsOf_184 (fun q184 => ?_) (fun q184 => ?_)
        · replace hs := (if_neg q184).symm.trans hs
          refine ev_iload C rfl dX14_factorsOf_288 ?_
          refine ev_iconst C (v := 5) dX14_factorsOf_290 (by decide) ?_
          refine ev_icmp_ne C (tgt := 316) (by decide) dX14_factorsOf_291 (fun q291 => ?_) (fun q291 => ?_)
          · replace hs := (if_neg q291).symm.trans hs
            refine ev_iinc C (i := 4) (n := -1) (x := l4) (v := l4 + (-1)) rfl (congrArg (fun z => l4 + z) (show Int32.ofInt (-1) = (-1) by decide)) (by decide) dX14_factorsOf_316 ?_
            refine ev_aload_n C (x := .ref l0) rfl trivial dX14_factorsOf_319 ?_
            refine ev_iload C rfl dX14_factorsOf_320 ?_
            refine ev_iconst C (v := 1) dX14_factorsOf_322 (by decide) ?_
            refine ev_isub C dX14_factorsOf_323 ?_
            refine ev_iconst C (v := 0) dX14_factorsOf_324 (by decide) ?_
            obtain ⟨eo325, hs⟩ := kO_at hs
            obtain ⟨h325, e325, hs⟩ := cN_at hs
            refine ev_callV C (T_X14_counts _ _ _ _ _ _ e325) (ci := 14) rfl eo325 wc_X14_counts wm_X14_550 wi_X14_counts ws_X14_counts wz_X14 hy_X14_counts ⟨(Nat.le_of_ble_eq_true rfl), (Nat.le_of_ble_eq_true rfl)⟩ ⟨(Nat.le_refl _), (Nat.le_refl _)⟩ (Nat.le_of_ble_eq_true rfl) rfl dX14_factorsOf_325 ?_
            refine ev_aload_n C (x := .ref l0) rfl trivial dX14_factorsOf_328 ?_
            refine ev_iload C rfl dX14_factorsOf_329 ?_
            refine ev_iload C rfl dX14_factorsOf_331 ?_
            refine ev_iconst C (v := 3) dX14_factorsOf_333 (by decide) ?_
            refine ev_icmp_ne C (tgt := 341) (by decide) dX14_factorsOf_334 (fun q334 => ?_) (fun q334 => ?_)
            · replace hs := (if_neg q334).symm.trans hs
              refine ev_iconst C (v := 0) dX14_factorsOf_341 (by decide) ?_
              exact Ev.keep [true, true, true, true, true, true, false, true, true, true, true] (t_X14_factorsOf_342 C K30 hs)
            · replace hs := (if_pos q334).symm.trans hs
              refine ev_iconst C (v := 1) dX14_factorsOf_337 (by decide) ?_
              refine ev_goto C (tgt := 342) (by decide) dX14_factorsOf_338 ?_
              exact Ev.keep [true, true, true, true, true, true, false, true, true, true, true] (t_X14_factorsOf_342 C K30 hs)
          · replace hs := (if_pos q291).symm.trans hs
            refine ev_aload_n C (x := .ref l0) rfl trivial dX14_factorsOf_294 ?_
            refine ev_iload C rfl dX14_factorsOf_295 ?_
            refine ev_iconst C (v := 1) dX14_factorsOf_297 (by decide) ?_
            refine ev_isub C dX14_factorsOf_298 ?_
            refine ev_iconst C (v := 1) dX14_factorsOf_299 (by decide) ?_
            obtain ⟨eo300, hs⟩ := kO_at hs
            obtain ⟨h300, e300, hs⟩ := cN_at hs
            refine ev_callV C (T_X14_counts _ _ _ _ _ _ e300) (ci := 14) rfl eo300 wc_X14_counts wm_X14_550 wi_X14_counts ws_X14_counts wz_X14 hy_X14_counts ⟨(Nat.le_of_ble_eq_true rfl), (Nat.le_of_ble_eq_true rfl)⟩ ⟨(Nat.le_refl _), (Nat.le_refl _)⟩ (Nat.le_of_ble_eq_true rfl) rfl dX14_factorsOf_300 ?_
            refine ev_aload_n C (x := .ref l0) rfl trivial dX14_factorsOf_303 ?_
            obtain ⟨x304, e304, hs⟩ := aB hs
            refine ev_get C (ci := 14) (k := 48) rfl wu_14 (by decide) wf_X14_103 (gO_F e304) dX14_factorsOf_304 ?_
            refine ev_iload C rfl dX14_factorsOf_307 ?_
            refine ev_iconst C (v := 1) dX14_factorsOf_309 (by decide) ?_
            refine ev_isub C dX14_factorsOf_310 ?_
            refine ev_iconst C (v := (-1)) dX14_factorsOf_311 (by decide) ?_
            obtain ⟨h312, e312, hs⟩ := aB hs
            refine ev_iast C e312 dX14_factorsOf_312 ?_
            refine ev_goto C (tgt := 355) (by decide) dX14_factorsOf_313 ?_
            refine ev_iinc C (i := 5) (n := 1) (x := l5) (v := l5 + 1) rfl (congrArg (fun z => l5 + z) (show Int32.ofInt 1 = 1 by decide)) (by decide) dX14_factorsOf_355 ?_
            refine ev_goto C (tgt := 30) (by decide) dX14_factorsOf_358 ?_
            exact Ev.keep [true, true, true, true, true, true, false, true, true, true, true] (K30 _ _ _ _ _ _ hs)
        · replace hs := (if_pos q184).symm.trans hs
          refine ev_iinc C (i := 4) (n := -1) (x := l4) (v := l4 + (-1)) rfl (congrArg (fun z => l4 + z) (show Int32.ofInt (-1) = (-1) by decide)) (by decide) dX14_factorsOf_187 ?_
          refine ev_aload_n C (x := .ref l0) rfl trivial dX14_factorsOf_190 ?_
          obtain ⟨x191, e191, hs⟩ := aB hs
          refine ev_get C (ci := 14) (k := 48) rfl wu_14 (by decide) wf_X14_103 (gO_F e191) dX14_factorsOf_191 ?_
          refine ev_iload C rfl dX14_factorsOf_194 ?_
          refine ev_iconst C (v := 1) dX14_factorsOf_196 (by decide) ?_
          refine ev_isub C dX14_factorsOf_197 ?_
          obtain ⟨x198, e198, hs⟩ := aB hs
          refine ev_iald C e198 dX14_factorsOf_198 ?_
          refine ev_istore C (by decide) dX14_factorsOf_199 ?_
          refine ev_aload_n C (x := .ref l0) rfl trivial dX14_factorsOf_201 ?_
          obtain ⟨x202, e202, hs⟩ := aB hs
          refine ev_get C (ci := 14) (k := 48) rfl wu_14 (by decide) wf_X14_103 (gO_F e202) dX14_factorsOf_202 ?_
          refine ev_iload C rfl dX14_factorsOf_205 ?_
          obtain ⟨x207, e207, hs⟩ := aB hs
          refine ev_iald C e207 dX14_factorsOf_207 ?_
          refine ev_istore C (by decide) dX14_factorsOf_208 ?_
          refine ev_aload_n C (x := .ref l0) rfl trivial dX14_factorsOf_210 ?_
          obtain ⟨x211, e211, hs⟩ := aB hs
          refine ev_get C (ci := 14) (k := 48) rfl wu_14 (by decide) wf_X14_103 (gO_F e211) dX14_factorsOf_211 ?_
          refine ev_iload C rfl dX14_factorsOf_214 ?_
          refine ev_iconst C (v := 1) dX14_factorsOf_216 (by decide) ?_
          refine ev_isub C dX14_factorsOf_217 ?_
          refine ev_iload C rfl dX14_factorsOf_218 ?_
          refine ev_iconst C (v := (-1)) dX14_factorsOf_220 (by decide) ?_
          refine ev_icmp_ne C (tgt := 229) (by decide) dX14_factorsOf_221 (fun q221 => ?_) (fun q221 => ?_)
          · replace hs := (if_neg q221).symm.trans hs
            refine ev_iload C rfl dX14_factorsOf_229 ?_
            refine ev_iconst C (v := (-1)) dX14_factorsOf_231 (by decide) ?_
            refine ev_icmp_ne C (tgt := 240) (by decide) dX14_factorsOf_232 (fun q232 => ?_) (fun q232 => ?_)
            · replace hs := (if_neg q232).symm.trans hs
              refine ev_bipush C (v := (-2)) dX14_factorsOf_240 (by decide) ?_
              exact Ev.keep [true, true, true, true, true, true, false, false, false, true, true] (t_X14_factorsOf_242 C K30 hs)
            · replace hs := (if_pos q232).symm.trans hs
              refine ev_iload C rfl dX14_factorsOf_235 ?_
              refine ev_goto C (tgt := 242) (by decide) dX14_factorsOf_237 ?_
              exact Ev.keep [true, true, true, true, true, true, false, false, false, true, true] (t_X14_factorsOf_242 C K30 hs)
          · replace hs := (if_pos q221).symm.trans hs
            refine ev_iload C rfl dX14_factorsOf_224 ?_
            refine ev_goto C (tgt := 242) (by decide) dX14_factorsOf_226 ?_
            exact Ev.keep [true, true, true, true, true, true, false, false, false, true, true] (t_X14_factorsOf_242 C K30 hs)
      · replace hs := (if_pos q56).symm.trans hs
        exact (t_X14_factorsOf_59 C K30 hs)
theorem t_X14_factorsOf_30 (C : Cx p l s m args meth c B0 X RX14 "factorsOf" cX14_factorsOf 11 none [])   : ∀ (n : Nat) {l0 : Nat} {l2 : Int32} {l3 : Int32} {l4 : Int32} {l5 : Int32} {h : aH} (hs : s_X14_factorsOf_30  n l0 l2 l3 l4 l5 h = some (r, h')), Ev p l e { frames := 1, cells := mc, slots := ms, locals := 23 } s m args below meth c D B0 X ws0 r h' mc ms 11 mc ms 30 [some (.ref l0), none, some (.int l2), some (.int l3), some (.int l4), some (.int l5), none, none, none, none, none] [] h
  | 0, _, _, _, _, _, _, hs => nomatch hs
  | n + 1, _, _, _, _, _, _, hs => t_X14_factorsOf_30_b C  (k30 := s_X14_factorsOf_30  n) (fun _ _ _ _ _ _ hs => t_X14_factorsOf_30 C  n hs) hs
theorem t_X14_factorsOf_3_b (C : Cx p l s m args meth c B0 X RX14 "factorsOf" cX14_factorsOf 11 none [])   {k3 : Nat → Int32 → Int32 → Int32 → Int32 → aH → aO} (K3 : ∀ (l0 : Nat) (l1 : Int32) (l2 : Int32) (l3 : Int32) (l4 : Int32) (h : aH), k3 l0 l1 l2 l3 l4 h = some (r, h') → Ev p l e { frames := 1, cells := mc, slots := ms, locals := 23 } s m args below meth c D B0 X ws0 r h' mc ms 11 mc ms 3 [some (.ref l0), some (.int l1), some (.int l2), some (.int l3), some (.int l4), none, none, none, none, none, none] [] h) {l0 : Nat} {l1 : Int32} {l2 : Int32} {l3 : Int32} {l4 : Int32} {h : aH} (hs : s_X14_factorsOf_3_b  k3 l0 l1 l2 l3 l4 h = some (r, h')) : Ev p l e { frames := 1, cells := mc, slots := ms, locals := 23 } s m args below meth c D B0 X ws0 r h' mc ms 11 mc ms 3 [some (.ref l0), some (.int l1), some (.int l2), some (.int l3), some (.int l4), none, none, none, none, none, none] [] h := by
  unfold s_X14_factorsOf_3_b at hs
  refine ev_iload C rfl dX14_factorsOf_3 ?_
  refine ev_bipush C (v := 7) dX14_factorsOf_5 (by decide) ?_
  refine ev_icmp_ge C (tgt := 24) (by decide) dX14_factorsOf_7 (fun q7 => ?_) (fun q7 => ?_)
  · replace hs := (if_pos q7).symm.trans hs
    refine ev_iconst C (v := 0) dX14_factorsOf_24 (by decide) ?_
    refine ev_istore C (by decide) dX14_factorsOf_25 ?_
    refine ev_iload_n C rfl dX14_factorsOf_27 ?_
    refine ev_istore C (by decide) dX14_factorsOf_28 ?_
    exact Ev.keep [true, false, true, true, true, true, true, true, true, true, true] (t_X14_factorsOf_30 C  FU hs)
  · replace hs := (if_neg q7).symm.trans hs
    refine ev_aload_n C (x := .ref l0) rfl trivial dX14_factorsOf_10 ?_
    obtain ⟨x11, e11, hs⟩ := aB hs
    refine ev_get C (ci := 14) (k := 44) rfl wu_14 (by decide) wf_X14_90 (gO_F e11) dX14_factorsOf_11 ?_
    refine ev_iload C rfl dX14_factorsOf_14 ?_
    refine ev_lconst C (v := 0) dX14_factorsOf_16 (by decide) ?_
    obtain ⟨h17, e17, hs⟩ := aB hs
    refine ev_last C e17 dX14_factorsOf_17 ?_
    refine ev_iinc C (i := 4) (n := 1) (x := l4) (v := l4 + 1) rfl (congrArg (fun z => l4 + z) (show Int32.ofInt 1 = 1 by decide)) (by decide) dX14_factorsOf_18 ?_
    refine ev_goto C (tgt := 3) (by decide) dX14_factorsOf_21 ?_
    exact (K3 _ _ _ _ _ _ hs)
theorem t_X14_factorsOf_3 (C : Cx p l s m args meth c B0 X RX14 "factorsOf" cX14_factorsOf 11 none [])   : ∀ (n : Nat) {l0 : Nat} {l1 : Int32} {l2 : Int32} {l3 : Int32} {l4 : Int32} {h : aH} (hs : s_X14_factorsOf_3  n l0 l1 l2 l3 l4 h = some (r, h')), Ev p l e { frames := 1, cells := mc, slots := ms, locals := 23 } s m args below meth c D B0 X ws0 r h' mc ms 11 mc ms 3 [some (.ref l0), some (.int l1), some (.int l2), some (.int l3), some (.int l4), none, none, none, none, none, none] [] h
  | 0, _, _, _, _, _, _, hs => nomatch hs
  | n + 1, _, _, _, _, _, _, hs => t_X14_factorsOf_3_b C  (k3 := s_X14_factorsOf_3  n) (fun _ _ _ _ _ _ hs => t_X14_factorsOf_3 C  n hs) hs
theorem hy_X14_factorsOf : yX14_factorsOf.cls ≠ "java/lang/invoke/MethodHandle" ∧ yX14_factorsOf.cls ≠ "java/lang/invoke/VarHandle" ∧ (parseMethodDescriptor yX14_factorsOf.desc).map (fun d => d.parameters.length) = some 3 := by decide +kernel
theorem T_X14_factorsOf (o : Nat) (a1 : Int32) (a2 : Int32) (a3 : Int32) (h : aH) (r : aR) (h' : aH) (hs : s_X14_factorsOf o a1 a2 a3 h = some (r, h')) : Mt yX14_factorsOf (Cond.code yX14_factorsOf cX14_factorsOf 11 none :: aTB) 1 23 0 0 [.ref o, .int a1, .int a2, .int a3] h r h' := by
  unfold s_X14_factorsOf at hs
  refine Mt_of (k := 7) (by decide) rfl (fun p l e s m args below meth c D B0 X ws0 C => ?_)
  show Ev p l e { frames := 1, cells := 0, slots := 0, locals := 23 } s m args below meth c D B0 X ws0 r h' 0 0 11 0 0 0 [some (.ref o), some (.int a1), some (.int a2), some (.int a3), none, none, none, none, none, none, none] [] h
  refine ev_iconst C (v := 0) dX14_factorsOf_0 (by decide) ?_
  refine ev_istore C (by decide) dX14_factorsOf_1 ?_
  exact (t_X14_factorsOf_3 C  FU hs)
end
-- X14_isLinear
theorem dX14_isLinear_0 : decode cX14_isLinear 0 = .ok (.aload_n 0, 1) := by decide +kernel
theorem dX14_isLinear_1 : decode cX14_isLinear 1 = .ok (.iconst 1, 1) := by decide +kernel
theorem dX14_isLinear_2 : decode cX14_isLinear 2 = .ok (.putfield 543, 3) := by decide +kernel
theorem dX14_isLinear_5 : decode cX14_isLinear 5 = .ok (.aload_n 0, 1) := by decide +kernel
theorem dX14_isLinear_6 : decode cX14_isLinear 6 = .ok (.getfield 376, 3) := by decide +kernel
theorem dX14_isLinear_9 : decode cX14_isLinear 9 = .ok (.getfield 252, 3) := by decide +kernel
theorem dX14_isLinear_12 : decode cX14_isLinear 12 = .ok (.iconst 0, 1) := by decide +kernel
theorem dX14_isLinear_13 : decode cX14_isLinear 13 = .ok (.iaload, 1) := by decide +kernel
theorem dX14_isLinear_14 : decode cX14_isLinear 14 = .ok (.istore_n 1, 1) := by decide +kernel
theorem dX14_isLinear_15 : decode cX14_isLinear 15 = .ok (.iconst 0, 1) := by decide +kernel
theorem dX14_isLinear_16 : decode cX14_isLinear 16 = .ok (.istore_n 2, 1) := by decide +kernel
theorem dX14_isLinear_17 : decode cX14_isLinear 17 = .ok (.iload_n 2, 1) := by decide +kernel
theorem dX14_isLinear_18 : decode cX14_isLinear 18 = .ok (.bipush 9, 2) := by decide +kernel
theorem dX14_isLinear_20 : decode cX14_isLinear 20 = .ok (.if_icmp .ge 36, 3) := by decide +kernel
theorem dX14_isLinear_23 : decode cX14_isLinear 23 = .ok (.aload_n 0, 1) := by decide +kernel
theorem dX14_isLinear_24 : decode cX14_isLinear 24 = .ok (.getfield 94, 3) := by decide +kernel
theorem dX14_isLinear_27 : decode cX14_isLinear 27 = .ok (.iload_n 2, 1) := by decide +kernel
theorem dX14_isLinear_28 : decode cX14_isLinear 28 = .ok (.iload_n 2, 1) := by decide +kernel
theorem dX14_isLinear_29 : decode cX14_isLinear 29 = .ok (.iconst 3, 1) := by decide +kernel
theorem dX14_isLinear_30 : decode cX14_isLinear 30 = .ok (.idiv, 1) := by decide +kernel
theorem dX14_isLinear_31 : decode cX14_isLinear 31 = .ok (.iload_n 2, 1) := by decide +kernel
theorem dX14_isLinear_32 : decode cX14_isLinear 32 = .ok (.iconst 3, 1) := by decide +kernel
theorem dX14_isLinear_33 : decode cX14_isLinear 33 = .ok (.irem, 1) := by decide +kernel
theorem dX14_isLinear_34 : decode cX14_isLinear 34 = .ok (.if_icmp .ne 14, 3) := by decide +kernel
theorem dX14_isLinear_37 : decode cX14_isLinear 37 = .ok (.iload_n 2, 1) := by decide +kernel
theorem dX14_isLinear_38 : decode cX14_isLinear 38 = .ok (.iconst 3, 1) := by decide +kernel
theorem dX14_isLinear_39 : decode cX14_isLinear 39 = .ok (.idiv, 1) := by decide +kernel
theorem dX14_isLinear_40 : decode cX14_isLinear 40 = .ok (.iload_n 1, 1) := by decide +kernel
theorem dX14_isLinear_41 : decode cX14_isLinear 41 = .ok (.if_icmp .ge 7, 3) := by decide +kernel
theorem dX14_isLinear_44 : decode cX14_isLinear 44 = .ok (.iconst 1, 1) := by decide +kernel
theorem dX14_isLinear_45 : decode cX14_isLinear 45 = .ok (.goto 4, 3) := by decide +kernel
theorem dX14_isLinear_48 : decode cX14_isLinear 48 = .ok (.iconst 0, 1) := by decide +kernel
theorem dX14_isLinear_49 : decode cX14_isLinear 49 = .ok (.iastore, 1) := by decide +kernel
theorem dX14_isLinear_50 : decode cX14_isLinear 50 = .ok (.iinc 2 1, 3) := by decide +kernel
theorem dX14_isLinear_53 : decode cX14_isLinear 53 = .ok (.goto (-36), 3) := by decide +kernel
theorem dX14_isLinear_56 : decode cX14_isLinear 56 = .ok (.iconst 0, 1) := by decide +kernel
theorem dX14_isLinear_57 : decode cX14_isLinear 57 = .ok (.istore_n 2, 1) := by decide +kernel
theorem dX14_isLinear_58 : decode cX14_isLinear 58 = .ok (.iload_n 2, 1) := by decide +kernel
theorem dX14_isLinear_59 : decode cX14_isLinear 59 = .ok (.bipush 6, 2) := by decide +kernel
theorem dX14_isLinear_61 : decode cX14_isLinear 61 = .ok (.if_icmp .ge 23, 3) := by decide +kernel
theorem dX14_isLinear_64 : decode cX14_isLinear 64 = .ok (.aload_n 0, 1) := by decide +kernel
theorem dX14_isLinear_65 : decode cX14_isLinear 65 = .ok (.getfield 97, 3) := by decide +kernel
theorem dX14_isLinear_68 : decode cX14_isLinear 68 = .ok (.iload_n 2, 1) := by decide +kernel
theorem dX14_isLinear_69 : decode cX14_isLinear 69 = .ok (.iconst 0, 1) := by decide +kernel
theorem dX14_isLinear_70 : decode cX14_isLinear 70 = .ok (.iastore, 1) := by decide +kernel
theorem dX14_isLinear_71 : decode cX14_isLinear 71 = .ok (.aload_n 0, 1) := by decide +kernel
theorem dX14_isLinear_72 : decode cX14_isLinear 72 = .ok (.getfield 100, 3) := by decide +kernel
theorem dX14_isLinear_75 : decode cX14_isLinear 75 = .ok (.iload_n 2, 1) := by decide +kernel
theorem dX14_isLinear_76 : decode cX14_isLinear 76 = .ok (.iconst 0, 1) := by decide +kernel
theorem dX14_isLinear_77 : decode cX14_isLinear 77 = .ok (.iastore, 1) := by decide +kernel
theorem dX14_isLinear_78 : decode cX14_isLinear 78 = .ok (.iinc 2 1, 3) := by decide +kernel
theorem dX14_isLinear_81 : decode cX14_isLinear 81 = .ok (.goto (-23), 3) := by decide +kernel
theorem dX14_isLinear_84 : decode cX14_isLinear 84 = .ok (.iconst 0, 1) := by decide +kernel
theorem dX14_isLinear_85 : decode cX14_isLinear 85 = .ok (.istore_n 2, 1) := by decide +kernel
theorem dX14_isLinear_86 : decode cX14_isLinear 86 = .ok (.iconst 0, 1) := by decide +kernel
theorem dX14_isLinear_87 : decode cX14_isLinear 87 = .ok (.istore_n 3, 1) := by decide +kernel
theorem dX14_isLinear_88 : decode cX14_isLinear 88 = .ok (.iload_n 3, 1) := by decide +kernel
theorem dX14_isLinear_89 : decode cX14_isLinear 89 = .ok (.aload_n 0, 1) := by decide +kernel
theorem dX14_isLinear_90 : decode cX14_isLinear 90 = .ok (.getfield 376, 3) := by decide +kernel
theorem dX14_isLinear_93 : decode cX14_isLinear 93 = .ok (.getfield 320, 3) := by decide +kernel
theorem dX14_isLinear_96 : decode cX14_isLinear 96 = .ok (.if_icmp .ge 168, 3) := by decide +kernel
theorem dX14_isLinear_99 : decode cX14_isLinear 99 = .ok (.aload_n 0, 1) := by decide +kernel
theorem dX14_isLinear_100 : decode cX14_isLinear 100 = .ok (.getfield 376, 3) := by decide +kernel
theorem dX14_isLinear_103 : decode cX14_isLinear 103 = .ok (.getfield 323, 3) := by decide +kernel
theorem dX14_isLinear_106 : decode cX14_isLinear 106 = .ok (.iload_n 3, 1) := by decide +kernel
theorem dX14_isLinear_107 : decode cX14_isLinear 107 = .ok (.iaload, 1) := by decide +kernel
theorem dX14_isLinear_108 : decode cX14_isLinear 108 = .ok (.istore 4, 2) := by decide +kernel
theorem dX14_isLinear_110 : decode cX14_isLinear 110 = .ok (.aload_n 0, 1) := by decide +kernel
theorem dX14_isLinear_111 : decode cX14_isLinear 111 = .ok (.aload_n 0, 1) := by decide +kernel
theorem dX14_isLinear_112 : decode cX14_isLinear 112 = .ok (.getfield 543, 3) := by decide +kernel
theorem dX14_isLinear_115 : decode cX14_isLinear 115 = .ok (.ifCond .eq 37, 3) := by decide +kernel
theorem dX14_isLinear_118 : decode cX14_isLinear 118 = .ok (.aload_n 0, 1) := by decide +kernel
theorem dX14_isLinear_119 : decode cX14_isLinear 119 = .ok (.getfield 376, 3) := by decide +kernel
theorem dX14_isLinear_122 : decode cX14_isLinear 122 = .ok (.getfield 335, 3) := by decide +kernel
theorem dX14_isLinear_125 : decode cX14_isLinear 125 = .ok (.iload_n 3, 1) := by decide +kernel
theorem dX14_isLinear_126 : decode cX14_isLinear 126 = .ok (.iaload, 1) := by decide +kernel
theorem dX14_isLinear_127 : decode cX14_isLinear 127 = .ok (.aload_n 0, 1) := by decide +kernel
theorem dX14_isLinear_128 : decode cX14_isLinear 128 = .ok (.getfield 376, 3) := by decide +kernel
theorem dX14_isLinear_131 : decode cX14_isLinear 131 = .ok (.getfield 329, 3) := by decide +kernel
theorem dX14_isLinear_134 : decode cX14_isLinear 134 = .ok (.iload_n 3, 1) := by decide +kernel
theorem dX14_isLinear_135 : decode cX14_isLinear 135 = .ok (.iaload, 1) := by decide +kernel
theorem dX14_isLinear_136 : decode cX14_isLinear 136 = .ok (.if_icmp .ne 16, 3) := by decide +kernel
theorem dX14_isLinear_139 : decode cX14_isLinear 139 = .ok (.iload_n 2, 1) := by decide +kernel
theorem dX14_isLinear_140 : decode cX14_isLinear 140 = .ok (.iload 4, 2) := by decide +kernel
theorem dX14_isLinear_142 : decode cX14_isLinear 142 = .ok (.ishr, 1) := by decide +kernel
theorem dX14_isLinear_143 : decode cX14_isLinear 143 = .ok (.iconst 1, 1) := by decide +kernel
theorem dX14_isLinear_144 : decode cX14_isLinear 144 = .ok (.iand, 1) := by decide +kernel
theorem dX14_isLinear_145 : decode cX14_isLinear 145 = .ok (.ifCond .ne 7, 3) := by decide +kernel
theorem dX14_isLinear_148 : decode cX14_isLinear 148 = .ok (.iconst 1, 1) := by decide +kernel
theorem dX14_isLinear_149 : decode cX14_isLinear 149 = .ok (.goto 4, 3) := by decide +kernel
theorem dX14_isLinear_152 : decode cX14_isLinear 152 = .ok (.iconst 0, 1) := by decide +kernel
theorem dX14_isLinear_153 : decode cX14_isLinear 153 = .ok (.putfield 543, 3) := by decide +kernel
theorem dX14_isLinear_156 : decode cX14_isLinear 156 = .ok (.iload_n 2, 1) := by decide +kernel
theorem dX14_isLinear_157 : decode cX14_isLinear 157 = .ok (.iconst 1, 1) := by decide +kernel
theorem dX14_isLinear_158 : decode cX14_isLinear 158 = .ok (.iload 4, 2) := by decide +kernel
theorem dX14_isLinear_160 : decode cX14_isLinear 160 = .ok (.ishl, 1) := by decide +kernel
theorem dX14_isLinear_161 : decode cX14_isLinear 161 = .ok (.ior, 1) := by decide +kernel
theorem dX14_isLinear_162 : decode cX14_isLinear 162 = .ok (.istore_n 2, 1) := by decide +kernel
theorem dX14_isLinear_163 : decode cX14_isLinear 163 = .ok (.aload_n 0, 1) := by decide +kernel
theorem dX14_isLinear_164 : decode cX14_isLinear 164 = .ok (.aload_n 0, 1) := by decide +kernel
theorem dX14_isLinear_165 : decode cX14_isLinear 165 = .ok (.getfield 376, 3) := by decide +kernel
theorem dX14_isLinear_168 : decode cX14_isLinear 168 = .ok (.getfield 326, 3) := by decide +kernel
theorem dX14_isLinear_171 : decode cX14_isLinear 171 = .ok (.iload_n 3, 1) := by decide +kernel
theorem dX14_isLinear_172 : decode cX14_isLinear 172 = .ok (.iaload, 1) := by decide +kernel
theorem dX14_isLinear_173 : decode cX14_isLinear 173 = .ok (.aload_n 0, 1) := by decide +kernel
theorem dX14_isLinear_174 : decode cX14_isLinear 174 = .ok (.getfield 376, 3) := by decide +kernel
theorem dX14_isLinear_177 : decode cX14_isLinear 177 = .ok (.getfield 329, 3) := by decide +kernel
theorem dX14_isLinear_180 : decode cX14_isLinear 180 = .ok (.iload_n 3, 1) := by decide +kernel
theorem dX14_isLinear_181 : decode cX14_isLinear 181 = .ok (.iaload, 1) := by decide +kernel
theorem dX14_isLinear_182 : decode cX14_isLinear 182 = .ok (.iconst 5, 1) := by decide +kernel
theorem dX14_isLinear_183 : decode cX14_isLinear 183 = .ok (.invokevirtual 554, 3) := by decide +kernel
theorem dX14_isLinear_186 : decode cX14_isLinear 186 = .ok (.iconst 0, 1) := by decide +kernel
theorem dX14_isLinear_187 : decode cX14_isLinear 187 = .ok (.istore 5, 2) := by decide +kernel
theorem dX14_isLinear_189 : decode cX14_isLinear 189 = .ok (.iload 5, 2) := by decide +kernel
theorem dX14_isLinear_191 : decode cX14_isLinear 191 = .ok (.iconst 3, 1) := by decide +kernel
theorem dX14_isLinear_192 : decode cX14_isLinear 192 = .ok (.if_icmp .ge 29, 3) := by decide +kernel
theorem dX14_isLinear_195 : decode cX14_isLinear 195 = .ok (.aload_n 0, 1) := by decide +kernel
theorem dX14_isLinear_196 : decode cX14_isLinear 196 = .ok (.getfield 94, 3) := by decide +kernel
theorem dX14_isLinear_199 : decode cX14_isLinear 199 = .ok (.iconst 3, 1) := by decide +kernel
theorem dX14_isLinear_200 : decode cX14_isLinear 200 = .ok (.iload 4, 2) := by decide +kernel
theorem dX14_isLinear_202 : decode cX14_isLinear 202 = .ok (.imul, 1) := by decide +kernel
theorem dX14_isLinear_203 : decode cX14_isLinear 203 = .ok (.iload 5, 2) := by decide +kernel
theorem dX14_isLinear_205 : decode cX14_isLinear 205 = .ok (.iadd, 1) := by decide +kernel
theorem dX14_isLinear_206 : decode cX14_isLinear 206 = .ok (.aload_n 0, 1) := by decide +kernel
theorem dX14_isLinear_207 : decode cX14_isLinear 207 = .ok (.getfield 90, 3) := by decide +kernel
theorem dX14_isLinear_210 : decode cX14_isLinear 210 = .ok (.iload 5, 2) := by decide +kernel
theorem dX14_isLinear_212 : decode cX14_isLinear 212 = .ok (.laload, 1) := by decide +kernel
theorem dX14_isLinear_213 : decode cX14_isLinear 213 = .ok (.l2i, 1) := by decide +kernel
theorem dX14_isLinear_214 : decode cX14_isLinear 214 = .ok (.iastore, 1) := by decide +kernel
theorem dX14_isLinear_215 : decode cX14_isLinear 215 = .ok (.iinc 5 1, 3) := by decide +kernel
theorem dX14_isLinear_218 : decode cX14_isLinear 218 = .ok (.goto (-29), 3) := by decide +kernel
theorem dX14_isLinear_221 : decode cX14_isLinear 221 = .ok (.iconst 0, 1) := by decide +kernel
theorem dX14_isLinear_222 : decode cX14_isLinear 222 = .ok (.istore 5, 2) := by decide +kernel
theorem dX14_isLinear_224 : decode cX14_isLinear 224 = .ok (.iload 5, 2) := by decide +kernel
theorem dX14_isLinear_226 : decode cX14_isLinear 226 = .ok (.iconst 2, 1) := by decide +kernel
theorem dX14_isLinear_227 : decode cX14_isLinear 227 = .ok (.if_icmp .ge 31, 3) := by decide +kernel
theorem dX14_isLinear_230 : decode cX14_isLinear 230 = .ok (.aload_n 0, 1) := by decide +kernel
theorem dX14_isLinear_231 : decode cX14_isLinear 231 = .ok (.getfield 97, 3) := by decide +kernel
theorem dX14_isLinear_234 : decode cX14_isLinear 234 = .ok (.iconst 2, 1) := by decide +kernel
theorem dX14_isLinear_235 : decode cX14_isLinear 235 = .ok (.iload 4, 2) := by decide +kernel
theorem dX14_isLinear_237 : decode cX14_isLinear 237 = .ok (.imul, 1) := by decide +kernel
theorem dX14_isLinear_238 : decode cX14_isLinear 238 = .ok (.iload 5, 2) := by decide +kernel
theorem dX14_isLinear_240 : decode cX14_isLinear 240 = .ok (.iadd, 1) := by decide +kernel
theorem dX14_isLinear_241 : decode cX14_isLinear 241 = .ok (.aload_n 0, 1) := by decide +kernel
theorem dX14_isLinear_242 : decode cX14_isLinear 242 = .ok (.getfield 90, 3) := by decide +kernel
theorem dX14_isLinear_245 : decode cX14_isLinear 245 = .ok (.iconst 3, 1) := by decide +kernel
theorem dX14_isLinear_246 : decode cX14_isLinear 246 = .ok (.iload 5, 2) := by decide +kernel
theorem dX14_isLinear_248 : decode cX14_isLinear 248 = .ok (.iadd, 1) := by decide +kernel
theorem dX14_isLinear_249 : decode cX14_isLinear 249 = .ok (.laload, 1) := by decide +kernel
theorem dX14_isLinear_250 : decode cX14_isLinear 250 = .ok (.l2i, 1) := by decide +kernel
theorem dX14_isLinear_251 : decode cX14_isLinear 251 = .ok (.iastore, 1) := by decide +kernel
theorem dX14_isLinear_252 : decode cX14_isLinear 252 = .ok (.iinc 5 1, 3) := by decide +kernel
theorem dX14_isLinear_255 : decode cX14_isLinear 255 = .ok (.goto (-31), 3) := by decide +kernel
theorem dX14_isLinear_258 : decode cX14_isLinear 258 = .ok (.iinc 3 1, 3) := by decide +kernel
theorem dX14_isLinear_261 : decode cX14_isLinear 261 = .ok (.goto (-173), 3) := by decide +kernel
theorem dX14_isLinear_264 : decode cX14_isLinear 264 = .ok (.iconst 0, 1) := by decide +kernel
theorem dX14_isLinear_265 : decode cX14_isLinear 265 = .ok (.istore_n 3, 1) := by decide +kernel
theorem dX14_isLinear_266 : decode cX14_isLinear 266 = .ok (.iload_n 3, 1) := by decide +kernel
theorem dX14_isLinear_267 : decode cX14_isLinear 267 = .ok (.aload_n 0, 1) := by decide +kernel
theorem dX14_isLinear_268 : decode cX14_isLinear 268 = .ok (.getfield 376, 3) := by decide +kernel
theorem dX14_isLinear_271 : decode cX14_isLinear 271 = .ok (.getfield 252, 3) := by decide +kernel
theorem dX14_isLinear_274 : decode cX14_isLinear 274 = .ok (.iconst 4, 1) := by decide +kernel
theorem dX14_isLinear_275 : decode cX14_isLinear 275 = .ok (.iaload, 1) := by decide +kernel
theorem dX14_isLinear_276 : decode cX14_isLinear 276 = .ok (.if_icmp .ge 76, 3) := by decide +kernel
theorem dX14_isLinear_279 : decode cX14_isLinear 279 = .ok (.aload_n 0, 1) := by decide +kernel
theorem dX14_isLinear_280 : decode cX14_isLinear 280 = .ok (.aload_n 0, 1) := by decide +kernel
theorem dX14_isLinear_281 : decode cX14_isLinear 281 = .ok (.getfield 376, 3) := by decide +kernel
theorem dX14_isLinear_284 : decode cX14_isLinear 284 = .ok (.getfield 292, 3) := by decide +kernel
theorem dX14_isLinear_287 : decode cX14_isLinear 287 = .ok (.iconst 4, 1) := by decide +kernel
theorem dX14_isLinear_288 : decode cX14_isLinear 288 = .ok (.invokestatic 246, 3) := by decide +kernel
theorem dX14_isLinear_291 : decode cX14_isLinear 291 = .ok (.iload_n 3, 1) := by decide +kernel
theorem dX14_isLinear_292 : decode cX14_isLinear 292 = .ok (.iadd, 1) := by decide +kernel
theorem dX14_isLinear_293 : decode cX14_isLinear 293 = .ok (.iaload, 1) := by decide +kernel
theorem dX14_isLinear_294 : decode cX14_isLinear 294 = .ok (.aload_n 0, 1) := by decide +kernel
theorem dX14_isLinear_295 : decode cX14_isLinear 295 = .ok (.getfield 376, 3) := by decide +kernel
theorem dX14_isLinear_298 : decode cX14_isLinear 298 = .ok (.getfield 301, 3) := by decide +kernel
theorem dX14_isLinear_301 : decode cX14_isLinear 301 = .ok (.iconst 4, 1) := by decide +kernel
theorem dX14_isLinear_302 : decode cX14_isLinear 302 = .ok (.invokestatic 246, 3) := by decide +kernel
theorem dX14_isLinear_305 : decode cX14_isLinear 305 = .ok (.iload_n 3, 1) := by decide +kernel
theorem dX14_isLinear_306 : decode cX14_isLinear 306 = .ok (.iadd, 1) := by decide +kernel
theorem dX14_isLinear_307 : decode cX14_isLinear 307 = .ok (.iaload, 1) := by decide +kernel
theorem dX14_isLinear_308 : decode cX14_isLinear 308 = .ok (.iconst 3, 1) := by decide +kernel
theorem dX14_isLinear_309 : decode cX14_isLinear 309 = .ok (.invokevirtual 554, 3) := by decide +kernel
theorem dX14_isLinear_312 : decode cX14_isLinear 312 = .ok (.iconst 0, 1) := by decide +kernel
theorem dX14_isLinear_313 : decode cX14_isLinear 313 = .ok (.istore 4, 2) := by decide +kernel
theorem dX14_isLinear_315 : decode cX14_isLinear 315 = .ok (.iload 4, 2) := by decide +kernel
theorem dX14_isLinear_317 : decode cX14_isLinear 317 = .ok (.iconst 3, 1) := by decide +kernel
theorem dX14_isLinear_318 : decode cX14_isLinear 318 = .ok (.if_icmp .ge 28, 3) := by decide +kernel
theorem dX14_isLinear_321 : decode cX14_isLinear 321 = .ok (.aload_n 0, 1) := by decide +kernel
theorem dX14_isLinear_322 : decode cX14_isLinear 322 = .ok (.getfield 100, 3) := by decide +kernel
theorem dX14_isLinear_325 : decode cX14_isLinear 325 = .ok (.iconst 3, 1) := by decide +kernel
theorem dX14_isLinear_326 : decode cX14_isLinear 326 = .ok (.iload_n 3, 1) := by decide +kernel
theorem dX14_isLinear_327 : decode cX14_isLinear 327 = .ok (.imul, 1) := by decide +kernel
theorem dX14_isLinear_328 : decode cX14_isLinear 328 = .ok (.iload 4, 2) := by decide +kernel
theorem dX14_isLinear_330 : decode cX14_isLinear 330 = .ok (.iadd, 1) := by decide +kernel
theorem dX14_isLinear_331 : decode cX14_isLinear 331 = .ok (.aload_n 0, 1) := by decide +kernel
theorem dX14_isLinear_332 : decode cX14_isLinear 332 = .ok (.getfield 90, 3) := by decide +kernel
theorem dX14_isLinear_335 : decode cX14_isLinear 335 = .ok (.iload 4, 2) := by decide +kernel
theorem dX14_isLinear_337 : decode cX14_isLinear 337 = .ok (.laload, 1) := by decide +kernel
theorem dX14_isLinear_338 : decode cX14_isLinear 338 = .ok (.l2i, 1) := by decide +kernel
theorem dX14_isLinear_339 : decode cX14_isLinear 339 = .ok (.iastore, 1) := by decide +kernel
theorem dX14_isLinear_340 : decode cX14_isLinear 340 = .ok (.iinc 4 1, 3) := by decide +kernel
theorem dX14_isLinear_343 : decode cX14_isLinear 343 = .ok (.goto (-28), 3) := by decide +kernel
theorem dX14_isLinear_346 : decode cX14_isLinear 346 = .ok (.iinc 3 1, 3) := by decide +kernel
theorem dX14_isLinear_349 : decode cX14_isLinear 349 = .ok (.goto (-83), 3) := by decide +kernel
theorem dX14_isLinear_352 : decode cX14_isLinear 352 = .ok (.aload_n 0, 1) := by decide +kernel
theorem dX14_isLinear_353 : decode cX14_isLinear 353 = .ok (.getfield 543, 3) := by decide +kernel
theorem dX14_isLinear_356 : decode cX14_isLinear 356 = .ok (.ireturn, 1) := by decide +kernel
def s_X14_isLinear_315_b (k266 : Nat → Int32 → aH → aO) (k315 : Nat → Int32 → Int32 → aH → aO) (l0 : Nat) (l3 : Int32) (l4 : Int32) (h : aH) : aO :=
  if 3 ≤ l4 then (k266 l0 (l3 + 1) h) else ((gO h (.ref l0) 14 47).bind fun x322 => (gO h (.ref l0) 14 44).bind fun x332 => (ldJ h (.ref x332) l4).bind fun x337 => (stI h (.ref x322) ((3 * l3) + l4) x337.toInt32).bind fun h339 => k315 l0 l3 (l4 + 1) h339)
def s_X14_isLinear_315 (k266 : Nat → Int32 → aH → aO) (n : Nat) : Nat → Int32 → Int32 → aH → aO := lpF (fun _ _ _ _ => none) (s_X14_isLinear_315_b k266) n
def s_X14_isLinear_266_b  (k266 : Nat → Int32 → aH → aO) (l0 : Nat) (l3 : Int32) (h : aH) : aO :=
  (gO h (.ref l0) 14 4).bind fun x268 => (gO h (.ref x268) 13 0).bind fun x271 => (ldI .int h (.ref x271) 4).bind fun x275 => if x275 ≤ l3 then ((gI h (.ref l0) 14 50).bind fun x353 => rtZ x353 h) else ((gO h (.ref l0) 14 4).bind fun x281 => (gO h (.ref x281) 13 3).bind fun x284 => cI (s_X14_slotOf 4 h) fun x288 h288 => (ldI .int h288 (.ref x284) (x288 + l3)).bind fun x293 => (gO h288 (.ref l0) 14 4).bind fun x295 => (gO h288 (.ref x295) 13 4).bind fun x298 => cI (s_X14_slotOf 4 h288) fun x302 h302 => (ldI .int h302 (.ref x298) (x302 + l3)).bind fun x307 => kO h302 l0 14 (cN (s_X14_factorsOf l0 x293 x307 3 h302) fun h309 => s_X14_isLinear_315 k266 FU l0 l3 0 h309))
def s_X14_isLinear_266  (n : Nat) : Nat → Int32 → aH → aO := lpF (fun _ _ _ => none) (s_X14_isLinear_266_b ) n
def s_X14_isLinear_224_b (k88 : Nat → Int32 → Int32 → aH → aO) (k224 : Nat → Int32 → Int32 → Int32 → Int32 → aH → aO) (l0 : Nat) (l2 : Int32) (l3 : Int32) (l4 : Int32) (l5 : Int32) (h : aH) : aO :=
  if 2 ≤ l5 then (k88 l0 l2 (l3 + 1) h) else ((gO h (.ref l0) 14 46).bind fun x231 => (gO h (.ref l0) 14 44).bind fun x242 => (ldJ h (.ref x242) (3 + l5)).bind fun x249 => (stI h (.ref x231) ((2 * l4) + l5) x249.toInt32).bind fun h251 => k224 l0 l2 l3 l4 (l5 + 1) h251)
def s_X14_isLinear_224 (k88 : Nat → Int32 → Int32 → aH → aO) (n : Nat) : Nat → Int32 → Int32 → Int32 → Int32 → aH → aO := lpF (fun _ _ _ _ _ _ => none) (s_X14_isLinear_224_b k88) n
def s_X14_isLinear_189_b (k88 : Nat → Int32 → Int32 → aH → aO) (k189 : Nat → Int32 → Int32 → Int32 → Int32 → aH → aO) (l0 : Nat) (l2 : Int32) (l3 : Int32) (l4 : Int32) (l5 : Int32) (h : aH) : aO :=
  if 3 ≤ l5 then (s_X14_isLinear_224 k88 FU l0 l2 l3 l4 0 h) else ((gO h (.ref l0) 14 45).bind fun x196 => (gO h (.ref l0) 14 44).bind fun x207 => (ldJ h (.ref x207) l5).bind fun x212 => (stI h (.ref x196) ((3 * l4) + l5) x212.toInt32).bind fun h214 => k189 l0 l2 l3 l4 (l5 + 1) h214)
def s_X14_isLinear_189 (k88 : Nat → Int32 → Int32 → aH → aO) (n : Nat) : Nat → Int32 → Int32 → Int32 → Int32 → aH → aO := lpF (fun _ _ _ _ _ _ => none) (s_X14_isLinear_189_b k88) n
def s_X14_isLinear_153 (k88 : Nat → Int32 → Int32 → aH → aO) (l0 : Nat) (l2 : Int32) (l3 : Int32) (l4 : Int32) (s0 : Int32) (s1 : Nat) (h : aH) : aO :=
  (pZ h (.ref s1) 14 50 s0).bind fun h153 => (gO h153 (.ref l0) 14 4).bind fun x165 => (gO h153 (.ref x165) 13 9).bind fun x168 => (ldI .int h153 (.ref x168) l3).bind fun x172 => (gO h153 (.ref l0) 14 4).bind fun x174 => (gO h153 (.ref x174) 13 10).bind fun x177 => (ldI .int h153 (.ref x177) l3).bind fun x181 => kO h153 l0 14 (cN (s_X14_factorsOf l0 x172 x181 5 h153) fun h183 => s_X14_isLinear_189 k88 FU l0 (l2 ||| (1 <<< (l4 &&& 31))) l3 l4 0 h183)
def s_X14_isLinear_152 (k88 : Nat → Int32 → Int32 → aH → aO) (l0 : Nat) (l2 : Int32) (l3 : Int32) (l4 : Int32) (s0 : Nat) (h : aH) : aO :=
  s_X14_isLinear_153 k88 l0 l2 l3 l4 0 s0 h
def s_X14_isLinear_88_b  (k88 : Nat → Int32 → Int32 → aH → aO) (l0 : Nat) (l2 : Int32) (l3 : Int32) (h : aH) : aO :=
  (gO h (.ref l0) 14 4).bind fun x90 => (gI h (.ref x90) 13 6).bind fun x93 => if x93 ≤ l3 then (s_X14_isLinear_266 FU l0 0 h) else ((gO h (.ref l0) 14 4).bind fun x100 => (gO h (.ref x100) 13 8).bind fun x103 => (ldI .int h (.ref x103) l3).bind fun x107 => (gI h (.ref l0) 14 50).bind fun x112 => if x112 = 0 then (s_X14_isLinear_152 k88 l0 l2 l3 x107 l0 h) else ((gO h (.ref l0) 14 4).bind fun x119 => (gO h (.ref x119) 13 11).bind fun x122 => (ldI .int h (.ref x122) l3).bind fun x126 => (gO h (.ref l0) 14 4).bind fun x128 => (gO h (.ref x128) 13 10).bind fun x131 => (ldI .int h (.ref x131) l3).bind fun x135 => if x126 = x135 then (if ((l2 >>> (x107 &&& 31)) &&& 1) = 0 then (s_X14_isLinear_153 k88 l0 l2 l3 x107 1 l0 h) else (s_X14_isLinear_152 k88 l0 l2 l3 x107 l0 h)) else (s_X14_isLinear_152 k88 l0 l2 l3 x107 l0 h)))
def s_X14_isLinear_88  (n : Nat) : Nat → Int32 → Int32 → aH → aO := lpF (fun _ _ _ _ => none) (s_X14_isLinear_88_b ) n
def s_X14_isLinear_58_b  (k58 : Nat → Int32 → aH → aO) (l0 : Nat) (l2 : Int32) (h : aH) : aO :=
  if 6 ≤ l2 then (s_X14_isLinear_88 FU l0 0 0 h) else ((gO h (.ref l0) 14 46).bind fun x65 => (stI h (.ref x65) l2 0).bind fun h70 => (gO h70 (.ref l0) 14 47).bind fun x72 => (stI h70 (.ref x72) l2 0).bind fun h77 => k58 l0 (l2 + 1) h77)
def s_X14_isLinear_58  (n : Nat) : Nat → Int32 → aH → aO := lpF (fun _ _ _ => none) (s_X14_isLinear_58_b ) n
def s_X14_isLinear_49 (k17 : Nat → Int32 → Int32 → aH → aO) (l0 : Nat) (l1 : Int32) (l2 : Int32) (s0 : Int32) (s1 : Int32) (s2 : Nat) (h : aH) : aO :=
  (stI h (.ref s2) s1 s0).bind fun h49 => k17 l0 l1 (l2 + 1) h49
def s_X14_isLinear_48 (k17 : Nat → Int32 → Int32 → aH → aO) (l0 : Nat) (l1 : Int32) (l2 : Int32) (s0 : Int32) (s1 : Nat) (h : aH) : aO :=
  s_X14_isLinear_49 k17 l0 l1 l2 0 s0 s1 h
def s_X14_isLinear_17_b  (k17 : Nat → Int32 → Int32 → aH → aO) (l0 : Nat) (l1 : Int32) (l2 : Int32) (h : aH) : aO :=
  if 9 ≤ l2 then (s_X14_isLinear_58 FU l0 0 h) else ((gO h (.ref l0) 14 45).bind fun x24 => nz 3 (nz 3 (if (l2 / 3) = (l2 - l2 / 3 * 3) then (nz 3 (if l1 ≤ (l2 / 3) then (s_X14_isLinear_48 k17 l0 l1 l2 l2 x24 h) else (s_X14_isLinear_49 k17 l0 l1 l2 1 l2 x24 h))) else (s_X14_isLinear_48 k17 l0 l1 l2 l2 x24 h))))
def s_X14_isLinear_17  (n : Nat) : Nat → Int32 → Int32 → aH → aO := lpF (fun _ _ _ _ => none) (s_X14_isLinear_17_b ) n
def s_X14_isLinear (o : Nat) (h : aH) : aO :=
  (pZ h (.ref o) 14 50 1).bind fun h2 => (gO h2 (.ref o) 14 4).bind fun x6 => (gO h2 (.ref x6) 13 0).bind fun x9 => (ldI .int h2 (.ref x9) 0).bind fun x13 => s_X14_isLinear_17 FU o x13 0 h2
section
variable {p : Program} {l : Launch} {e : Env} {s : State} {m : MethodId} {args : Array Value} {below : List Frame} {meth : Method} {c : Code} {D : va_G} {B0 : Nat} {X : Nat → Nat} {ws0 : va_W} {r : aR} {h' : aH} {mc ms : Nat}
theorem t_X14_isLinear_315_b (C : Cx p l s m args meth c B0 X RX14 "isLinear" cX14_isLinear 6 (some .boolean) []) {k266 : Nat → Int32 → aH → aO} (K266 : ∀ (l0 : Nat) (l3 : Int32) (h : aH), k266 l0 l3 h = some (r, h') → Ev p l e { frames := 2, cells := mc, slots := ms, locals := 53 } s m args below meth c D B0 X ws0 r h' mc ms 6 mc ms 266 [some (.ref l0), none, none, some (.int l3), none, none] [] h) {k315 : Nat → Int32 → Int32 → aH → aO} (K315 : ∀ (l0 : Nat) (l3 : Int32) (l4 : Int32) (h : aH), k315 l0 l3 l4 h = some (r, h') → Ev p l e { frames := 2, cells := mc, slots := ms, locals := 53 } s m args below meth c D B0 X ws0 r h' mc ms 6 mc ms 315 [some (.ref l0), none, none, some (.int l3), some (.int l4), none] [] h) {l0 : Nat} {l3 : Int32} {l4 : Int32} {h : aH} (hs : s_X14_isLinear_315_b k266 k315 l0 l3 l4 h = some (r, h')) : Ev p l e { frames := 2, cells := mc, slots := ms, locals := 53 } s m args below meth c D B0 X ws0 r h' mc ms 6 mc ms 315 [some (.ref l0), none, none, some (.int l3), some (.int l4), none] [] h := by
  unfold s_X14_isLinear_315_b at hs
  refine ev_iload C rfl dX14_isLinear_315 ?_
  refine ev_iconst C (v := 3) dX14_isLinear_317 (by decide) ?_
  refine ev_icmp_ge C (tgt := 346) (by decide) dX14_isLinear_318 (fun q318 => ?_) (fun q318 => ?_)
  · replace hs := (if_pos q318).symm.trans hs
    refine ev_iinc C (i := 3) (n := 1) (x := l3) (v := l3 + 1) rfl (congrArg (fun z => l3 + z) (show Int32.ofInt 1 = 1 by decide)) (by decide) dX14_isLinear_346 ?_
    refine ev_goto C (tgt := 266) (by decide) dX14_isLinear_349 ?_
    exact Ev.keep [true, true, true, true, false, true] (K266 _ _ _ hs)
  · replace hs := (if_neg q318).symm.trans hs
    refine ev_aload_n C (x := .ref l0) rfl trivial dX14_isLinear_321 ?_
    obtain ⟨x322, e322, hs⟩ := aB hs
    refine ev_get C (ci := 14) (k := 47) rfl wu_14 (by decide) wf_X14_100 (gO_F e322) dX14_isLinear_322 ?_
    refine ev_iconst C (v := 3) dX14_isLinear_325 (by decide) ?_
    refine ev_iload_n C rfl dX14_isLinear_326 ?_
    refine ev_imul C dX14_isLinear_327 ?_
    refine ev_iload C rfl dX14_isLinear_328 ?_
    refine ev_iadd C dX14_isLinear_330 ?_
    refine ev_aload_n C (x := .ref l0) rfl trivial dX14_isLinear_331 ?_
    obtain ⟨x332, e332, hs⟩ := aB hs
    refine ev_get C (ci := 14) (k := 44) rfl wu_14 (by decide) wf_X14_90 (gO_F e332) dX14_isLinear_332 ?_
    refine ev_iload C rfl dX14_isLinear_335 ?_
    obtain ⟨x337, e337, hs⟩ := aB hs
    refine ev_lald C e337 dX14_isLinear_337 ?_
    refine ev_l2i C dX14_isLinear_338 ?_
    obtain ⟨h339, e339, hs⟩ := aB hs
    refine ev_iast C e339 dX14_isLinear_339 ?_
    refine ev_iinc C (i := 4) (n := 1) (x := l4) (v := l4 + 1) rfl (congrArg (fun z => l4 + z) (show Int32.ofInt 1 = 1 by decide)) (by decide) dX14_isLinear_340 ?_
    refine ev_goto C (tgt := 315) (by decide) dX14_isLinear_343 ?_
    exact (K315 _ _ _ _ hs)
theorem t_X14_isLinear_315 (C : Cx p l s m args meth c B0 X RX14 "isLinear" cX14_isLinear 6 (some .boolean) []) {k266 : Nat → Int32 → aH → aO} (K266 : ∀ (l0 : Nat) (l3 : Int32) (h : aH), k266 l0 l3 h = some (r, h') → Ev p l e { frames := 2, cells := mc, slots := ms, locals := 53 } s m args below meth c D B0 X ws0 r h' mc ms 6 mc ms 266 [some (.ref l0), none, none, some (.int l3), none, none] [] h) : ∀ (n : Nat) {l0 : Nat} {l3 : Int32} {l4 : Int32} {h : aH} (hs : s_X14_isLinear_315 k266 n l0 l3 l4 h = some (r, h')), Ev p l e { frames := 2, cells := mc, slots := ms, locals := 53 } s m args below meth c D B0 X ws0 r h' mc ms 6 mc ms 315 [some (.ref l0), none, none, some (.int l3), some (.int l4), none] [] h
  | 0, _, _, _, _, hs => nomatch hs
  | n + 1, _, _, _, _, hs => t_X14_isLinear_315_b C K266 (k315 := s_X14_isLinear_315 k266 n) (fun _ _ _ _ hs => t_X14_isLinear_315 C K266 n hs) hs
theorem t_X14_isLinear_266_b (C : Cx p l s m args meth c B0 X RX14 "isLinear" cX14_isLinear 6 (some .boolean) [])   {k266 : Nat → Int32 → aH → aO} (K266 : ∀ (l0 : Nat) (l3 : Int32) (h : aH), k266 l0 l3 h = some (r, h') → Ev p l e { frames := 2, cells := mc, slots := ms, locals := 53 } s m args below meth c D B0 X ws0 r h' mc ms 6 mc ms 266 [some (.ref l0), none, none, some (.int l3), none, none] [] h) {l0 : Nat} {l3 : Int32} {h : aH} (hs : s_X14_isLinear_266_b  k266 l0 l3 h = some (r, h')) : Ev p l e { frames := 2, cells := mc, slots := ms, locals := 53 } s m args below meth c D B0 X ws0 r h' mc ms 6 mc ms 266 [some (.ref l0), none, none, some (.int l3), none, none] [] h := by
  unfold s_X14_isLinear_266_b at hs
  refine ev_iload_n C rfl dX14_isLinear_266 ?_
  refine ev_aload_n C (x := .ref l0) rfl trivial dX14_isLinear_267 ?_
  obtain ⟨x268, e268, hs⟩ := aB hs
  refine ev_get C (ci := 14) (k := 4) rfl wu_14 (by decide) wf_X14_376 (gO_F e268) dX14_isLinear_268 ?_
  obtain ⟨x271, e271, hs⟩ := aB hs
  refine ev_getN C (ci := 13) (k := 0) rfl wu_13 (by decide) wg_X14_252 (gO_F e271) dX14_isLinear_271 ?_
  refine ev_iconst C (v := 4) dX14_isLinear_274 (by decide) ?_
  obtain ⟨x275, e275, hs⟩ := aB hs
  refine ev_iald C e275 dX14_isLinear_275 ?_
  refine ev_icmp_ge C (tgt := 352) (by decide) dX14_isLinear_276 (fun q276 => ?_) (fun q276 => ?_)
  · replace hs := (if_pos q276).symm.trans hs
    refine ev_aload_n C (x := .ref l0) rfl trivial dX14_isLinear_352 ?_
    obtain ⟨x353, e353, hs⟩ := aB hs
    refine ev_get C (ci := 14) (k := 50) rfl wu_14 (by decide) wf_X14_543 (gI_F e353) dX14_isLinear_353 ?_
    obtain ⟨hz, rfl, rfl⟩ := rtZ_at hs
    exact ev_zret C rfl hz rfl (Nat.le_refl _) (Nat.le_refl _) rfl dX14_isLinear_356
  · replace hs := (if_neg q276).symm.trans hs
    refine ev_aload_n C (x := .ref l0) rfl trivial dX14_isLinear_279 ?_
    refine ev_aload_n C (x := .ref l0) rfl trivial dX14_isLinear_280 ?_
    obtain ⟨x281, e281, hs⟩ := aB hs
    refine ev_get C (ci := 14) (k := 4) rfl wu_14 (by decide) wf_X14_376 (gO_F e281) dX14_isLinear_281 ?_
    obtain ⟨x284, e284, hs⟩ := aB hs
    refine ev_getN C (ci := 13) (k := 3) rfl wu_13 (by decide) wg_X14_292 (gO_F e284) dX14_isLinear_284 ?_
    refine ev_iconst C (v := 4) dX14_isLinear_287 (by decide) ?_
    obtain ⟨x288, h288, e288, hs⟩ := cI_at hs
    refine ev_callS C (T_X14_slotOf _ _ _ _ e288) wc_X14_slotOf wm_X14_246 wt_X14_slotOf wz_X14 hy_X14_slotOf ⟨(Nat.le_of_ble_eq_true rfl), (Nat.le_of_ble_eq_true rfl)⟩ ⟨(Nat.le_refl _), (Nat.le_refl _)⟩ (Nat.le_of_ble_eq_true rfl) rfl dX14_isLinear_288 ?_
    refine ev_iload_n C rfl dX14_isLinear_291 ?_
    refine ev_iadd C dX14_isLinear_292 ?_
    obtain ⟨x293, e293, hs⟩ := aB hs
    refine ev_iald C e293 dX14_isLinear_293 ?_
    refine ev_aload_n C (x := .ref l0) rfl trivial dX14_isLinear_294 ?_
    obtain ⟨x295, e295, hs⟩ := aB hs
    refine ev_get C (ci := 14) (k := 4) rfl wu_14 (by decide) wf_X14_376 (gO_F e295) dX14_isLinear_295 ?_
    obtain ⟨x298, e298, hs⟩ := aB hs
    refine ev_getN C (ci := 13) (k := 4) rfl wu_13 (by decide) wg_X14_301 (gO_F e298) dX14_isLinear_298 ?_
    refine ev_iconst C (v := 4) dX14_isLinear_301 (by decide) ?_
    obtain ⟨x302, h302, e302, hs⟩ := cI_at hs
    refine ev_callS C (T_X14_slotOf _ _ _ _ e302) wc_X14_slotOf wm_X14_246 wt_X14_slotOf wz_X14 hy_X14_slotOf ⟨(Nat.le_of_ble_eq_true rfl), (Nat.le_of_ble_eq_true rfl)⟩ ⟨(Nat.le_refl _), (Nat.le_refl _)⟩ (Nat.le_of_ble_eq_true rfl) rfl dX14_isLinear_302 ?_
    refine ev_iload_n C rfl dX14_isLinear_305 ?_
    refine ev_iadd C dX14_isLinear_306 ?_
    obtain ⟨x307, e307, hs⟩ := aB hs
    refine ev_iald C e307 dX14_isLinear_307 ?_
    refine ev_iconst C (v := 3) dX14_isLinear_308 (by decide) ?_
    obtain ⟨eo309, hs⟩ := kO_at hs
    obtain ⟨h309, e309, hs⟩ := cN_at hs
    refine ev_callV C (T_X14_factorsOf _ _ _ _ _ _ _ e309) (ci := 14) rfl eo309 wc_X14_factorsOf wm_X14_554 wi_X14_factorsOf ws_X14_factorsOf wz_X14 hy_X14_factorsOf ⟨(Nat.le_of_ble_eq_true rfl), (Nat.le_of_ble_eq_true rfl)⟩ ⟨(Nat.le_refl _), (Nat.le_refl _)⟩ (Nat.le_of_ble_eq_true rfl) rfl dX14_isLinear_309 ?_
    refine ev_iconst C (v := 0) dX14_isLinear_312 (by decide) ?_
    refine ev_istore C (by decide) dX14_isLinear_313 ?_
    exact (t_X14_isLinear_315 C K266 FU hs)
theorem t_X14_isLinear_266 (C : Cx p l s m args meth c B0 X RX14 "isLinear" cX14_isLinear 6 (some .boolean) [])   : ∀ (n : Nat) {l0 : Nat} {l3 : Int32} {h : aH} (hs : s_X14_isLinear_266  n l0 l3 h = some (r, h')), Ev p l e { frames := 2, cells := mc, slots := ms, locals := 53 } s m args below meth c D B0 X ws0 r h' mc ms 6 mc ms 266 [some (.ref l0), none, none, some (.int l3), none, none] [] h
  | 0, _, _, _, hs => nomatch hs
  | n + 1, _, _, _, hs => t_X14_isLinear_266_b C  (k266 := s_X14_isLinear_266  n) (fun _ _ _ hs => t_X14_isLinear_266 C  n hs) hs
theorem t_X14_isLinear_224_b (C : Cx p l s m args meth c B0 X RX14 "isLinear" cX14_isLinear 6 (some .boolean) []) {k88 : Nat → Int32 → Int32 → aH → aO} (K88 : ∀ (l0 : Nat) (l2 : Int32) (l3 : Int32) (h : aH), k88 l0 l2 l3 h = some (r, h') → Ev p l e { frames := 2, cells := mc, slots := ms, locals := 53 } s m args below meth c D B0 X ws0 r h' mc ms 6 mc ms 88 [some (.ref l0), none, some (.int l2), some (.int l3), none, none] [] h) {k224 : Nat → Int32 → Int32 → Int32 → Int32 → aH → aO} (K224 : ∀ (l0 : Nat) (l2 : Int32) (l3 : Int32) (l4 : Int32) (l5 : Int32) (h : aH), k224 l0 l2 l3 l4 l5 h = some (r, h') → Ev p l e { frames := 2, cells := mc, slots := ms, locals := 53 } s m args below meth c D B0 X ws0 r h' mc ms 6 mc ms 224 [some (.ref l0), none, some (.int l2), some (.int l3), some (.int l4), some (.int l5)] [] h) {l0 : Nat} {l2 : Int32} {l3 : Int32} {l4 : Int32} {l5 : Int32} {h : aH} (hs : s_X14_isLinear_224_b k88 k224 l0 l2 l3 l4 l5 h = some (r, h')) : Ev p l e { frames := 2, cells := mc, slots := ms, locals := 53 } s m args below meth c D B0 X ws0 r h' mc ms 6 mc ms 224 [some (.ref l0), none, some (.int l2), some (.int l3), some (.int l4), some (.int l5)] [] h := by
  unfold s_X14_isLinear_224_b at hs
  refine ev_iload C rfl dX14_isLinear_224 ?_
  refine ev_iconst C (v := 2) dX14_isLinear_226 (by decide) ?_
  refine ev_icmp_ge C (tgt := 258) (by decide) dX14_isLinear_227 (fun q227 => ?_) (fun q227 => ?_)
  · replace hs := (if_pos q227).symm.trans hs
    refine ev_iinc C (i := 3) (n := 1) (x := l3) (v := l3 + 1) rfl (congrArg (fun z => l3 + z) (show Int32.ofInt 1 = 1 by decide)) (by decide) dX14_isLinear_258 ?_
    refine ev_goto C (tgt := 88) (by decide) dX14_isLinear_261 ?_
    exact Ev.keep [true, true, true, true, false, false] (K88 _ _ _ _ hs)
  · replace hs := (if_neg q227).symm.trans hs
    refine ev_aload_n C (x := .ref l0) rfl trivial dX14_isLinear_230 ?_
    obtain ⟨x231, e231, hs⟩ := aB hs
    refine ev_get C (ci := 14) (k := 46) rfl wu_14 (by decide) wf_X14_97 (gO_F e231) dX14_isLinear_231 ?_
    refine ev_iconst C (v := 2) dX14_isLinear_234 (by decide) ?_
    refine ev_iload C rfl dX14_isLinear_235 ?_
    refine ev_imul C dX14_isLinear_237 ?_
    refine ev_iload C rfl dX14_isLinear_238 ?_
    refine ev_iadd C dX14_isLinear_240 ?_
    refine ev_aload_n C (x := .ref l0) rfl trivial dX14_isLinear_241 ?_
    obtain ⟨x242, e242, hs⟩ := aB hs
    refine ev_get C (ci := 14) (k := 44) rfl wu_14 (by decide) wf_X14_90 (gO_F e242) dX14_isLinear_242 ?_
    refine ev_iconst C (v := 3) dX14_isLinear_245 (by decide) ?_
    refine ev_iload C rfl dX14_isLinear_246 ?_
    refine ev_iadd C dX14_isLinear_248 ?_
    obtain ⟨x249, e249, hs⟩ := aB hs
    refine ev_lald C e249 dX14_isLinear_249 ?_
    refine ev_l2i C dX14_isLinear_250 ?_
    obtain ⟨h251, e251, hs⟩ := aB hs
    refine ev_iast C e251 dX14_isLinear_251 ?_
    refine ev_iinc C (i := 5) (n := 1) (x := l5) (v := l5 + 1) rfl (congrArg (fun z => l5 + z) (show Int32.ofInt 1 = 1 by decide)) (by decide) dX14_isLinear_252 ?_
    refine ev_goto C (tgt := 224) (by decide) dX14_isLinear_255 ?_
    exact (K224 _ _ _ _ _ _ hs)
theorem t_X14_isLinear_224 (C : Cx p l s m args meth c B0 X RX14 "isLinear" cX14_isLinear 6 (some .boolean) []) {k88 : Nat → Int32 → Int32 → aH → aO} (K88 : ∀ (l0 : Nat) (l2 : Int32) (l3 : Int32) (h : aH), k88 l0 l2 l3 h = some (r, h') → Ev p l e { frames := 2, cells := mc, slots := ms, locals := 53 } s m args below meth c D B0 X ws0 r h' mc ms 6 mc ms 88 [some (.ref l0), none, some (.int l2), some (.int l3), none, none] [] h) : ∀ (n : Nat) {l0 : Nat} {l2 : Int32} {l3 : Int32} {l4 : Int32} {l5 : Int32} {h : aH} (hs : s_X14_isLinear_224 k88 n l0 l2 l3 l4 l5 h = some (r, h')), Ev p l e { frames := 2, cells := mc, slots := ms, locals := 53 } s m args below meth c D B0 X ws0 r h' mc ms 6 mc ms 224 [some (.ref l0), none, some (.int l2), some (.int l3), some (.int l4), some (.int l5)] [] h
  | 0, _, _, _, _, _, _, hs => nomatch hs
  | n + 1, _, _, _, _, _, _, hs => t_X14_isLinear_224_b C K88 (k224 := s_X14_isLinear_224 k88 n) (fun _ _ _ _ _ _ hs => t_X14_isLinear_224 C K88 n hs) hs
theorem t_X14_isLinear_189_b (C : Cx p l s m args meth c B0 X RX14 "isLinear" cX14_isLinear 6 (some .boolean) []) {k88 : Nat → Int32 → Int32 → aH → aO} (K88 : ∀ (l0 : Nat) (l2 : Int32) (l3 : Int32) (h : aH), k88 l0 l2 l3 h = some (r, h') → Ev p l e { frames := 2, cells := mc, slots := ms, locals := 53 } s m args below meth c D B0 X ws0 r h' mc ms 6 mc ms 88 [some (.ref l0), none, some (.int l2), some (.int l3), none, none] [] h) {k189 : Nat → Int32 → Int32 → Int32 → Int32 → aH → aO} (K189 : ∀ (l0 : Nat) (l2 : Int32) (l3 : Int32) (l4 : Int32) (l5 : Int32) (h : aH), k189 l0 l2 l3 l4 l5 h = some (r, h') → Ev p l e { frames := 2, cells := mc, slots := ms, locals := 53 } s m args below meth c D B0 X ws0 r h' mc ms 6 mc ms 189 [some (.ref l0), none, some (.int l2), some (.int l3), some (.int l4), some (.int l5)] [] h) {l0 : Nat} {l2 : Int32} {l3 : Int32} {l4 : Int32} {l5 : Int32} {h : aH} (hs : s_X14_isLinear_189_b k88 k189 l0 l2 l3 l4 l5 h = some (r, h')) : Ev p l e { frames := 2, cells := mc, slots := ms, locals := 53 } s m args below meth c D B0 X ws0 r h' mc ms 6 mc ms 189 [some (.ref l0), none, some (.int l2), some (.int l3), some (.int l4), some (.int l5)] [] h := by
  unfold s_X14_isLinear_189_b at hs
  refine ev_iload C rfl dX14_isLinear_189 ?_
  refine ev_iconst C (v := 3) dX14_isLinear_191 (by decide) ?_
  refine ev_icmp_ge C (tgt := 221) (by decide) dX14_isLinear_192 (fun q192 => ?_) (fun q192 => ?_)
  · replace hs := (if_pos q192).symm.trans hs
    refine ev_iconst C (v := 0) dX14_isLinear_221 (by decide) ?_
    refine ev_istore C (by decide) dX14_isLinear_222 ?_
    exact (t_X14_isLinear_224 C K88 FU hs)
  · replace hs := (if_neg q192).symm.trans hs
    refine ev_aload_n C (x := .ref l0) rfl trivial dX14_isLinear_195 ?_
    obtain ⟨x196, e196, hs⟩ := aB hs
    refine ev_get C (ci := 14) (k := 45) rfl wu_14 (by decide) wf_X14_94 (gO_F e196) dX14_isLinear_196 ?_
    refine ev_iconst C (v := 3) dX14_isLinear_199 (by decide) ?_
    refine ev_iload C rfl dX14_isLinear_200 ?_
    refine ev_imul C dX14_isLinear_202 ?_
    refine ev_iload C rfl dX14_isLinear_203 ?_
    refine ev_iadd C dX14_isLinear_205 ?_
    refine ev_aload_n C (x := .ref l0) rfl trivial dX14_isLinear_206 ?_
    obtain ⟨x207, e207, hs⟩ := aB hs
    refine ev_get C (ci := 14) (k := 44) rfl wu_14 (by decide) wf_X14_90 (gO_F e207) dX14_isLinear_207 ?_
    refine ev_iload C rfl dX14_isLinear_210 ?_
    obtain ⟨x212, e212, hs⟩ := aB hs
    refine ev_lald C e212 dX14_isLinear_212 ?_
    refine ev_l2i C dX14_isLinear_213 ?_
    obtain ⟨h214, e214, hs⟩ := aB hs
    refine ev_iast C e214 dX14_isLinear_214 ?_
    refine ev_iinc C (i := 5) (n := 1) (x := l5) (v := l5 + 1) rfl (congrArg (fun z => l5 + z) (show Int32.ofInt 1 = 1 by decide)) (by decide) dX14_isLinear_215 ?_
    refine ev_goto C (tgt := 189) (by decide) dX14_isLinear_218 ?_
    exact (K189 _ _ _ _ _ _ hs)
theorem t_X14_isLinear_189 (C : Cx p l s m args meth c B0 X RX14 "isLinear" cX14_isLinear 6 (some .boolean) []) {k88 : Nat → Int32 → Int32 → aH → aO} (K88 : ∀ (l0 : Nat) (l2 : Int32) (l3 : Int32) (h : aH), k88 l0 l2 l3 h = some (r, h') → Ev p l e { frames := 2, cells := mc, slots := ms, locals := 53 } s m args below meth c D B0 X ws0 r h' mc ms 6 mc ms 88 [some (.ref l0), none, some (.int l2), some (.int l3), none, none] [] h) : ∀ (n : Nat) {l0 : Nat} {l2 : Int32} {l3 : Int32} {l4 : Int32} {l5 : Int32} {h : aH} (hs : s_X14_isLinear_189 k88 n l0 l2 l3 l4 l5 h = some (r, h')), Ev p l e { frames := 2, cells := mc, slots := ms, locals := 53 } s m args below meth c D B0 X ws0 r h' mc ms 6 mc ms 189 [some (.ref l0), none, some (.int l2), some (.int l3), some (.int l4), some (.int l5)] [] h
  | 0, _, _, _, _, _, _, hs => nomatch hs
  | n + 1, _, _, _, _, _, _, hs => t_X14_isLinear_189_b C K88 (k189 := s_X14_isLinear_189 k88 n) (fun _ _ _ _ _ _ hs => t_X14_isLinear_189 C K88 n hs) hs
theorem t_X14_isLinear_153 (C : Cx p l s m args meth c B0 X RX14 "isLinear" cX14_isLinear 6 (some .boolean) []) {k88 : Nat → Int32 → Int32 → aH → aO} (K88 : ∀ (l0 : Nat) (l2 : Int32) (l3 : Int32) (h : aH), k88 l0 l2 l3 h = some (r, h') → Ev p l e { frames := 2, cells := mc, slots := ms, locals := 53 } s m args below meth c D B0 X ws0 r h' mc ms 6 mc ms 88 [some (.ref l0), none, some (.int l2), some (.int l3), none, none] [] h) {l0 : Nat} {l2 : Int32} {l3 : Int32} {l4 : Int32} {s0 : Int32} {s1 : Nat} {h : aH} (hs : s_X14_isLinear_153 k88 l0 l2 l3 l4 s0 s1 h = some (r, h')) : Ev p l e { frames := 2, cells := mc, slots := ms, locals := 53 } s m args below meth c D B0 X ws0 r h' mc ms 6 mc ms 153 [some (.ref l0), none, some (.int l2), some (.int l3), some (.int l4), none] [.int s0, .ref s1] h := by
  unfold s_X14_isLinear_153 at hs
  obtain ⟨h153, e153, hs⟩ := aB hs
  refine ev_put C (ci := 14) (k := 50) rfl wu_14 (by decide) tyX14 tyX14_ok nmX14 wf_X14_543 rfl (pZ_F e153).2 (pZ_F e153).1 dX14_isLinear_153 ?_
  refine ev_iload_n C rfl dX14_isLinear_156 ?_
  refine ev_iconst C (v := 1) dX14_isLinear_157 (by decide) ?_
  refine ev_iload C rfl dX14_isLinear_158 ?_
  refine ev_ishl C dX14_isLinear_160 ?_
  refine ev_ior C dX14_isLinear_161 ?_
  refine ev_istore_n C (by decide) dX14_isLinear_162 ?_
  refine ev_aload_n C (x := .ref l0) rfl trivial dX14_isLinear_163 ?_
  refine ev_aload_n C (x := .ref l0) rfl trivial dX14_isLinear_164 ?_
  obtain ⟨x165, e165, hs⟩ := aB hs
  refine ev_get C (ci := 14) (k := 4) rfl wu_14 (by decide) wf_X14_376 (gO_F e165) dX14_isLinear_165 ?_
  obtain ⟨x168, e168, hs⟩ := aB hs
  refine ev_getN C (ci := 13) (k := 9) rfl wu_13 (by decide) wg_X14_326 (gO_F e168) dX14_isLinear_168 ?_
  refine ev_iload_n C rfl dX14_isLinear_171 ?_
  obtain ⟨x172, e172, hs⟩ := aB hs
  refine ev_iald C e172 dX14_isLinear_172 ?_
  refine ev_aload_n C (x := .ref l0) rfl trivial dX14_isLinear_173 ?_
  obtain ⟨x174, e174, hs⟩ := aB hs
  refine ev_get C (ci := 14) (k := 4) rfl wu_14 (by decide) wf_X14_376 (gO_F e174) dX14_isLinear_174 ?_
  obtain ⟨x177, e177, hs⟩ := aB hs
  refine ev_getN C (ci := 13) (k := 10) rfl wu_13 (by decide) wg_X14_329 (gO_F e177) dX14_isLinear_177 ?_
  refine ev_iload_n C rfl dX14_isLinear_180 ?_
  obtain ⟨x181, e181, hs⟩ := aB hs
  refine ev_iald C e181 dX14_isLinear_181 ?_
  refine ev_iconst C (v := 5) dX14_isLinear_182 (by decide) ?_
  obtain ⟨eo183, hs⟩ := kO_at hs
  obtain ⟨h183, e183, hs⟩ := cN_at hs
  refine ev_callV C (T_X14_factorsOf _ _ _ _ _ _ _ e183) (ci := 14) rfl eo183 wc_X14_factorsOf wm_X14_554 wi_X14_factorsOf ws_X14_factorsOf wz_X14 hy_X14_factorsOf ⟨(Nat.le_of_ble_eq_true rfl), (Nat.le_of_ble_eq_true rfl)⟩ ⟨(Nat.le_refl _), (Nat.le_refl _)⟩ (Nat.le_of_ble_eq_true rfl) rfl dX14_isLinear_183 ?_
  refine ev_iconst C (v := 0) dX14_isLinear_186 (by decide) ?_
  refine ev_istore C (by decide) dX14_isLinear_187 ?_
  exact (t_X14_isLinear_189 C K88 FU hs)
theorem t_X14_isLinear_152 (C : Cx p l s m args meth c B0 X RX14 "isLinear" cX14_isLinear 6 (some .boolean) []) {k88 : Nat → Int32 → Int32 → aH → aO} (K88 : ∀ (l0 : Nat) (l2 : Int32) (l3 : Int32) (h : aH), k88 l0 l2 l3 h = some (r, h') → Ev p l e { frames := 2, cells := mc, slots := ms, locals := 53 } s m args below meth c D B0 X ws0 r h' mc ms 6 mc ms 88 [some (.ref l0), none, some (.int l2), some (.int l3), none, none] [] h) {l0 : Nat} {l2 : Int32} {l3 : Int32} {l4 : Int32} {s0 : Nat} {h : aH} (hs : s_X14_isLinear_152 k88 l0 l2 l3 l4 s0 h = some (r, h')) : Ev p l e { frames := 2, cells := mc, slots := ms, locals := 53 } s m args below meth c D B0 X ws0 r h' mc ms 6 mc ms 152 [some (.ref l0), none, some (.int l2), some (.int l3), some (.int l4), none] [.ref s0] h := by
  unfold s_X14_isLinear_152 at hs
  refine ev_iconst C (v := 0) dX14_isLinear_152 (by decide) ?_
  exact (t_X14_isLinear_153 C K88 hs)
theorem t_X14_isLinear_88_b (C : Cx p l s m args meth c B0 X RX14 "isLinear" cX14_isLinear 6 (some .boolean) [])   {k88 : Nat → Int32 → Int32 → aH → aO} (K88 : ∀ (l0 : Nat) (l2 : Int32) (l3 : Int32) (h : aH), k88 l0 l2 l3 h = some (r, h') → Ev p l e { frames := 2, cells := mc, slots := ms, locals := 53 } s m args below meth c D B0 X ws0 r h' mc ms 6 mc ms 88 [some (.ref l0), none, some (.int l2), some (.int l3), none, none] [] h) {l0 : Nat} {l2 : Int32} {l3 : Int32} {h : aH} (hs : s_X14_isLinear_88_b  k88 l0 l2 l3 h = some (r, h')) : Ev p l e { frames := 2, cells := mc, slots := ms, locals := 53 } s m args below meth c D B0 X ws0 r h' mc ms 6 mc ms 88 [some (.ref l0), none, some (.int l2), some (.int l3), none, none] [] h := by
  unfold s_X14_isLinear_88_b at hs
  refine ev_iload_n C rfl dX14_isLinear_88 ?_
  refine ev_aload_n C (x := .ref l0) rfl trivial dX14_isLinear_89 ?_
  obtain ⟨x90, e90, hs⟩ := aB hs
  refine ev_get C (ci := 14) (k := 4) rfl wu_14 (by decide) wf_X14_376 (gO_F e90) dX14_isLinear_90 ?_
  obtain ⟨x93, e93, hs⟩ := aB hs
  refine ev_getN C (ci := 13) (k := 6) rfl wu_13 (by decide) wg_X14_320 (gI_F e93) dX14_isLinear_93 ?_
  refine ev_icmp_ge C (tgt := 264) (by decide) dX14_isLinear_96 (fun q96 => ?_) (fun q96 => ?_)
  · replace hs := (if_pos q96).symm.trans hs
    refine ev_iconst C (v := 0) dX14_isLinear_264 (by decide) ?_
    refine ev_istore_n C (by decide) dX14_isLinear_265 ?_
    exact Ev.keep [true, true, false, true, true, true] (t_X14_isLinear_266 C  FU hs)
  · replace hs := (if_neg q96).symm.trans hs
    refine ev_aload_n C (x := .ref l0) rfl trivial dX14_isLinear_99 ?_
    obtain ⟨x100, e100, hs⟩ := aB hs
    refine ev_get C (ci := 14) (k := 4) rfl wu_14 (by decide) wf_X14_376 (gO_F e100) dX14_isLinear_100 ?_
    obtain ⟨x103, e103, hs⟩ := aB hs
    refine ev_getN C (ci := 13) (k := 8) rfl wu_13 (by decide) wg_X14_323 (gO_F e103) dX14_isLinear_103 ?_
    refine ev_iload_n C rfl dX14_isLinear_106 ?_
    obtain ⟨x107, e107, hs⟩ := aB hs
    refine ev_iald C e107 dX14_isLinear_107 ?_
    refine ev_istore C (by decide) dX14_isLinear_108 ?_
    refine ev_aload_n C (x := .ref l0) rfl trivial dX14_isLinear_110 ?_
    refine ev_aload_n C (x := .ref l0) rfl trivial dX14_isLinear_111 ?_
    obtain ⟨x112, e112, hs⟩ := aB hs
    refine ev_get C (ci := 14) (k := 50) rfl wu_14 (by decide) wf_X14_543 (gI_F e112) dX14_isLinear_112 ?_
    refine ev_if_eq C (tgt := 152) (by decide) dX14_isLinear_115 (fun q115 => ?_) (fun q115 => ?_)
    · replace hs := (if_pos q115).symm.trans hs
      exact (t_X14_isLinear_152 C K88 hs)
    · replace hs := (if_neg q115).symm.trans hs
      refine ev_aload_n C (x := .ref l0) rfl trivial dX14_isLinear_118 ?_
      obtain ⟨x119, e119, hs⟩ := aB hs
      refine ev_get C (ci := 14) (k := 4) rfl wu_14 (by decide) wf_X14_376 (gO_F e119) dX14_isLinear_119 ?_
      obtain ⟨x122, e122, hs⟩ := aB hs
      refine ev_getN C (ci := 13) (k := 11) rfl wu_13 (by decide) wg_X14_335 (gO_F e122) dX14_isLinear_122 ?_
      refine ev_iload_n C rfl dX14_isLinear_125 ?_
      obtain ⟨x126, e126, hs⟩ := aB hs
      refine ev_iald C e126 dX14_isLinear_126 ?_
      refine ev_aload_n C (x := .ref l0) rfl trivial dX14_isLinear_127 ?_
      obtain ⟨x128, e128, hs⟩ := aB hs
      refine ev_get C (ci := 14) (k := 4) rfl wu_14 (by decide) wf_X14_376 (gO_F e128) dX14_isLinear_128 ?_
      obtain ⟨x131, e131, hs⟩ := aB hs
      refine ev_getN C (ci := 13) (k := 10) rfl wu_13 (by decide) wg_X14_329 (gO_F e131) dX14_isLinear_131 ?_
      refine ev_iload_n C rfl dX14_isLinear_134 ?_
      obtain ⟨x135, e135, hs⟩ := aB hs
      refine ev_iald C e135 dX14_isLinear_135 ?_
      refine ev_icmp_ne C (tgt := 152) (by decide) dX14_isLinear_136 (fun q136 => ?_) (fun q136 => ?_)
      · replace hs := (if_neg q136).symm.trans hs
        exact (t_X14_isLinear_152 C K88 hs)
      · replace hs := (if_pos q136).symm.trans hs
        refine ev_iload_n C rfl dX14_isLinear_139 ?_
        refine ev_iload C rfl dX14_isLinear_140 ?_
        refine ev_ishr C dX14_isLinear_142 ?_
        refine ev_iconst C (v := 1) dX14_isLinear_143 (by decide) ?_
        refine ev_iand C dX14_isLinear_144 ?_
        refine ev_if_ne C (tgt := 152) (by decide) dX14_isLinear_145 (fun q145 => ?_) (fun q145 => ?_)
        · replace hs := (if_neg q145).symm.trans hs
          exact (t_X14_isLinear_152 C K88 hs)
        · replace hs := (if_pos q145).symm.trans hs
          refine ev_iconst C (v := 1) dX14_isLinear_148 (by decide) ?_
          refine ev_goto C (tgt := 153) (by decide) dX14_isLinear_149 ?_
          exact (t_X14_isLinear_153 C K88 hs)
theorem t_X14_isLinear_88 (C : Cx p l s m args meth c B0 X RX14 "isLinear" cX14_isLinear 6 (some .boolean) [])   : ∀ (n : Nat) {l0 : Nat} {l2 : Int32} {l3 : Int32} {h : aH} (hs : s_X14_isLinear_88  n l0 l2 l3 h = some (r, h')), Ev p l e { frames := 2, cells := mc, slots := ms, locals := 53 } s m args below meth c D B0 X ws0 r h' mc ms 6 mc ms 88 [some (.ref l0), none, some (.int l2), some (.int l3), none, none] [] h
  | 0, _, _, _, _, hs => nomatch hs
  | n + 1, _, _, _, _, hs => t_X14_isLinear_88_b C  (k88 := s_X14_isLinear_88  n) (fun _ _ _ _ hs => t_X14_isLinear_88 C  n hs) hs
theorem t_X14_isLinear_58_b (C : Cx p l s m args meth c B0 X RX14 "isLinear" cX14_isLinear 6 (some .boolean) [])   {k58 : Nat → Int32 → aH → aO} (K58 : ∀ (l0 : Nat) (l2 : Int32) (h : aH), k58 l0 l2 h = some (r, h') → Ev p l e { frames := 2, cells := mc, slots := ms, locals := 53 } s m args below meth c D B0 X ws0 r h' mc ms 6 mc ms 58 [some (.ref l0), none, some (.int l2), none, none, none] [] h) {l0 : Nat} {l2 : Int32} {h : aH} (hs : s_X14_isLinear_58_b  k58 l0 l2 h = some (r, h')) : Ev p l e { frames := 2, cells := mc, slots := ms, locals := 53 } s m args below meth c D B0 X ws0 r h' mc ms 6 mc ms 58 [some (.ref l0), none, some (.int l2), none, none, none] [] h := by
  unfold s_X14_isLinear_58_b at hs
  refine ev_iload_n C rfl dX14_isLinear_58 ?_
  refine ev_bipush C (v := 6) dX14_isLinear_59 (by decide) ?_
  refine ev_icmp_ge C (tgt := 84) (by decide) dX14_isLinear_61 (fun q61 => ?_) (fun q61 => ?_)
  · replace hs := (if_pos q61).symm.trans hs
    refine ev_iconst C (v := 0) dX14_isLinear_84 (by decide) ?_
    refine ev_istore_n C (by decide) dX14_isLinear_85 ?_
    refine ev_iconst C (v := 0) dX14_isLinear_86 (by decide) ?_
    refine ev_istore_n C (by decide) dX14_isLinear_87 ?_
    exact (t_X14_isLinear_88 C  FU hs)
  · replace hs := (if_neg q61).symm.trans hs
    refine ev_aload_n C (x := .ref l0) rfl trivial dX14_isLinear_64 ?_
    obtain ⟨x65, e65, hs⟩ := aB hs
    refine ev_get C (ci := 14) (k := 46) rfl wu_14 (by decide) wf_X14_97 (gO_F e65) dX14_isLinear_65 ?_
    refine ev_iload_n C rfl dX14_isLinear_68 ?_
    refine ev_iconst C (v := 0) dX14_isLinear_69 (by decide) ?_
    obtain ⟨h70, e70, hs⟩ := aB hs
    refine ev_iast C e70 dX14_isLinear_70 ?_
    refine ev_aload_n C (x := .ref l0) rfl trivial dX14_isLinear_71 ?_
    obtain ⟨x72, e72, hs⟩ := aB hs
    refine ev_get C (ci := 14) (k := 47) rfl wu_14 (by decide) wf_X14_100 (gO_F e72) dX14_isLinear_72 ?_
    refine ev_iload_n C rfl dX14_isLinear_75 ?_
    refine ev_iconst C (v := 0) dX14_isLinear_76 (by decide) ?_
    obtain ⟨h77, e77, hs⟩ := aB hs
    refine ev_iast C e77 dX14_isLinear_77 ?_
    refine ev_iinc C (i := 2) (n := 1) (x := l2) (v := l2 + 1) rfl (congrArg (fun z => l2 + z) (show Int32.ofInt 1 = 1 by decide)) (by decide) dX14_isLinear_78 ?_
    refine ev_goto C (tgt := 58) (by decide) dX14_isLinear_81 ?_
    exact (K58 _ _ _ hs)
theorem t_X14_isLinear_58 (C : Cx p l s m args meth c B0 X RX14 "isLinear" cX14_isLinear 6 (some .boolean) [])   : ∀ (n : Nat) {l0 : Nat} {l2 : Int32} {h : aH} (hs : s_X14_isLinear_58  n l0 l2 h = some (r, h')), Ev p l e { frames := 2, cells := mc, slots := ms, locals := 53 } s m args below meth c D B0 X ws0 r h' mc ms 6 mc ms 58 [some (.ref l0), none, some (.int l2), none, none, none] [] h
  | 0, _, _, _, hs => nomatch hs
  | n + 1, _, _, _, hs => t_X14_isLinear_58_b C  (k58 := s_X14_isLinear_58  n) (fun _ _ _ hs => t_X14_isLinear_58 C  n hs) hs
theorem t_X14_isLinear_49 (C : Cx p l s m args meth c B0 X RX14 "isLinear" cX14_isLinear 6 (some .boolean) []) {k17 : Nat → Int32 → Int32 → aH → aO} (K17 : ∀ (l0 : Nat) (l1 : Int32) (l2 : Int32) (h : aH), k17 l0 l1 l2 h = some (r, h') → Ev p l e { frames := 2, cells := mc, slots := ms, locals := 53 } s m args below meth c D B0 X ws0 r h' mc ms 6 mc ms 17 [some (.ref l0), some (.int l1), some (.int l2), none, none, none] [] h) {l0 : Nat} {l1 : Int32} {l2 : Int32} {s0 : Int32} {s1 : Int32} {s2 : Nat} {h : aH} (hs : s_X14_isLinear_49 k17 l0 l1 l2 s0 s1 s2 h = some (r, h')) : Ev p l e { frames := 2, cells := mc, slots := ms, locals := 53 } s m args below meth c D B0 X ws0 r h' mc ms 6 mc ms 49 [some (.ref l0), some (.int l1), some (.int l2), none, none, none] [.int s0, .int s1, .ref s2] h := by
  unfold s_X14_isLinear_49 at hs
  obtain ⟨h49, e49, hs⟩ := aB hs
  refine ev_iast C e49 dX14_isLinear_49 ?_
  refine ev_iinc C (i := 2) (n := 1) (x := l2) (v := l2 + 1) rfl (congrArg (fun z => l2 + z) (show Int32.ofInt 1 = 1 by decide)) (by decide) dX14_isLinear_50 ?_
  refine ev_goto C (tgt := 17) (by decide) dX14_isLinear_53 ?_
  exact (K17 _ _ _ _ hs)
theorem t_X14_isLinear_48 (C : Cx p l s m args meth c B0 X RX14 "isLinear" cX14_isLinear 6 (some .boolean) []) {k17 : Nat → Int32 → Int32 → aH → aO} (K17 : ∀ (l0 : Nat) (l1 : Int32) (l2 : Int32) (h : aH), k17 l0 l1 l2 h = some (r, h') → Ev p l e { frames := 2, cells := mc, slots := ms, locals := 53 } s m args below meth c D B0 X ws0 r h' mc ms 6 mc ms 17 [some (.ref l0), some (.int l1), some (.int l2), none, none, none] [] h) {l0 : Nat} {l1 : Int32} {l2 : Int32} {s0 : Int32} {s1 : Nat} {h : aH} (hs : s_X14_isLinear_48 k17 l0 l1 l2 s0 s1 h = some (r, h')) : Ev p l e { frames := 2, cells := mc, slots := ms, locals := 53 } s m args below meth c D B0 X ws0 r h' mc ms 6 mc ms 48 [some (.ref l0), some (.int l1), some (.int l2), none, none, none] [.int s0, .ref s1] h := by
  unfold s_X14_isLinear_48 at hs
  refine ev_iconst C (v := 0) dX14_isLinear_48 (by decide) ?_
  exact (t_X14_isLinear_49 C K17 hs)
theorem t_X14_isLinear_17_b (C : Cx p l s m args meth c B0 X RX14 "isLinear" cX14_isLinear 6 (some .boolean) [])   {k17 : Nat → Int32 → Int32 → aH → aO} (K17 : ∀ (l0 : Nat) (l1 : Int32) (l2 : Int32) (h : aH), k17 l0 l1 l2 h = some (r, h') → Ev p l e { frames := 2, cells := mc, slots := ms, locals := 53 } s m args below meth c D B0 X ws0 r h' mc ms 6 mc ms 17 [some (.ref l0), some (.int l1), some (.int l2), none, none, none] [] h) {l0 : Nat} {l1 : Int32} {l2 : Int32} {h : aH} (hs : s_X14_isLinear_17_b  k17 l0 l1 l2 h = some (r, h')) : Ev p l e { frames := 2, cells := mc, slots := ms, locals := 53 } s m args below meth c D B0 X ws0 r h' mc ms 6 mc ms 17 [some (.ref l0), some (.int l1), some (.int l2), none, none, none] [] h := by
  unfold s_X14_isLinear_17_b at hs
  refine ev_iload_n C rfl dX14_isLinear_17 ?_
  refine ev_bipush C (v := 9) dX14_isLinear_18 (by decide) ?_
  refine ev_icmp_ge C (tgt := 56) (by decide) dX14_isLinear_20 (fun q20 => ?_) (fun q20 => ?_)
  · replace hs := (if_pos q20).symm.trans hs
    refine ev_iconst C (v := 0) dX14_isLinear_56 (by decide) ?_
    refine ev_istore_n C (by decide) dX14_isLinear_57 ?_
    exact Ev.keep [true, false, true, true, true, true] (t_X14_isLinear_58 C  FU hs)
  · replace hs := (if_neg q20).symm.trans hs
    refine ev_aload_n C (x := .ref l0) rfl trivial dX14_isLinear_23 ?_
    obtain ⟨x24, e24, hs⟩ := aB hs
    refine ev_get C (ci := 14) (k := 45) rfl wu_14 (by decide) wf_X14_94 (gO_F e24) dX14_isLinear_24 ?_
    refine ev_iload_n C rfl dX14_isLinear_27 ?_
    refine ev_iload_n C rfl dX14_isLinear_28 ?_
    refine ev_iconst C (v := 3) dX14_isLinear_29 (by decide) ?_
    obtain ⟨n30, hs⟩ := nz_at hs
    refine ev_idiv C n30 dX14_isLinear_30 ?_
    refine ev_iload_n C rfl dX14_isLinear_31 ?_
    refine ev_iconst C (v := 3) dX14_isLinear_32 (by decide) ?_
    obtain ⟨n33, hs⟩ := nz_at hs
    refine ev_irem C n33 dX14_isLinear_33 ?_
    refine ev_icmp_ne C (tgt := 48) (by decide) dX14_isLinear_34 (fun q34 => ?_) (fun q34 => ?_)
    · replace hs := (if_neg q34).symm.trans hs
      exact (t_X14_isLinear_48 C K17 hs)
    · replace hs := (if_pos q34).symm.trans hs
      refine ev_iload_n C rfl dX14_isLinear_37 ?_
      refine ev_iconst C (v := 3) dX14_isLinear_38 (by decide) ?_
      obtain ⟨n39, hs⟩ := nz_at hs
      refine ev_idiv C n39 dX14_isLinear_39 ?_
      refine ev_iload_n C rfl dX14_isLinear_40 ?_
      refine ev_icmp_ge C (tgt := 48) (by decide) dX14_isLinear_41 (fun q41 => ?_) (fun q41 => ?_)
      · replace hs := (if_pos q41).symm.trans hs
        exact (t_X14_isLinear_48 C K17 hs)
      · replace hs := (if_neg q41).symm.trans hs
        refine ev_iconst C (v := 1) dX14_isLinear_44 (by decide) ?_
        refine ev_goto C (tgt := 49) (by decide) dX14_isLinear_45 ?_
        exact (t_X14_isLinear_49 C K17 hs)
theorem t_X14_isLinear_17 (C : Cx p l s m args meth c B0 X RX14 "isLinear" cX14_isLinear 6 (some .boolean) [])   : ∀ (n : Nat) {l0 : Nat} {l1 : Int32} {l2 : Int32} {h : aH} (hs : s_X14_isLinear_17  n l0 l1 l2 h = some (r, h')), Ev p l e { frames := 2, cells := mc, slots := ms, locals := 53 } s m args below meth c D B0 X ws0 r h' mc ms 6 mc ms 17 [some (.ref l0), some (.int l1), some (.int l2), none, none, none] [] h
  | 0, _, _, _, _, hs => nomatch hs
  | n + 1, _, _, _, _, hs => t_X14_isLinear_17_b C  (k17 := s_X14_isLinear_17  n) (fun _ _ _ _ hs => t_X14_isLinear_17 C  n hs) hs
theorem hy_X14_isLinear : yX14_isLinear.cls ≠ "java/lang/invoke/MethodHandle" ∧ yX14_isLinear.cls ≠ "java/lang/invoke/VarHandle" ∧ (parseMethodDescriptor yX14_isLinear.desc).map (fun d => d.parameters.length) = some 0 := by decide +kernel
theorem T_X14_isLinear (o : Nat) (h : aH) (r : aR) (h' : aH) (hs : s_X14_isLinear o h = some (r, h')) : Mt yX14_isLinear (Cond.code yX14_isLinear cX14_isLinear 6 (some .boolean) :: aTB) 2 53 0 0 [.ref o] h r h' := by
  unfold s_X14_isLinear at hs
  refine Mt_of (k := 5) (by decide) rfl (fun p l e s m args below meth c D B0 X ws0 C => ?_)
  show Ev p l e { frames := 2, cells := 0, slots := 0, locals := 53 } s m args below meth c D B0 X ws0 r h' 0 0 6 0 0 0 [some (.ref o), none, none, none, none, none] [] h
  refine ev_aload_n C (x := .ref o) rfl trivial dX14_isLinear_0 ?_
  refine ev_iconst C (v := 1) dX14_isLinear_1 (by decide) ?_
  obtain ⟨h2, e2, hs⟩ := aB hs
  refine ev_put C (ci := 14) (k := 50) rfl wu_14 (by decide) tyX14 tyX14_ok nmX14 wf_X14_543 rfl (pZ_F e2).2 (pZ_F e2).1 dX14_isLinear_2 ?_
  refine ev_aload_n C (x := .ref o) rfl trivial dX14_isLinear_5 ?_
  obtain ⟨x6, e6, hs⟩ := aB hs
  refine ev_get C (ci := 14) (k := 4) rfl wu_14 (by decide) wf_X14_376 (gO_F e6) dX14_isLinear_6 ?_
  obtain ⟨x9, e9, hs⟩ := aB hs
  refine ev_getN C (ci := 13) (k := 0) rfl wu_13 (by decide) wg_X14_252 (gO_F e9) dX14_isLinear_9 ?_
  refine ev_iconst C (v := 0) dX14_isLinear_12 (by decide) ?_
  obtain ⟨x13, e13, hs⟩ := aB hs
  refine ev_iald C e13 dX14_isLinear_13 ?_
  refine ev_istore_n C (by decide) dX14_isLinear_14 ?_
  refine ev_iconst C (v := 0) dX14_isLinear_15 (by decide) ?_
  refine ev_istore_n C (by decide) dX14_isLinear_16 ?_
  exact (t_X14_isLinear_17 C  FU hs)
end
