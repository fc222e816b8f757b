/-! gains: the polynomials (three states) -/
section
variable (a0 a1 a2 a3 a4 a5 a6 a7 a8 : Int64)
def trP : Int64 := a0 + a4 + a8
def miP : Int64 := a0 * a4 - a1 * a3 + a0 * a8 - a2 * a6 + a4 * a8 - a5 * a7
def deP : Int64 := a0 * (a4 * a8 - a5 * a7) - a1 * (a3 * a8 - a5 * a6) + a2 * (a3 * a7 - a4 * a6)
/-- Cayley and Hamilton, for a row, first place -/
theorem ch3_0 (x y z : Int64) :
    (((x * a0 + y * a3 + z * a6) * a0 + (x * a1 + y * a4 + z * a7) * a3 + (x * a2 + y * a5 + z * a8) * a6) * a0 + ((x * a0 + y * a3 + z * a6) * a1 + (x * a1 + y * a4 + z * a7) * a4 + (x * a2 + y * a5 + z * a8) * a7) * a3 + ((x * a0 + y * a3 + z * a6) * a2 + (x * a1 + y * a4 + z * a7) * a5 + (x * a2 + y * a5 + z * a8) * a8) * a6)
      - trP a0 a4 a8 * ((x * a0 + y * a3 + z * a6) * a0 + (x * a1 + y * a4 + z * a7) * a3 + (x * a2 + y * a5 + z * a8) * a6) + miP a0 a1 a2 a3 a4 a5 a6 a7 a8 * (x * a0 + y * a3 + z * a6) - deP a0 a1 a2 a3 a4 a5 a6 a7 a8 * x = 0 := by
  unfold trP miP deP
  grind
/-- the rows of the class: b, A b + f2 b, A (A b + f2 b) + f1 b; what is struck out of them -/
theorem co3_1 (b0 b1 b2 v0 v1 v2 s0 s1 s2 t1 t2 : Int64) (hv0 : v0 = b0 * a0 + b1 * a1 + b2 * a2) (hv1 : v1 = b0 * a3 + b1 * a4 + b2 * a5) (hv2 : v2 = b0 * a6 + b1 * a7 + b2 * a8)
    (hs0 : s0 = v0 - trP a0 a4 a8 * b0) (hs1 : s1 = v1 - trP a0 a4 a8 * b1) (hs2 : s2 = v2 - trP a0 a4 a8 * b2)
    (ht1 : t1 = s0 * a3 + s1 * a4 + s2 * a5 + miP a0 a1 a2 a3 a4 a5 a6 a7 a8 * b1) (ht2 : t2 = s0 * a6 + s1 * a7 + s2 * a8 + miP a0 a1 a2 a3 a4 a5 a6 a7 a8 * b2) :
    t1 * b2 - t2 * b1 = (b1 * v2 - b2 * v1) * a0 + (b2 * v0 - b0 * v2) * a3 + (b0 * v1 - b1 * v0) * a6 := by
  subst hv0 hv1 hv2 hs0 hs1 hs2 ht1 ht2
  unfold trP miP
  grind
theorem co3_2 (b0 b1 b2 v0 v1 v2 s0 s1 s2 t1 t2 l0 l1 l2 : Int64) (hv0 : v0 = b0 * a0 + b1 * a1 + b2 * a2) (hv1 : v1 = b0 * a3 + b1 * a4 + b2 * a5) (hv2 : v2 = b0 * a6 + b1 * a7 + b2 * a8)
    (hs0 : s0 = v0 - trP a0 a4 a8 * b0) (hs1 : s1 = v1 - trP a0 a4 a8 * b1) (hs2 : s2 = v2 - trP a0 a4 a8 * b2)
    (ht1 : t1 = s0 * a3 + s1 * a4 + s2 * a5 + miP a0 a1 a2 a3 a4 a5 a6 a7 a8 * b1) (ht2 : t2 = s0 * a6 + s1 * a7 + s2 * a8 + miP a0 a1 a2 a3 a4 a5 a6 a7 a8 * b2)
    (hl0 : l0 = b1 * v2 - b2 * v1) (hl1 : l1 = b2 * v0 - b0 * v2) (hl2 : l2 = b0 * v1 - b1 * v0) :
    t1 * s2 - t2 * s1 = -((l0 * a0 + l1 * a3 + l2 * a6) * a0 + (l0 * a1 + l1 * a4 + l2 * a7) * a3 + (l0 * a2 + l1 * a5 + l2 * a8) * a6) := by
  subst hv0 hv1 hv2 hs0 hs1 hs2 ht1 ht2 hl0 hl1 hl2
  unfold trP miP
  grind
theorem gn3_0 (b0 b1 b2 q0 q1 q2 v0 v1 v2 s0 s1 s2 t0 t1 t2 l0 l1 l2 y0 y1 y2 : Int64) (hv0 : v0 = b0 * a0 + b1 * a1 + b2 * a2) (hv1 : v1 = b0 * a3 + b1 * a4 + b2 * a5) (hv2 : v2 = b0 * a6 + b1 * a7 + b2 * a8) (hs0 : s0 = v0 - trP a0 a4 a8 * b0) (hs1 : s1 = v1 - trP a0 a4 a8 * b1) (hs2 : s2 = v2 - trP a0 a4 a8 * b2) (ht0 : t0 = s0 * a0 + s1 * a1 + s2 * a2 + miP a0 a1 a2 a3 a4 a5 a6 a7 a8 * b0) (ht1 : t1 = s0 * a3 + s1 * a4 + s2 * a5 + miP a0 a1 a2 a3 a4 a5 a6 a7 a8 * b1) (ht2 : t2 = s0 * a6 + s1 * a7 + s2 * a8 + miP a0 a1 a2 a3 a4 a5 a6 a7 a8 * b2) (hl0 : l0 = b1 * v2 - b2 * v1) (hl1 : l1 = b2 * v0 - b0 * v2) (hl2 : l2 = b0 * v1 - b1 * v0) (hy0 : y0 = -(deP a0 a1 a2 a3 a4 a5 a6 a7 a8) - q0) (hy1 : y1 = miP a0 a1 a2 a3 a4 a5 a6 a7 a8 - q1) (hy2 : y2 = -(trP a0 a4 a8) - q2) :
    y0 * (s1 * b2 - s2 * b1) - t1 * (y1 * b2 - s2 * y2) + t2 * (y1 * b1 - s1 * y2) = l0 * (q0 + q1 * a0 + q2 * (a0 * a0 + a1 * a3 + a2 * a6) + ((a0 * a0 + a1 * a3 + a2 * a6) * a0 + (a0 * a1 + a1 * a4 + a2 * a7) * a3 + (a0 * a2 + a1 * a5 + a2 * a8) * a6)) + l1 * (q1 * a3 + q2 * (a3 * a0 + a4 * a3 + a5 * a6) + ((a3 * a0 + a4 * a3 + a5 * a6) * a0 + (a3 * a1 + a4 * a4 + a5 * a7) * a3 + (a3 * a2 + a4 * a5 + a5 * a8) * a6)) + l2 * (q1 * a6 + q2 * (a6 * a0 + a7 * a3 + a8 * a6) + ((a6 * a0 + a7 * a3 + a8 * a6) * a0 + (a6 * a1 + a7 * a4 + a8 * a7) * a3 + (a6 * a2 + a7 * a5 + a8 * a8) * a6)) := by
  subst hv0 hv1 hv2 hs0 hs1 hs2 ht0 ht1 ht2 hl0 hl1 hl2 hy0 hy1 hy2
  unfold trP miP deP
  grind
theorem gn3_1 (b0 b1 b2 q0 q1 q2 v0 v1 v2 s0 s1 s2 t0 t1 t2 l0 l1 l2 y0 y1 y2 : Int64) (hv0 : v0 = b0 * a0 + b1 * a1 + b2 * a2) (hv1 : v1 = b0 * a3 + b1 * a4 + b2 * a5) (hv2 : v2 = b0 * a6 + b1 * a7 + b2 * a8) (hs0 : s0 = v0 - trP a0 a4 a8 * b0) (hs1 : s1 = v1 - trP a0 a4 a8 * b1) (hs2 : s2 = v2 - trP a0 a4 a8 * b2) (ht0 : t0 = s0 * a0 + s1 * a1 + s2 * a2 + miP a0 a1 a2 a3 a4 a5 a6 a7 a8 * b0) (ht1 : t1 = s0 * a3 + s1 * a4 + s2 * a5 + miP a0 a1 a2 a3 a4 a5 a6 a7 a8 * b1) (ht2 : t2 = s0 * a6 + s1 * a7 + s2 * a8 + miP a0 a1 a2 a3 a4 a5 a6 a7 a8 * b2) (hl0 : l0 = b1 * v2 - b2 * v1) (hl1 : l1 = b2 * v0 - b0 * v2) (hl2 : l2 = b0 * v1 - b1 * v0) (hy0 : y0 = -(deP a0 a1 a2 a3 a4 a5 a6 a7 a8) - q0) (hy1 : y1 = miP a0 a1 a2 a3 a4 a5 a6 a7 a8 - q1) (hy2 : y2 = -(trP a0 a4 a8) - q2) :
    t0 * (y1 * b2 - s2 * y2) - y0 * (s0 * b2 - s2 * b0) + t2 * (s0 * y2 - y1 * b0) = l0 * (q1 * a1 + q2 * (a0 * a1 + a1 * a4 + a2 * a7) + ((a0 * a0 + a1 * a3 + a2 * a6) * a1 + (a0 * a1 + a1 * a4 + a2 * a7) * a4 + (a0 * a2 + a1 * a5 + a2 * a8) * a7)) + l1 * (q0 + q1 * a4 + q2 * (a3 * a1 + a4 * a4 + a5 * a7) + ((a3 * a0 + a4 * a3 + a5 * a6) * a1 + (a3 * a1 + a4 * a4 + a5 * a7) * a4 + (a3 * a2 + a4 * a5 + a5 * a8) * a7)) + l2 * (q1 * a7 + q2 * (a6 * a1 + a7 * a4 + a8 * a7) + ((a6 * a0 + a7 * a3 + a8 * a6) * a1 + (a6 * a1 + a7 * a4 + a8 * a7) * a4 + (a6 * a2 + a7 * a5 + a8 * a8) * a7)) := by
  subst hv0 hv1 hv2 hs0 hs1 hs2 ht0 ht1 ht2 hl0 hl1 hl2 hy0 hy1 hy2
  unfold trP miP deP
  grind
theorem gn3_2 (b0 b1 b2 q0 q1 q2 v0 v1 v2 s0 s1 s2 t0 t1 t2 l0 l1 l2 y0 y1 y2 : Int64) (hv0 : v0 = b0 * a0 + b1 * a1 + b2 * a2) (hv1 : v1 = b0 * a3 + b1 * a4 + b2 * a5) (hv2 : v2 = b0 * a6 + b1 * a7 + b2 * a8) (hs0 : s0 = v0 - trP a0 a4 a8 * b0) (hs1 : s1 = v1 - trP a0 a4 a8 * b1) (hs2 : s2 = v2 - trP a0 a4 a8 * b2) (ht0 : t0 = s0 * a0 + s1 * a1 + s2 * a2 + miP a0 a1 a2 a3 a4 a5 a6 a7 a8 * b0) (ht1 : t1 = s0 * a3 + s1 * a4 + s2 * a5 + miP a0 a1 a2 a3 a4 a5 a6 a7 a8 * b1) (ht2 : t2 = s0 * a6 + s1 * a7 + s2 * a8 + miP a0 a1 a2 a3 a4 a5 a6 a7 a8 * b2) (hl0 : l0 = b1 * v2 - b2 * v1) (hl1 : l1 = b2 * v0 - b0 * v2) (hl2 : l2 = b0 * v1 - b1 * v0) (hy0 : y0 = -(deP a0 a1 a2 a3 a4 a5 a6 a7 a8) - q0) (hy1 : y1 = miP a0 a1 a2 a3 a4 a5 a6 a7 a8 - q1) (hy2 : y2 = -(trP a0 a4 a8) - q2) :
    t0 * (s1 * y2 - y1 * b1) - t1 * (s0 * y2 - y1 * b0) + y0 * (s0 * b1 - s1 * b0) = l0 * (q1 * a2 + q2 * (a0 * a2 + a1 * a5 + a2 * a8) + ((a0 * a0 + a1 * a3 + a2 * a6) * a2 + (a0 * a1 + a1 * a4 + a2 * a7) * a5 + (a0 * a2 + a1 * a5 + a2 * a8) * a8)) + l1 * (q1 * a5 + q2 * (a3 * a2 + a4 * a5 + a5 * a8) + ((a3 * a0 + a4 * a3 + a5 * a6) * a2 + (a3 * a1 + a4 * a4 + a5 * a7) * a5 + (a3 * a2 + a4 * a5 + a5 * a8) * a8)) + l2 * (q0 + q1 * a8 + q2 * (a6 * a2 + a7 * a5 + a8 * a8) + ((a6 * a0 + a7 * a3 + a8 * a6) * a2 + (a6 * a1 + a7 * a4 + a8 * a7) * a5 + (a6 * a2 + a7 * a5 + a8 * a8) * a8)) := by
  subst hv0 hv1 hv2 hs0 hs1 hs2 ht0 ht1 ht2 hl0 hl1 hl2 hy0 hy1 hy2
  unfold trP miP deP
  grind
theorem gn3_d (b0 b1 b2 v0 v1 v2 s0 s1 s2 t0 t1 t2 : Int64) (hv0 : v0 = b0 * a0 + b1 * a1 + b2 * a2) (hv1 : v1 = b0 * a3 + b1 * a4 + b2 * a5) (hv2 : v2 = b0 * a6 + b1 * a7 + b2 * a8) (hs0 : s0 = v0 - trP a0 a4 a8 * b0) (hs1 : s1 = v1 - trP a0 a4 a8 * b1) (hs2 : s2 = v2 - trP a0 a4 a8 * b2) (ht0 : t0 = s0 * a0 + s1 * a1 + s2 * a2 + miP a0 a1 a2 a3 a4 a5 a6 a7 a8 * b0) (ht1 : t1 = s0 * a3 + s1 * a4 + s2 * a5 + miP a0 a1 a2 a3 a4 a5 a6 a7 a8 * b1) (ht2 : t2 = s0 * a6 + s1 * a7 + s2 * a8 + miP a0 a1 a2 a3 a4 a5 a6 a7 a8 * b2) (w0 w1 w2 : Int64) (hw0 : w0 = v0 * a0 + v1 * a1 + v2 * a2) (hw1 : w1 = v0 * a3 + v1 * a4 + v2 * a5) (hw2 : w2 = v0 * a6 + v1 * a7 + v2 * a8) :
    t0 * (s1 * b2 - s2 * b1) - t1 * (s0 * b2 - s2 * b0) + t2 * (s0 * b1 - s1 * b0) = -(b0 * (v1 * w2 - v2 * w1) - b1 * (v0 * w2 - v2 * w0) + b2 * (v0 * w1 - v1 * w0)) := by
  subst hv0 hv1 hv2 hs0 hs1 hs2 ht0 ht1 ht2 hw0 hw1 hw2
  unfold trP miP
  grind
theorem gn2_d (b0 b1 v0 v1 t0 t1 : Int64) (hv0 : v0 = b0 * a0 + b1 * a1) (hv1 : v1 = b0 * a3 + b1 * a4) (ht0 : t0 = v0 - (a0 + a4) * b0) (ht1 : t1 = v1 - (a0 + a4) * b1) : t0 * b1 - t1 * b0 = -(b0 * v1 - b1 * v0) := by
  subst hv0 hv1 ht0 ht1
  grind
theorem gn2_0 (b0 b1 v0 v1 t0 t1 q0 q1 y0 y1 : Int64) (hv0 : v0 = b0 * a0 + b1 * a1) (hv1 : v1 = b0 * a3 + b1 * a4) (ht0 : t0 = v0 - (a0 + a4) * b0) (ht1 : t1 = v1 - (a0 + a4) * b1) (hy0 : y0 = (a0 * a4 - a1 * a3) - q0) (hy1 : y1 = -(a0 + a4) - q1) : y0 * b1 - t1 * y1 = -b1 * (q0 + q1 * a0 + (a0 * a0 + a1 * a3)) + b0 * (q1 * a3 + (a3 * a0 + a4 * a3)) := by
  subst hv0 hv1 ht0 ht1 hy0 hy1
  grind
theorem gn2_1 (b0 b1 v0 v1 t0 t1 q0 q1 y0 y1 : Int64) (hv0 : v0 = b0 * a0 + b1 * a1) (hv1 : v1 = b0 * a3 + b1 * a4) (ht0 : t0 = v0 - (a0 + a4) * b0) (ht1 : t1 = v1 - (a0 + a4) * b1) (hy0 : y0 = (a0 * a4 - a1 * a3) - q0) (hy1 : y1 = -(a0 + a4) - q1) : t0 * y1 - y0 * b0 = -b1 * (q1 * a1 + (a0 * a1 + a1 * a4)) + b0 * (q0 + q1 * a4 + (a3 * a1 + a4 * a4)) := by
  subst hv0 hv1 ht0 ht1 hy0 hy1
  grind
end
