/-! how many bits; call: fit -/
theorem and_split (x c M : Nat) (hc : c < 256) : x &&& (c + 256 * M) = ((x % 256) &&& c) + 256 * ((x / 256) &&& M) := by
  have h1 : (x &&& (c + 256 * M)) % 2 ^ 8 = (x % 2 ^ 8) &&& ((c + 256 * M) % 2 ^ 8) := Nat.and_mod_two_pow
  have h2 : (x &&& (c + 256 * M)) / 2 ^ 8 = (x / 2 ^ 8) &&& ((c + 256 * M) / 2 ^ 8) := Nat.and_div_two_pow
  have e1 : (c + 256 * M) % 2 ^ 8 = c := by omega
  have e2 : (c + 256 * M) / 2 ^ 8 = M := by omega
  rw [e1] at h1
  rw [e2] at h2
  have e3 : (2 : Nat) ^ 8 = 256 := rfl
  rw [e3] at h1 h2
  rw [← h1, ← h2]
  omega
def pf1 (n M : Nat) : Nat := n - ((n / 2) &&& M)
def pf2 (n M : Nat) : Nat := (n &&& M) + ((n / 4) &&& M)
def pf3 (n M : Nat) : Nat := (n + n / 16) &&& M
theorem pt1 : ∀ b, b < 256 → ∀ r, r < 2 → (b / 2 + 128 * r) &&& 0x55 = (b / 2) &&& 0x55 := by decide +kernel
theorem pt2 : ∀ b, b < 256 → ∀ r, r < 4 → (b / 4 + 64 * r) &&& 0x33 = (b / 4) &&& 0x33 := by decide +kernel
theorem pt3 : ∀ b, b < 256 → ∀ r, r < 16 → (b + 16 * r) &&& 0x0f = b &&& 0x0f := by decide +kernel
theorem pf1_s {b m M : Nat} (hb : b < 256) : pf1 (b + 256 * m) (0x55 + 256 * M) = pf1 b 0x55 + 256 * pf1 m M := by
  unfold pf1
  rw [and_split _ _ _ (by decide), show (b + 256 * m) / 2 % 256 = b / 2 + 128 * (m % 2) by omega, show (b + 256 * m) / 2 / 256 = m / 2 by omega, pt1 b hb (m % 2) (Nat.mod_lt _ (by decide))]
  have a1 : (b / 2) &&& 0x55 ≤ b / 2 := Nat.and_le_left
  have a2 : (m / 2) &&& M ≤ m / 2 := Nat.and_le_left
  omega
theorem pf2_s {b m M : Nat} (hb : b < 256) : pf2 (b + 256 * m) (0x33 + 256 * M) = pf2 b 0x33 + 256 * pf2 m M := by
  unfold pf2
  rw [and_split _ _ _ (by decide), and_split _ _ _ (by decide), show (b + 256 * m) % 256 = b by omega, show (b + 256 * m) / 256 = m by omega, show (b + 256 * m) / 4 % 256 = b / 4 + 64 * (m % 4) by omega, show (b + 256 * m) / 4 / 256 = m / 4 by omega, pt2 b hb (m % 4) (Nat.mod_lt _ (by decide))]
  omega
theorem pf3_s {b m M : Nat} (h : b + b / 16 + 16 * (m % 16) < 256) : pf3 (b + 256 * m) (0x0f + 256 * M) = pf3 b 0x0f + 256 * pf3 m M := by
  unfold pf3
  rw [and_split _ _ _ (by decide), show (b + 256 * m + (b + 256 * m) / 16) % 256 = (b + b / 16) + 16 * (m % 16) by omega, show (b + 256 * m + (b + 256 * m) / 16) / 256 = m + m / 16 by omega, pt3 (b + b / 16) (by omega) (m % 16) (Nat.mod_lt _ (by decide))]
/-- a byte's bits, counted -/
def pcN (n : Nat) : Nat := cntR (fun i => n.testBit i) 0 8
theorem pt4 : ∀ b, b < 256 → pf3 (pf2 (pf1 b 0x55) 0x33) 0x0f = pcN b ∧ pf1 b 0x55 < 256 ∧ pf2 (pf1 b 0x55) 0x33 % 16 ≤ 4 ∧ pf2 (pf1 b 0x55) 0x33 / 16 ≤ 4 ∧ pcN b ≤ 8 := by decide +kernel
def vN (b : Nat) : Nat := pf2 (pf1 b 0x55) 0x33
theorem pf_all {b0 b1 b2 b3 : Nat} (h0 : b0 < 256) (h1 : b1 < 256) (h2 : b2 < 256) (h3 : b3 < 256) : pf3 (pf2 (pf1 (b0 + 256 * (b1 + 256 * (b2 + 256 * b3))) 1431655765) 858993459) 252645135 = pcN b0 + 256 * (pcN b1 + 256 * (pcN b2 + 256 * pcN b3)) := by
  have t0 := pt4 b0 h0
  have t1 := pt4 b1 h1
  have t2 := pt4 b2 h2
  have t3 := pt4 b3 h3
  have m5 : (1431655765 : Nat) = 0x55 + 256 * (0x55 + 256 * (0x55 + 256 * 0x55)) := rfl
  have m3 : (858993459 : Nat) = 0x33 + 256 * (0x33 + 256 * (0x33 + 256 * 0x33)) := rfl
  have mf : (252645135 : Nat) = 0x0f + 256 * (0x0f + 256 * (0x0f + 256 * 0x0f)) := rfl
  rw [m5, pf1_s h0, pf1_s h1, pf1_s h2, m3, pf2_s t0.2.1, pf2_s t1.2.1, pf2_s t2.2.1, mf]
  have v : ∀ b, pf2 (pf1 b 0x55) 0x33 = vN b := fun _ => rfl
  rw [v, v, v, v] at *
  rw [pf3_s (by omega), pf3_s (by omega), pf3_s (by omega), t0.1, t1.1, t2.1, t3.1]
def sU (x k : Int32) : Int32 := (Int32.toUInt32 x >>> (Int32.toUInt32 k &&& Int32.toUInt32 31)).toInt32
def bN (x : Int32) : Nat := x.toBitVec.toNat
theorem bN_lt (x : Int32) : bN x < 4294967296 := x.toBitVec.isLt
theorem sU_N (x k : Int32) : bN (sU x k) = bN x / 2 ^ ((Int32.toUInt32 k &&& Int32.toUInt32 31).toNat % 32) := by
  show (Int32.toUInt32 x >>> (Int32.toUInt32 k &&& Int32.toUInt32 31)).toNat = _
  rw [UInt32.toNat_shiftRight, Nat.shiftRight_eq_div_pow]
  rfl
theorem bN_and (x y : Int32) : bN (x &&& y) = bN x &&& bN y := rfl
theorem bN_add {x y : Int32} (h : bN x + bN y < 4294967296) : bN (x + y) = bN x + bN y := by
  have e : bN (x + y) = (bN x + bN y) % 2 ^ 32 := rfl
  rw [e]
  exact Nat.mod_eq_of_lt h
theorem bN_sub {x y : Int32} (h : bN y ≤ bN x) : bN (x - y) = bN x - bN y := by
  have e : bN (x - y) = (2 ^ 32 - bN y + bN x) % 2 ^ 32 := rfl
  have hx := bN_lt x
  rw [e]
  omega
def y1 (x : Int32) : Int32 := x - (sU x 1 &&& 1431655765)
def y2 (x : Int32) : Int32 := (x &&& 858993459) + (sU x 2 &&& 858993459)
def y3 (x : Int32) : Int32 := (x + sU x 4) &&& 252645135
def y4 (x : Int32) : Int32 := x + sU x 8
def y5 (x : Int32) : Int32 := x + sU x 16
theorem bitCount_is (x : Int32) (h : aH) : s_J6_bitCount_0f7a4 x h = some (.inl (some (.int (y5 (y4 (y3 (y2 (y1 x)))) &&& 63))), h) := rfl
theorem sum4 {p0 p1 p2 p3 : Nat} (h0 : p0 ≤ 8) (h1 : p1 ≤ 8) (h2 : p2 ≤ 8) (h3 : p3 ≤ 8) : ((p0 + 256 * (p1 + 256 * (p2 + 256 * p3)) + (p0 + 256 * (p1 + 256 * (p2 + 256 * p3))) / 256) + (p0 + 256 * (p1 + 256 * (p2 + 256 * p3)) + (p0 + 256 * (p1 + 256 * (p2 + 256 * p3))) / 256) / 65536) % 2 ^ 6 = p0 + p1 + p2 + p3 := by
  have a : (p0 + 256 * (p1 + 256 * (p2 + 256 * p3))) / 256 = p1 + 256 * (p2 + 256 * p3) := by omega
  rw [a]
  have b : (p0 + 256 * (p1 + 256 * (p2 + 256 * p3)) + (p1 + 256 * (p2 + 256 * p3))) / 65536 = (p2 + p3) + 256 * p3 := by omega
  rw [b]
  omega
theorem y_all (x : Int32) {b0 b1 b2 b3 : Nat} (h0 : b0 < 256) (h1 : b1 < 256) (h2 : b2 < 256) (h3 : b3 < 256) (hx : bN x = b0 + 256 * (b1 + 256 * (b2 + 256 * b3))) : y5 (y4 (y3 (y2 (y1 x)))) &&& 63 = jI (pcN b0 + pcN b1 + pcN b2 + pcN b3) := by
  have s1 : ((Int32.toUInt32 1 &&& Int32.toUInt32 31).toNat % 32) = 1 := by decide
  have s2 : ((Int32.toUInt32 2 &&& Int32.toUInt32 31).toNat % 32) = 2 := by decide
  have s4 : ((Int32.toUInt32 4 &&& Int32.toUInt32 31).toNat % 32) = 4 := by decide
  have s8 : ((Int32.toUInt32 8 &&& Int32.toUInt32 31).toNat % 32) = 8 := by decide
  have s16 : ((Int32.toUInt32 16 &&& Int32.toUInt32 31).toNat % 32) = 16 := by decide
  have c5 : bN 1431655765 = 1431655765 := by decide
  have c3 : bN 858993459 = 858993459 := by decide
  have cf : bN 252645135 = 252645135 := by decide
  have c63 : bN 63 = 63 := by decide
  have xl := bN_lt x
  have e1 : bN (y1 x) = pf1 (bN x) 1431655765 := by
    have le : (bN x / 2) &&& 1431655765 ≤ bN x / 2 := Nat.and_le_left
    have eu : bN (sU x 1 &&& 1431655765) = (bN x / 2) &&& 1431655765 := by rw [bN_and, sU_N, s1, c5]
    unfold y1 pf1
    rw [bN_sub (by rw [eu]; omega), eu]
  have e2 : bN (y2 (y1 x)) = pf2 (pf1 (bN x) 1431655765) 858993459 := by
    have la : bN (y1 x) &&& 858993459 ≤ 858993459 := Nat.and_le_right
    have lb : (bN (y1 x) / 4) &&& 858993459 ≤ 858993459 := Nat.and_le_right
    have eu : bN (sU (y1 x) 2 &&& 858993459) = (bN (y1 x) / 4) &&& 858993459 := by rw [bN_and, sU_N, s2, c3]
    have ev : bN (y1 x &&& 858993459) = bN (y1 x) &&& 858993459 := by rw [bN_and, c3]
    rw [← e1]
    unfold y2 pf2
    rw [bN_add (by rw [eu, ev]; omega), eu, ev]
  have l2 : bN (y2 (y1 x)) ≤ 1717986918 := by
    rw [e2]
    unfold pf2
    have la : pf1 (bN x) 1431655765 &&& 858993459 ≤ 858993459 := Nat.and_le_right
    have lb : (pf1 (bN x) 1431655765 / 4) &&& 858993459 ≤ 858993459 := Nat.and_le_right
    omega
  have e3 : bN (y3 (y2 (y1 x))) = pcN b0 + 256 * (pcN b1 + 256 * (pcN b2 + 256 * pcN b3)) := by
    have eu : bN (sU (y2 (y1 x)) 4) = bN (y2 (y1 x)) / 16 := by rw [sU_N, s4]
    have ea : bN (y2 (y1 x) + sU (y2 (y1 x)) 4) = bN (y2 (y1 x)) + bN (y2 (y1 x)) / 16 := by rw [bN_add (by rw [eu]; omega), eu]
    have eb : bN (y3 (y2 (y1 x))) = pf3 (bN (y2 (y1 x))) 252645135 := by
      unfold y3 pf3
      rw [bN_and, ea, cf]
    rw [eb, e2, hx, pf_all h0 h1 h2 h3]
  have p0 := (pt4 b0 h0).2.2.2.2
  have p1 := (pt4 b1 h1).2.2.2.2
  have p2 := (pt4 b2 h2).2.2.2.2
  have p3 := (pt4 b3 h3).2.2.2.2
  obtain ⟨z, hz⟩ : ∃ z, z = y3 (y2 (y1 x)) := ⟨_, rfl⟩
  rw [← hz] at e3 ⊢
  have e4 : bN (y4 z) = bN z + bN z / 256 := by
    have eu : bN (sU z 8) = bN z / 256 := by rw [sU_N, s8]
    unfold y4
    rw [bN_add (by rw [eu]; omega), eu]
  obtain ⟨w, hw⟩ : ∃ w, w = y4 z := ⟨_, rfl⟩
  rw [← hw] at e4 ⊢
  have e5 : bN (y5 w) = bN w + bN w / 65536 := by
    have eu : bN (sU w 16) = bN w / 65536 := by rw [sU_N, s16]
    unfold y5
    rw [bN_add (by rw [eu]; omega), eu]
  have e6 : bN (y5 w &&& 63) = pcN b0 + pcN b1 + pcN b2 + pcN b3 := by
    rw [bN_and, c63, show (63 : Nat) = 2 ^ 6 - 1 from rfl, Nat.and_two_pow_sub_one_eq_mod, e5, e4, e3]
    exact sum4 p0 p1 p2 p3
  apply Int32.toBitVec_inj.mp
  apply BitVec.eq_of_toNat_eq
  have e7 : (jI (pcN b0 + pcN b1 + pcN b2 + pcN b3)).toBitVec.toNat = (pcN b0 + pcN b1 + pcN b2 + pcN b3) % 2 ^ 32 := rfl
  rw [e7]
  exact e6.trans (Nat.mod_eq_of_lt (by omega)).symm
theorem cntR_app (T : Nat → Bool) : ∀ (n k c : Nat), cntR T c (n + k) = cntR T c n + cntR T (c + n) k
  | 0, k, c => by
    show cntR T c (0 + k) = 0 + cntR T (c + 0) k
    rw [Nat.zero_add, Nat.zero_add, Nat.add_zero]
  | n + 1, k, c => by
    rw [show n + 1 + k = (n + k) + 1 by omega]
    show (if T c then 1 else 0) + cntR T (c + 1) (n + k) = ((if T c then 1 else 0) + cntR T (c + 1) n) + cntR T (c + (n + 1)) k
    rw [cntR_app T n k (c + 1), show c + (n + 1) = c + 1 + n by omega]
    omega
theorem cntR_shift {T U : Nat → Bool} : ∀ (n c d : Nat), (∀ i, i < n → T (c + i) = U (d + i)) → cntR T c n = cntR U d n
  | 0, _, _, _ => rfl
  | n + 1, c, d, h => by
    show (if T c then 1 else 0) + cntR T (c + 1) n = (if U d then 1 else 0) + cntR U (d + 1) n
    have e := h 0 (by omega)
    rw [Nat.add_zero, Nat.add_zero] at e
    rw [e, cntR_shift n (c + 1) (d + 1) (fun i hi => by
      have := h (i + 1) (by omega)
      rw [show c + 1 + i = c + (i + 1) by omega, show d + 1 + i = d + (i + 1) by omega]
      exact this)]
theorem pcN_at (n k : Nat) : cntR (fun i => n.testBit i) k 8 = pcN (n / 2 ^ k % 256) := by
  unfold pcN
  refine cntR_shift 8 k 0 (fun i hi => ?_)
  show n.testBit (k + i) = (n / 2 ^ k % 256).testBit (0 + i)
  rw [show (256 : Nat) = 2 ^ 8 from rfl, Nat.testBit_mod_two_pow, Nat.testBit_div_two_pow, Nat.zero_add, decide_eq_true hi, Bool.true_and, Nat.add_comm]
theorem bitCount_at (x : Int32) (h : aH) : s_J6_bitCount_0f7a4 x h = some (.inl (some (.int (jI (cntR (bitI x) 0 32)))), h) := by
  have xl := bN_lt x
  have e := y_all x (b0 := bN x / 2 ^ 0 % 256) (b1 := bN x / 2 ^ 8 % 256) (b2 := bN x / 2 ^ 16 % 256) (b3 := bN x / 2 ^ 24 % 256) (by omega) (by omega) (by omega) (by omega) (by omega)
  have eb : bitI x = fun i => (bN x).testBit i := rfl
  have ec : cntR (bitI x) 0 32 = pcN (bN x / 2 ^ 0 % 256) + pcN (bN x / 2 ^ 8 % 256) + pcN (bN x / 2 ^ 16 % 256) + pcN (bN x / 2 ^ 24 % 256) := by
    rw [eb, show (32 : Nat) = 8 + (8 + (8 + 8)) from rfl, cntR_app, cntR_app, cntR_app, pcN_at, pcN_at, pcN_at, pcN_at]
    show pcN (bN x / 2 ^ 0 % 256) + (pcN (bN x / 2 ^ 8 % 256) + (pcN (bN x / 2 ^ 16 % 256) + pcN (bN x / 2 ^ 24 % 256))) = _
    omega
  rw [bitCount_is, e, ec]
theorem call_fit : cOK (s_X11_fit 0) (s_X14_fit 104) := by
  refine cOK.of (fun γ _ => ⟨-1, qTw γ 1, cN1.ref fun h h1 S V Z D Ln K e1 => ?_, rN1.ref fun h h1 h2 R e1 R1 e2 => ?_⟩) fun γ τ og ot lt => ⟨fun a => a = jI (0 + cntR (fiT τ) 0 (uF τ 15)), qTw γ 0, τ, one_x, ?_, rT1.th fun h h1 t2 S wd t f nv V Z B W G e1 R1 => ?_⟩
  · unfold s_X11_fit
    rw [K.g2, Option.bind_some, if_pos rfl, K.k0, cI_of (refuse1 e1)]
    rfl
  · unfold s_X14_fit
    rw [e1, Option.bind_some, R1.tw, Option.bind_some]
    dsimp only
    rw [R1.k0, cI_of e2]
  · intro h S V Z D Ln N K
    obtain ⟨h1, e1, K1, O1⟩ := K.tw (w := 0) (by decide)
    obtain ⟨h2, S2, V2, D2, L2, n, y, e2, K2, mv, ln, O2, G2, ct⟩ := K1.readyWatcher
    obtain ⟨h3, n3, y3', x, e3, hb, w⟩ := K2.2.2.1.fitting mv ln K2.gd K2.wa
    obtain ⟨S3, V3, D3, L3, K3, O3, G3, ct3⟩ := K2.af w
    have l15 := lt.2.2.2.2.1.2.2.2.2
    have ec : cntR (bitI x) 0 32 = 0 + cntR (fiT τ) 0 (uF τ 15) := by
      rw [show (32 : Nat) = uF τ 15 + (32 - uF τ 15) by omega, cntR_app]
      have a1 : cntR (bitI x) 0 (uF τ 15) = cntR (fiT τ) 0 (uF τ 15) := cntR_congr _ _ (fun d _ hd => by
        rw [hb d (by omega), decide_eq_true (show d < uF τ 15 by omega), Bool.true_and]
        exact fi30 ot lt K.kW 0 d)
      have a2 : cntR (bitI x) (0 + uF τ 15) (32 - uF τ 15) = cntR (fun _ => false) (0 + uF τ 15) (32 - uF τ 15) := cntR_congr _ _ (fun d h1 hd => by
        rw [hb d (by omega), decide_eq_false (show ¬ d < uF τ 15 by omega), Bool.false_and])
      have a3 : ∀ n c, cntR (fun _ => false) c n = 0 := by
        intro n
        induction n with
        | zero => exact fun _ => rfl
        | succ n ih =>
          intro c
          show 0 + cntR (fun _ => false) (c + 1) n = 0
          rw [ih]
      rw [a1, a2, a3]
      omega
    refine ⟨_, h3, 0 + n + n3, 0 + y + y3', rfl, ?_, S3, V3, Z, D3, L3, K3, Oa.of (O1.trans (O2.trans2 G2 O3)), (Gr.trans O2.1 G2 G3).pre O1.1, ct.cat0.trans ct3⟩
    unfold s_X11_fit
    rw [K.g2, Option.bind_some, if_neg (by decide), e1, Option.bind_some, K1.k0, dR_of e2, kO_of (ltE (by decide)) (K2.1.1.1 92 rfl), dI_of e3, cI_of (bitCount_at x h3), ec, ckw rfl, ck_of (Nat.le_add_right _ _) (Nat.le_add_right _ _)]
  · have l15 := lt.2.2.2.2.1.2.2.2.2
    obtain ⟨g, tp, C, fr, d, ld, gd, gl, cs, f1, f2, k1, k2, tr, cl, cn, cd⟩ := id R1
    obtain ⟨h4, V4, e4, C4, O4, M4⟩ := fr22_go (tk := uK τ) (tp := uP τ) (ta := uT τ) (tv := uV τ) (good := uG τ) ot.2.2.1 k1 ot.2.2.2.2.1 (uF τ 15) 0 FU 0 h1 V (Nat.zero_add _) (by unfold FU; omega) (by omega) C tr gd k2
    have R4 := R1.tw C4 O4 (M4.mono (by decide)) SmZ.refl smS.refl
    have e4' : s_X14_fit_22 FU 104 0 0 h1 = some (.inl (some (.int (jI (0 + cntR (fiT τ) 0 (uF τ 15))))), h4) := e4
    refine ⟨_, h4, rfl, ?_, R4.rt, Rf.ou O4⟩
    unfold s_X14_fit
    rw [e1, Option.bind_some, R1.g4, Option.bind_some]
    dsimp only
    rw [e4']
