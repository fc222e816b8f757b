/-! the reference's spreads are the class's -/
def lft (A : Nat → Nat → Int32) (b : Nat) : Nat → Int32 → Int32
  | 0, x => x
  | n + 1, x => lft A b n (x / wdt A 0 (b + n))
theorem sprT_go {A B : Nat → Nat → Int32} {b : Nat} : ∀ (n : Nat) (x : Int32) (v : Nat → Int32), (∀ s, b ≤ s → s < b + n → szT B s = wdt A 0 s ∧ B 2 s = A 3 s) → (sprT B b n x v).1 = lft A b n x ∧ (sprT B b n x v).2 = sprGo A 0 b n x v
  | 0, _, _, _ => ⟨rfl, rfl⟩
  | n + 1, x, v, hs => by
    obtain ⟨e1, e2⟩ := hs (b + n) (by omega) (by omega)
    have ih := sprT_go n (x / wdt A 0 (b + n)) (upd v (b + n) (A 3 (b + n) + (x - x / wdt A 0 (b + n) * wdt A 0 (b + n)))) (fun s h1 h2 => hs s h1 (by omega))
    have e : sprT B b (n + 1) x v = sprT B b n (x / wdt A 0 (b + n)) (upd v (b + n) (A 3 (b + n) + (x - x / wdt A 0 (b + n) * wdt A 0 (b + n)))) := by
      show sprT B b n (x / szT B (b + n)) (upd v (b + n) (B 2 (b + n) + (x - x / szT B (b + n) * szT B (b + n)))) = _
      rw [e1, e2]
    rw [e]
    refine ⟨ih.1, ?_⟩
    rw [ih.2]
    show _ = sprGo A 0 b n (x / wdt A 0 (b + n)) (upd v (b + n) ((A 3 (b + n) - 0) + (x - x / wdt A 0 (b + n) * wdt A 0 (b + n))))
    rw [i32_sub0]
theorem wdN_lt (A : Nat → Nat → Int32) (w : Int32) (s : Nat) : wdN A w s < 2147483648 := by
  have h1 : (wdt A w s).toInt < 2147483648 := Int32.toInt_lt _
  have h2 : wdN A w s = (wdt A w s).toInt.toNat := rfl
  omega
theorem prtN_right (A : Nat → Nat → Int32) (w : Int32) : ∀ (n b : Nat), prtN A w b (n + 1) = prtN A w b n * wdN A w (b + n)
  | 0, b => by
    show wdN A w b * 1 = 1 * wdN A w (b + 0)
    rw [Nat.mul_one, Nat.one_mul, Nat.add_zero]
  | n + 1, b => by
    show wdN A w b * prtN A w (b + 1) (n + 1) = (wdN A w b * prtN A w (b + 1) n) * wdN A w (b + (n + 1))
    rw [prtN_right A w n (b + 1), Nat.mul_assoc, show b + 1 + n = b + (n + 1) by omega]
theorem lft_N (A : Nat → Nat → Int32) (b : Nat) : ∀ (n x : Nat), x < 2147483648 → lft A b n (jI x) = jI (x / prtN A 0 b n)
  | 0, x, _ => by
    show jI x = jI (x / 1)
    rw [Nat.div_one]
  | n + 1, x, hx => by
    show lft A b n (jI x / wdt A 0 (b + n)) = _
    rw [wdt_N, jI_div hx (wdN_pos _ _ _) (wdN_lt _ _ _), lft_N A b n _ (Nat.lt_of_le_of_lt (Nat.div_le_self _ _) hx), Nat.div_div_eq_div_mul, prtN_right, Nat.mul_comm (wdN A 0 (b + n))]
theorem spr_step (A : Nat → Nat → Int32) (b n x : Nat) (v : Nat → Int32) (hx : x < 2147483648) : sprGo A 0 b (n + 1) (jI x) v = sprGo A 0 b n (jI (x / wdN A 0 (b + n))) (upd v (b + n) (A 3 (b + n) + jI (x % wdN A 0 (b + n)))) := by
  show sprGo A 0 b n (jI x / wdt A 0 (b + n)) (upd v (b + n) ((A 3 (b + n) - 0) + (jI x - jI x / wdt A 0 (b + n) * wdt A 0 (b + n)))) = _
  rw [wdt_N, i32_sub0, jI_mod hx (wdN_pos _ _ _) (wdN_lt _ _ _), jI_div hx (wdN_pos _ _ _) (wdN_lt _ _ _)]
theorem spr_mod (A : Nat → Nat → Int32) (b : Nat) : ∀ (n x : Nat) (v : Nat → Int32), x < 2147483648 → sprGo A 0 b n (jI (x % prtN A 0 b n)) v = sprGo A 0 b n (jI x) v
  | 0, _, _, _ => rfl
  | n + 1, x, v, hx => by
    have h1 : x % prtN A 0 b (n + 1) ≤ x := Nat.mod_le _ _
    have h2 : x / wdN A 0 (b + n) ≤ x := Nat.div_le_self _ _
    rw [spr_step A b n _ v (by omega), spr_step A b n x v hx, prtN_right, Nat.mod_mul_left_div_self, Nat.mod_mul_left_mod]
    exact spr_mod A b n _ _ (by omega)
theorem spr_sm {A : Nat → Nat → Int32} {b : Nat} : ∀ (n x : Nat) (v : Nat → Int32) (s : Nat), x < 2147483648 → b ≤ s → s < b + n → okR A s → sm 100 (sprGo A 0 b n (jI x) v s)
  | 0, _, _, _, _, _, _, _ => by omega
  | n + 1, x, v, s, hx, h1, h2, hr => by
    have h3 : x / wdN A 0 (b + n) ≤ x := Nat.div_le_self _ _
    rw [spr_step A b n x v hx]
    by_cases q : s = b + n
    · rw [spr_out A 0 b n _ _ s (by omega), q, upd_eq]
      rw [q] at hr
      have w1 := wdN_R hr
      have w2 : x % wdN A 0 (b + n) < wdN A 0 (b + n) := Nat.mod_lt _ (wdN_pos _ _ _)
      obtain ⟨r1, r2, r3⟩ := hr
      unfold sm
      rw [(toInt_small (x := A 3 (b + n)) (y := jI (x % wdN A 0 (b + n))) (by omega) (by rw [jI_int (by omega)]; omega)).2, jI_int (by omega)]
      omega
    · exact spr_sm n _ _ s (by omega) h1 (by omega) hr
/-- spreads over slots that lie apart may change places -/
theorem spr_comm (A : Nat → Nat → Int32) (w1 w2 : Int32) {b1 n1 b2 n2 : Nat} (hd : b1 + n1 ≤ b2 ∨ b2 + n2 ≤ b1) (x y : Int32) (v : Nat → Int32) : sprGo A w1 b1 n1 x (sprGo A w2 b2 n2 y v) = sprGo A w2 b2 n2 y (sprGo A w1 b1 n1 x v) := by
  funext s
  by_cases q1 : b1 ≤ s ∧ s < b1 + n1
  · rw [spr_out A w2 b2 n2 _ _ s (by omega)]
    exact spr_in A w1 b1 n1 _ _ _ s q1.1 q1.2
  · rw [spr_out A w1 b1 n1 _ _ s (by omega)]
    by_cases q2 : b2 ≤ s ∧ s < b2 + n2
    · exact spr_in A w2 b2 n2 _ _ _ s q2.1 q2.2
    · rw [spr_out A w2 b2 n2 _ _ s (by omega), spr_out A w2 b2 n2 _ _ s (by omega), spr_out A w1 b1 n1 _ _ s (by omega)]
/-- the numbers of a thing -/
def okC (A : Nat → Nat → Int32) (m F : Nat → Nat) : Prop := F 12 = prtN A 0 0 (m 0) ∧ F 13 = prtN A 0 3 (m 1) ∧ F 15 = prtN A 0 7 (m 3) ∧ F 14 = prtN A 0 5 (m 2) * F 15 ∧ F 12 ≤ 400 ∧ F 13 ≤ 9 ∧ F 14 ≤ 27 ∧ 0 < m 0
theorem okC.pos {A : Nat → Nat → Int32} {m F : Nat → Nat} (C : okC A m F) : 0 < F 12 ∧ 0 < F 13 ∧ 0 < F 15 ∧ 0 < F 14 ∧ F 15 ≤ 27 := by
  obtain ⟨h1, h2, h3, h4, h5, h6, h7, -⟩ := C
  have p1 := prtN_pos A 0 (m 0) 0
  have p2 := prtN_pos A 0 (m 1) 3
  have p3 := prtN_pos A 0 (m 3) 7
  have p4 := prtN_pos A 0 (m 2) 5
  have p5 : 0 < F 14 := by rw [h4, h3]; exact Nat.mul_pos p4 p3
  have p6 : F 15 ≤ F 14 := by rw [h4]; exact Nat.le_mul_of_pos_left _ p4
  omega
/-- the reference with a thing -/
def RC (h : aH) (S : Nat → Int32) (wd : Int64) (t : Nat) (f n : Value) (V : Nat → Nat → Int32) (Z : Nat → Nat → Int64) (A : Nat → Nat → Int32) (m F : Nat → Nat) (B : Nat → Nat → Int32) (W : Nat → Int64) (G : Nat → Nat) : Prop :=
  RW h S wd (.ref t) f n V Z ∧ isT h t B W G ∧ okt t ∧ simT A m F B G ∧ okW A m F ∧ okC A m F ∧ S 20 = jI (F 12) ∧ S 21 = jI (F 13) ∧ S 22 = jI (F 14) ∧ S 23 = jI (F 15)
section
variable {h : aH} {S : Nat → Int32} {wd : Int64} {t : Nat} {f n : Value} {V : Nat → Nat → Int32} {Z : Nat → Nat → Int64} {A : Nat → Nat → Int32} {m F : Nat → Nat} {B : Nat → Nat → Int32} {W : Nat → Int64} {G : Nat → Nat}
theorem RC.to (C : RC h S wd t f n V Z A m F B W G) {h' : aH} {V' : Nat → Nat → Int32} {Z' : Nat → Nat → Int64} (X : RW h' S wd (.ref t) f n V' Z') (O : Ou h h') : RC h' S wd t f n V' Z' A m F B W G := by
  obtain ⟨-, c2, c3, c4⟩ := C
  exact ⟨X, c2.ou O c3, c3, c4⟩
theorem RC.kO {β : Type} {k : Option β} (C : RC h S wd t f n V Z A m F B W G) : kO h 104 14 k = k := C.1.kO
theorem slR_base {k : Nat} (hk : k < 4) : slR k = baseN k := by
  match k, hk with
  | 0, _ => rfl
  | 1, _ => rfl
  | 2, _ => rfl
  | 3, _ => rfl
theorem decl_of {k s : Nat} (hk : k < 4) (h1 : baseN k ≤ s) (h2 : s < baseN k + m k) : decl m s := by
  match k, hk with
  | 0, _ => exact Or.inl (by have : baseN 0 = 0 := rfl; omega)
  | 1, _ => exact Or.inr (Or.inl ⟨h1, h2⟩)
  | 2, _ => exact Or.inr (Or.inr (Or.inl ⟨h1, h2⟩))
  | 3, _ => exact Or.inr (Or.inr (Or.inr ⟨h1, h2⟩))
theorem RC.spreads (C : RC h S wd t f n V Z A m F B W G) {k : Nat} (hk : k < 4) (x : Int32) :
    ∃ h', s_X14_spreads 104 (jI k) x h = some (.inl (some (.int (lft A (baseN k) (m k) x))), h') ∧ RC h' S wd t f n (upd2 V 148 (sprGo A 0 (baseN k) (m k) x (V 148))) Z A m F B W G ∧ Ou h h' := by
  obtain ⟨X, c2, c3, c4, c5, c6⟩ := id C
  have hb : slR k + m k ≤ 11 := by
    have := c5.1.1.base hk
    rw [slR_base hk]
    omega
  have hs : ∀ s, slR k ≤ s → s < slR k + m k → szT B s = wdt A 0 s ∧ B 2 s = A 3 s := fun s h1 h2 => by
    rw [slR_base hk] at h1 h2
    have hd := decl_of hk h1 h2
    obtain ⟨s2, s3⟩ := c4.2.1 s hd
    exact ⟨szT_wdt (c5.2.2.1 s hd) s2 s3, s2⟩
  have e := spreads_at c2 X.isX (X.2.1 148 rfl) hk (c4.1 k (by omega)) hb (by have := okt_ne c3; omega) (fun s h1 h2 => by rw [(hs s h1 h2).1]; exact wdt_ne _ _ _) x
  obtain ⟨e1, e2⟩ := sprT_go (A := A) (B := B) (b := slR k) (m k) x (V 148) hs
  rw [e1, e2, slR_base hk] at e
  have r := X.row (a := 148) (g := sprGo A 0 (baseN k) (m k) x (V 148)) rfl
  exact ⟨_, e, C.to r.1 r.2, r.2⟩
theorem RC.lays (C : RC h S wd t f n V Z A m F B W G) (x : Int32) :
    ∃ h', s_X14_lays 104 x h = some (.inl none, h') ∧ RC h' S wd t f n (upd2 V 148 (sprGo A 0 0 (m 0) x (V 148))) Z A m F B W G ∧ Ou h h' := by
  obtain ⟨h', e, C', O⟩ := C.spreads (k := 0) (by decide) x
  refine ⟨h', ?_, C', O⟩
  have e' : s_X14_spreads 104 0 x h = _ := e
  unfold s_X14_lays
  rw [C.kO, e']
  rfl
theorem RC.pushed (C : RC h S wd t f n V Z A m F B W G) (x : Int32) :
    ∃ h', s_X14_pushed 104 x h = some (.inl none, h') ∧ RC h' S wd t f n (upd2 V 148 (sprGo A 0 3 (m 1) x (V 148))) Z A m F B W G ∧ Ou h h' := by
  obtain ⟨h', e, C', O⟩ := C.spreads (k := 1) (by decide) x
  refine ⟨h', ?_, C', O⟩
  have e' : s_X14_spreads 104 1 x h = _ := e
  unfold s_X14_pushed
  rw [C.kO, e']
  rfl
theorem upd2_2 {α : Type} {V : Nat → α} {a : Nat} {g k : α} : upd2 (upd2 V a g) a k = upd2 V a k := by
  funext j
  unfold upd2
  by_cases q : j = a
  · rw [if_pos q, if_pos q]
  · rw [if_neg q, if_neg q, if_neg q]
theorem jmax1_N {x : Nat} (h : 0 < x) (hx : x < 2147483648) : jmax 1 (jI x) = jI x := by
  unfold jmax
  by_cases q : (1 : Int32) < jI x
  · rw [if_pos q]
  · rw [if_neg q]
    have : ¬ 1 < x := fun z => q ((jI_lt (j := 1) (by decide) hx).mpr z)
    rw [show x = 1 by omega]
    rfl
theorem RC.worlded (C : RC h S wd t f n V Z A m F B W G) {w : Nat} (hw : w < 2147483648) :
    ∃ h', s_X14_worlded 104 (jI w) h = some (.inl none, h') ∧ RC h' S wd t f n (upd2 V 148 (spW A m (jI (F 15)) 0 (jI w) (V 148))) Z A m F B W G ∧ Ou h h' := by
  obtain ⟨h1, e1, C1, O1⟩ := C.spreads (k := 3) (by decide) (jI w)
  obtain ⟨h2, e2, C2, O2⟩ := C1.spreads (k := 2) (by decide) (lft A 7 (m 3) (jI w))
  have e1' : s_X14_spreads 104 3 (jI w) h = some (.inl (some (.int (lft A 7 (m 3) (jI w)))), h1) := e1
  have e2' : s_X14_spreads 104 2 (lft A 7 (m 3) (jI w)) h1 = _ := e2
  have hC := C.2.2.2.2.2.1
  have hp := hC.pos
  have hm := C.2.2.2.2.1.1.1
  rw [upd2_2, upd2_eq] at C2
  have b2 : baseN 2 = 5 := rfl
  have b3 : baseN 3 = 7 := rfl
  have ev : sprGo A 0 5 (m 2) (lft A 7 (m 3) (jI w)) (sprGo A 0 7 (m 3) (jI w) (V 148)) = spW A m (jI (F 15)) 0 (jI w) (V 148) := by
    unfold spW
    rw [jmax1_N hp.2.2.1 (by omega), jI_mod hw hp.2.2.1 (by omega), jI_div hw hp.2.2.1 (by omega), lft_N A 7 (m 3) w hw, hC.2.2.1, spr_mod A 7 (m 3) w _ hw]
    exact spr_comm A 0 0 (Or.inl (by have := hm.2.2.1; omega)) _ _ _
  rw [b2, b3, ev] at C2
  refine ⟨h2, ?_, C2, O1.trans O2⟩
  unfold s_X14_worlded
  rw [C.kO, e1']
  simp only [cI]
  rw [C1.kO, e2']
theorem RC.nextHere (C : RC h S wd t f n V Z A m F B W G) (hv : okVs m (V 148)) :
    ∃ h' p', s_X14_nextHere 104 h = some (.inl (some (.int (leadV A m F (V 148)))), h') ∧ RC h' S wd t f n (upd2 V 149 p') Z A m F B W G ∧ Ou h h' := by
  obtain ⟨X, c2, c3, c4, c5, c6⟩ := id C
  obtain ⟨p', e⟩ := nextHere_at (okt_ne c3).2 c5 c4 hv c2 X.isX (X.2.1 148 rfl) (X.2.1 149 rfl)
  have r := X.row (a := 149) (g := p') rfl
  exact ⟨_, p', e, C.to r.1 r.2, r.2⟩
end
