/-! fields -/
def gF (h : aH) (v : Value) (ci k : Nat) : Option Value := match v with
  | .ref a => if a < aE then match h[a]? with
    | some (.inr (c, fs)) => if c = ci then fs[k]? else none
    | _ => none else none
  | _ => none
def gI (h : aH) (v : Value) (ci k : Nat) : Option Int32 := match gF h v ci k with
  | some (.int x) => some x
  | _ => none
def gJ (h : aH) (v : Value) (ci k : Nat) : Option Int64 := match gF h v ci k with
  | some (.long x) => some x
  | _ => none
def gO (h : aH) (v : Value) (ci k : Nat) : Option Nat := match gF h v ci k with
  | some (.ref x) => some x
  | _ => none
def gW (h : aH) (v : Value) (ci k : Nat) : Option Value := match gF h v ci k with
  | some (.ref x) => some (.ref x)
  | some .null => some .null
  | _ => none
theorem gF_at {h : aH} {v : Value} {ci k : Nat} {x : Value} (g : gF h v ci k = some x) : ∃ (a : Nat) (fs : List Value), v = .ref a ∧ a < aE ∧ h[a]? = some (.inr (ci, fs)) ∧ fs[k]? = some x := by
  unfold gF at g
  split at g
  · rename_i a
    split at g
    · rename_i hl
      split at g
      · rename_i c fs hc
        split at g
        · rename_i he
          subst he
          exact ⟨a, fs, rfl, hl, hc, g⟩
        · cases g
      · cases g
    · cases g
  · cases g
theorem gI_F {h : aH} {v : Value} {ci k : Nat} {x : Int32} (g : gI h v ci k = some x) : gF h v ci k = some (.int x) := by
  unfold gI at g
  split at g
  · rename_i y hy
    cases g
    exact hy
  · cases g
theorem gJ_F {h : aH} {v : Value} {ci k : Nat} {x : Int64} (g : gJ h v ci k = some x) : gF h v ci k = some (.long x) := by
  unfold gJ at g
  split at g
  · rename_i y hy
    cases g
    exact hy
  · cases g
theorem gO_F {h : aH} {v : Value} {ci k : Nat} {x : Nat} (g : gO h v ci k = some x) : gF h v ci k = some (.ref x) := by
  unfold gO at g
  split at g
  · rename_i y hy
    cases g
    exact hy
  · cases g
theorem gW_F {h : aH} {v : Value} {ci k : Nat} {x : Value} (g : gW h v ci k = some x) : gF h v ci k = some x ∧ aRf x := by
  unfold gW at g
  split at g
  · rename_i y hy
    cases g
    exact ⟨hy, trivial⟩
  · rename_i hy
    cases g
    exact ⟨hy, trivial⟩
  · cases g
def okP (ty : FieldType) (x : Value) : Prop := match ty, x with
  | .int, .int _ => True
  | .long, .long _ => True
  | .boolean, .int z => z = 0 ∨ z = 1
  | .object _, x => aRf x
  | .array _, x => aRf x
  | _, _ => False
theorem okP.fit {X : Nat → Nat} {ws : va_W} {ty : FieldType} {x v : Value} (h : okP ty x) (hv : aV X ws x v) : narrow ty v = v ∧ fits ty v = true := by
  cases ty with
  | int =>
    cases x <;> simp [okP] at h
    cases hv
    exact ⟨rfl, rfl⟩
  | long =>
    cases x <;> simp [okP] at h
    cases hv
    exact ⟨rfl, rfl⟩
  | boolean =>
    cases x <;> simp [okP] at h
    cases hv
    rcases h with rfl | rfl <;> exact ⟨by decide, by decide⟩
  | object C =>
    rcases hv.rf h with rfl | ⟨a, rfl⟩ <;> exact ⟨rfl, rfl⟩
  | array C =>
    rcases hv.rf h with rfl | ⟨a, rfl⟩ <;> exact ⟨rfl, rfl⟩
  | _ => cases x <;> simp [okP] at h
def pF (h : aH) (v : Value) (ci k : Nat) (x : Value) : Option aH := match v with
  | .ref a => if a < aE then match h[a]? with
    | some (.inr (c, fs)) => if c = ci ∧ k < fs.length then some (h.set a (.inr (c, fs.set k x))) else none
    | _ => none else none
  | _ => none
def pZ (h : aH) (v : Value) (ci k : Nat) (x : Int32) : Option aH := if x = 0 ∨ x = 1 then pF h v ci k (.int x) else none
theorem pF_at {h h1 : aH} {v : Value} {ci k : Nat} {x : Value} (g : pF h v ci k x = some h1) : ∃ (a : Nat) (fs : List Value), v = .ref a ∧ a < aE ∧ h[a]? = some (.inr (ci, fs)) ∧ k < fs.length ∧ h1 = h.set a (.inr (ci, fs.set k x)) := by
  unfold pF at g
  split at g
  · rename_i a
    split at g
    · rename_i hl
      split at g
      · rename_i c fs hc
        split at g
        · rename_i he
          obtain ⟨rfl, he⟩ := he
          cases g
          exact ⟨a, fs, rfl, hl, hc, he, rfl⟩
        · cases g
      · cases g
    · cases g
  · cases g
theorem pZ_F {h h1 : aH} {v : Value} {ci k : Nat} {x : Int32} (g : pZ h v ci k x = some h1) : pF h v ci k (.int x) = some h1 ∧ okP .boolean (.int x) := by
  unfold pZ at g
  split at g
  · rename_i he
    exact ⟨g, he⟩
  · cases g
theorem aw.recv {D : va_G} {B0 : Nat} {X : Nat → Nat} {h : aH} {ws : va_W} {U : State} {H : Heap} (w : aw D B0 X h ws U H) {a ci : Nat} {fs : List Value} (hl : a < aE) (hc : h[a]? = some (.inr (ci, fs))) {v : Value} (hv : aV X ws (.ref a) v) :
    ∃ (ad : Nat) (fs' : List Value), v = .ref ad ∧ ws[a]? = some (ad, .inr (ci, fs')) ∧ aVs X ws fs fs' := by
  obtain ⟨-, -, -, tys, -, hM⟩ := w
  obtain ⟨ad, e, h1, h2⟩ := hM a _ hc
  match e, h1, h2 with
  | .inr (ci', fs'), h5, ⟨h0, h6⟩ =>
    subst h0
    rcases hv with ⟨-, a2, e2, h3, rfl⟩ | ⟨h3, -⟩ | ⟨h3, -⟩
    · rw [h5] at h3
      cases h3
      exact ⟨ad, fs', rfl, h5, h6⟩
    · exact absurd hl (Nat.lt_asymm h3)
    · exact absurd hl (by rw [h3]; exact Nat.lt_irrefl _)
theorem aw.arr {D : va_G} {B0 : Nat} {X : Nat → Nat} {h : aH} {ws : va_W} {U : State} {H : Heap} (w : aw D B0 X h ws U H) {a : Nat} {ty : FieldType} {x : vp_A} (hl : a < aE) (hc : h[a]? = some (.inl (ty, x))) {v : Value} (hv : aV X ws (.ref a) v) :
    ∃ (ad : Nat) (cA : ClassId) (tys : List (ClassId × FieldType)) (t0 : Nat), v = .ref ad ∧ ws[a]? = some (ad, .inl (cA, x)) ∧ va_K D vwCl tys U ∧ tys[t0]? = some (cA, ty) := by
  obtain ⟨-, -, -, tys, hK, hM⟩ := w
  obtain ⟨ad, e, h1, h2⟩ := hM a _ hc
  match e, h1, h2 with
  | .inl (cA, x'), h5, ⟨h0, t0, h6⟩ =>
    subst h0
    rcases hv with ⟨-, a2, e2, h3, rfl⟩ | ⟨h3, -⟩ | ⟨h3, -⟩
    · rw [h5] at h3
      cases h3
      exact ⟨ad, cA, tys, t0, rfl, h5, hK, h6⟩
    · exact absurd hl (Nat.lt_asymm h3)
    · exact absurd hl (by rw [h3]; exact Nat.lt_irrefl _)
theorem aw.set {D : va_G} {B0 : Nat} {X : Nat → Nat} {h : aH} {ws : va_W} {U : State} {H H1 : Heap} (w : aw D B0 X h ws U H) {a ad : Nat} {e e0 : va_E} {c : aC} (h1 : ws[a]? = some (ad, e0)) (hP : va_P D vwCl (ws.set a (ad, e)) H1) (hD : va_D (aA B0) (ws.set a (ad, e)))
    (hm : ∀ tys : List (ClassId × FieldType), (∀ (i : Nat) (c : aC), h[i]? = some c → ∃ (a : Nat) (e : va_E), ws[i]? = some (a, e) ∧ aMt X ws tys c e) → aMt X (ws.set a (ad, e)) tys c e) : aw D B0 X (h.set a c) (ws.set a (ad, e)) U H1 := by
  obtain ⟨-, -, hlen, tys, hK, hM⟩ := w
  refine ⟨hP, hD, by simp [hlen], tys, hK, fun i d hi => ?_⟩
  have hlt : a < ws.length := (List.getElem?_eq_some_iff.mp h1).1
  by_cases q : a = i
  · subst q
    rw [List.getElem?_set_self (by omega)] at hi
    cases hi
    exact ⟨ad, e, by simp [hlt], hm tys hM⟩
  · rw [List.getElem?_set_ne q] at hi
    obtain ⟨b, f, g1, g2⟩ := hM i d hi
    refine ⟨b, f, by rw [List.getElem?_set_ne q]; exact g1, ?_⟩
    have := g2.mono (t2 := []) (aXt.set (e2 := e) h1)
    rwa [List.append_nil] at this
theorem aw.push {D : va_G} {B0 : Nat} {X : Nat → Nat} {h : aH} {ws : va_W} {U : State} {H1 : Heap} {tys t2 : List (ClassId × FieldType)} (hlen : ws.length = h.length) (hM : ∀ (i : Nat) (c : aC), h[i]? = some c → ∃ (a : Nat) (e : va_E), ws[i]? = some (a, e) ∧ aMt X ws tys c e)
    {q : Nat} {e : va_E} {c : aC} (hK : va_K D vwCl (tys ++ t2) U) (hP : va_P D vwCl (ws ++ [(q, e)]) H1) (hD : va_D (aA B0) (ws ++ [(q, e)])) (hm : aMt X (ws ++ [(q, e)]) (tys ++ t2) c e) : aw D B0 X (h ++ [c]) (ws ++ [(q, e)]) U H1 := by
  refine ⟨hP, hD, by simp [hlen], tys ++ t2, hK, fun i d hi => ?_⟩
  rcases Nat.lt_or_ge i h.length with hl | hl
  · rw [List.getElem?_append_left hl] at hi
    obtain ⟨b, f, g1, g2⟩ := hM i d hi
    exact ⟨b, f, by rw [List.getElem?_append_left (by omega)]; exact g1, g2.mono aXt.app⟩
  · have hi2 : i = h.length := by
      have := (List.getElem?_eq_some_iff.mp hi).1
      simp at this
      omega
    subst hi2
    rw [List.getElem?_append_right hl] at hi
    simp at hi
    subst hi
    exact ⟨q, e, by rw [← hlen]; simp, hm⟩
/-! arrays -/
def aXa (i : Nat) : Option (FieldType × vp_A) := if i = aE + 1 then some (.int, 5, .inl aBASE) else if i = aE + 2 then some (.int, 5, .inl aMOST) else if i = aE + 3 then some (.long, 8, .inr (.inl aRES)) else if aE + 20 ≤ i ∧ i < aE + 28 then some (.byte, aTxL.getD (i - (aE + 20)) 0, .inl (fun j => (aTxB.getD (i - (aE + 20)) []).getD j 0)) else none
def aG (h : aH) (v : Value) : Option (FieldType × vp_A) := match v with
  | .ref a => if a < aE then match h[a]? with
    | some (.inl x) => some x
    | _ => none else aXa a
  | _ => none
def ldI (ty : FieldType) (h : aH) (v : Value) (i : Int32) : Option Int32 := match aG h v with
  | some (t, n, .inl f) => if t = ty ∧ ¬ i < 0 ∧ i.toNatClampNeg < n then some (f i.toNatClampNeg) else none
  | _ => none
def ldJ (h : aH) (v : Value) (i : Int32) : Option Int64 := match aG h v with
  | some (t, n, .inr (.inl f)) => if t = .long ∧ ¬ i < 0 ∧ i.toNatClampNeg < n then some (f i.toNatClampNeg) else none
  | _ => none
def lnA (h : aH) (v : Value) : Option Int32 := match aG h v with
  | some (_, n, _) => some (Int32.ofNat n)
  | _ => none
theorem ldI_at {ty : FieldType} {h : aH} {v : Value} {i x : Int32} (g : ldI ty h v i = some x) : ∃ (n : Nat) (f : Nat → Int32), aG h v = some (ty, n, .inl f) ∧ vp_in i n ∧ x = f i.toNatClampNeg := by
  unfold ldI at g
  split at g
  · rename_i t n f hf
    split at g
    · rename_i hc
      obtain ⟨rfl, h1, h2⟩ := hc
      cases g
      exact ⟨n, f, hf, fun q => q.elim h1 (fun q => by omega), rfl⟩
    · cases g
  · cases g
theorem ldJ_at {h : aH} {v : Value} {i : Int32} {x : Int64} (g : ldJ h v i = some x) : ∃ (n : Nat) (f : Nat → Int64), aG h v = some (.long, n, .inr (.inl f)) ∧ vp_in i n ∧ x = f i.toNatClampNeg := by
  unfold ldJ at g
  split at g
  · rename_i t n f hf
    split at g
    · rename_i hc
      obtain ⟨rfl, h1, h2⟩ := hc
      cases g
      exact ⟨n, f, hf, fun q => q.elim h1 (fun q => by omega), rfl⟩
    · cases g
  · cases g
theorem aG_at {h : aH} {v : Value} {x : FieldType × vp_A} (g : aG h v = some x) : (∃ a : Nat, v = .ref a ∧ a < aE ∧ h[a]? = some (.inl x)) ∨ (∃ a : Nat, v = .ref a ∧ ¬ a < aE ∧ aXa a = some x) := by
  unfold aG at g
  split at g
  · rename_i a
    split at g
    · rename_i hl
      split at g
      · rename_i y hy
        cases g
        exact Or.inl ⟨a, rfl, hl, hy⟩
      · cases g
    · rename_i hl
      exact Or.inr ⟨a, rfl, hl, g⟩
  · cases g
def stI (h : aH) (v : Value) (i x : Int32) : Option aH := match v with
  | .ref a => if a < aE then match h[a]? with
    | some (.inl (t, n, .inl f)) => if t = .int ∧ ¬ i < 0 ∧ i.toNatClampNeg < n then some (h.set a (.inl (t, n, .inl (upd f i.toNatClampNeg x)))) else none
    | _ => none else none
  | _ => none
def stN (ty : FieldType) (h : aH) (v : Value) (i x : Int32) : Option aH := match v with
  | .ref a => if a < aE then match h[a]? with
    | some (.inl (t, n, .inl f)) => if t = ty ∧ ¬ i < 0 ∧ i.toNatClampNeg < n then some (h.set a (.inl (t, n, .inl (upd f i.toNatClampNeg (vp_nar ty x))))) else none
    | _ => none else none
  | _ => none
def stJ (h : aH) (v : Value) (i : Int32) (x : Int64) : Option aH := match v with
  | .ref a => if a < aE then match h[a]? with
    | some (.inl (t, n, .inr (.inl f))) => if t = .long ∧ ¬ i < 0 ∧ i.toNatClampNeg < n then some (h.set a (.inl (t, n, .inr (.inl (vp_updL f i.toNatClampNeg x))))) else none
    | _ => none else none
  | _ => none
theorem stI_at {h h1 : aH} {v : Value} {i x : Int32} (g : stI h v i x = some h1) : ∃ (a n : Nat) (f : Nat → Int32), v = .ref a ∧ a < aE ∧ h[a]? = some (.inl (.int, n, .inl f)) ∧ vp_in i n ∧ h1 = h.set a (.inl (.int, n, .inl (upd f i.toNatClampNeg x))) := by
  unfold stI at g
  split at g
  · rename_i a
    split at g
    · rename_i hl
      split at g
      · rename_i t n f hf
        split at g
        · rename_i hc
          obtain ⟨rfl, q1, q2⟩ := hc
          cases g
          exact ⟨a, n, f, rfl, hl, hf, fun q => q.elim q1 (fun q => by omega), rfl⟩
        · cases g
      · cases g
    · cases g
  · cases g
theorem stN_at {ty : FieldType} {h h1 : aH} {v : Value} {i x : Int32} (g : stN ty h v i x = some h1) : ∃ (a n : Nat) (f : Nat → Int32), v = .ref a ∧ a < aE ∧ h[a]? = some (.inl (ty, n, .inl f)) ∧ vp_in i n ∧ h1 = h.set a (.inl (ty, n, .inl (upd f i.toNatClampNeg (vp_nar ty x)))) := by
  unfold stN at g
  split at g
  · rename_i a
    split at g
    · rename_i hl
      split at g
      · rename_i t n f hf
        split at g
        · rename_i hc
          obtain ⟨rfl, q1, q2⟩ := hc
          cases g
          exact ⟨a, n, f, rfl, hl, hf, fun q => q.elim q1 (fun q => by omega), rfl⟩
        · cases g
      · cases g
    · cases g
  · cases g
theorem stJ_at {h h1 : aH} {v : Value} {i : Int32} {x : Int64} (g : stJ h v i x = some h1) : ∃ (a n : Nat) (f : Nat → Int64), v = .ref a ∧ a < aE ∧ h[a]? = some (.inl (.long, n, .inr (.inl f))) ∧ vp_in i n ∧ h1 = h.set a (.inl (.long, n, .inr (.inl (vp_updL f i.toNatClampNeg x)))) := by
  unfold stJ at g
  split at g
  · rename_i a
    split at g
    · rename_i hl
      split at g
      · rename_i t n f hf
        split at g
        · rename_i hc
          obtain ⟨rfl, q1, q2⟩ := hc
          cases g
          exact ⟨a, n, f, rfl, hl, hf, fun q => q.elim q1 (fun q => by omega), rfl⟩
        · cases g
      · cases g
    · cases g
  · cases g
