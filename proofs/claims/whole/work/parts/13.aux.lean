theorem aB {α β : Type} {o : Option α} {f : α → Option β} {b : β} (h : o.bind f = some b) : ∃ a, o = some a ∧ f a = some b := by
  cases o with
  | none => cases h
  | some a => exact ⟨a, rfl, h⟩
def bP {α β γ : Type} (o : Option (α × β)) (f : α → β → Option γ) : Option γ := match o with
  | some (a, b) => f a b
  | none => none
theorem bP_at {α β γ : Type} {o : Option (α × β)} {f : α → β → Option γ} {c : γ} (h : bP o f = some c) : ∃ a b, o = some (a, b) ∧ f a b = some c := by
  match o, h with
  | some (a, b), h => exact ⟨a, b, rfl, h⟩
def cI {β : Type} (o : aO) (f : Int32 → aH → Option β) : Option β := match o with
  | some (.inl (some (.int x)), h) => f x h
  | _ => none
theorem cI_at {β : Type} {o : aO} {f : Int32 → aH → Option β} {b : β} (h : cI o f = some b) : ∃ x h1, o = some (.inl (some (.int x)), h1) ∧ f x h1 = some b := by
  match o, h with
  | some (.inl (some (.int x)), h1), h => exact ⟨x, h1, rfl, h⟩
def cJ {β : Type} (o : aO) (f : Int64 → aH → Option β) : Option β := match o with
  | some (.inl (some (.long x)), h) => f x h
  | _ => none
theorem cJ_at {β : Type} {o : aO} {f : Int64 → aH → Option β} {b : β} (h : cJ o f = some b) : ∃ x h1, o = some (.inl (some (.long x)), h1) ∧ f x h1 = some b := by
  match o, h with
  | some (.inl (some (.long x)), h1), h => exact ⟨x, h1, rfl, h⟩
def cR {β : Type} (o : aO) (f : Nat → aH → Option β) : Option β := match o with
  | some (.inl (some (.ref x)), h) => f x h
  | _ => none
theorem cR_at {β : Type} {o : aO} {f : Nat → aH → Option β} {b : β} (h : cR o f = some b) : ∃ x h1, o = some (.inl (some (.ref x)), h1) ∧ f x h1 = some b := by
  match o, h with
  | some (.inl (some (.ref x)), h1), h => exact ⟨x, h1, rfl, h⟩
def cN {β : Type} (o : aO) (f : aH → Option β) : Option β := match o with
  | some (.inl none, h) => f h
  | _ => none
theorem cN_at {β : Type} {o : aO} {f : aH → Option β} {b : β} (h : cN o f = some b) : ∃ h1, o = some (.inl none, h1) ∧ f h1 = some b := by
  match o, h with
  | some (.inl none, h1), h => exact ⟨h1, rfl, h⟩
/-! callees that make cells: how many, and how many places -/
def dI {β : Type} (o : aP) (f : Int32 → aH → Nat → Nat → Option β) : Option β := match o with
  | some (.inl (some (.int x)), h, a, b) => f x h a b
  | _ => none
theorem dI_at {β : Type} {o : aP} {f : Int32 → aH → Nat → Nat → Option β} {b : β} (h : dI o f = some b) : ∃ x h1 n z, o = some (.inl (some (.int x)), h1, n, z) ∧ f x h1 n z = some b := by
  match o, h with
  | some (.inl (some (.int x)), h1, n, z), h => exact ⟨x, h1, n, z, rfl, h⟩
def dR {β : Type} (o : aP) (f : Nat → aH → Nat → Nat → Option β) : Option β := match o with
  | some (.inl (some (.ref x)), h, a, b) => f x h a b
  | _ => none
theorem dR_at {β : Type} {o : aP} {f : Nat → aH → Nat → Nat → Option β} {b : β} (h : dR o f = some b) : ∃ x h1 n z, o = some (.inl (some (.ref x)), h1, n, z) ∧ f x h1 n z = some b := by
  match o, h with
  | some (.inl (some (.ref x)), h1, n, z), h => exact ⟨x, h1, n, z, rfl, h⟩
def dN {β : Type} (o : aP) (f : aH → Nat → Nat → Option β) : Option β := match o with
  | some (.inl none, h, a, b) => f h a b
  | _ => none
theorem dN_at {β : Type} {o : aP} {f : aH → Nat → Nat → Option β} {b : β} (h : dN o f = some b) : ∃ h1 n z, o = some (.inl none, h1, n, z) ∧ f h1 n z = some b := by
  match o, h with
  | some (.inl none, h1, n, z), h => exact ⟨h1, n, z, rfl, h⟩
def wC (c s : Nat) (o : aO) : aP := match o with
  | some (r, h) => some (r, h, c, s)
  | none => none
theorem wC_at {c s mc ms : Nat} {o : aO} {r : aR} {h : aH} (g : wC c s o = some (r, h, mc, ms)) : o = some (r, h) ∧ c = mc ∧ s = ms := by
  match o, g with
  | some (r1, h1), g => cases g; exact ⟨rfl, rfl, rfl⟩
/-! callees that may throw -/
def xI (o : aO) (f : Int32 → aH → aO) (g : String → Nat → aH → aO) : aO := match o with
  | some (.inl (some (.int x)), h) => f x h
  | some (.inr (E, i), h) => g E i h
  | _ => none
theorem xI_at {o : aO} {f : Int32 → aH → aO} {g : String → Nat → aH → aO} {b : aR × aH} (h : xI o f g = some b) : (∃ x h1, o = some (.inl (some (.int x)), h1) ∧ f x h1 = some b) ∨ ∃ E i h1, o = some (.inr (E, i), h1) ∧ g E i h1 = some b := by
  match o, h with
  | some (.inl (some (.int x)), h1), h => exact Or.inl ⟨x, h1, rfl, h⟩
  | some (.inr (E, i), h1), h => exact Or.inr ⟨E, i, h1, rfl, h⟩
def xN (o : aO) (f : aH → aO) (g : String → Nat → aH → aO) : aO := match o with
  | some (.inl none, h) => f h
  | some (.inr (E, i), h) => g E i h
  | _ => none
theorem xN_at {o : aO} {f : aH → aO} {g : String → Nat → aH → aO} {b : aR × aH} (h : xN o f g = some b) : (∃ h1, o = some (.inl none, h1) ∧ f h1 = some b) ∨ ∃ E i h1, o = some (.inr (E, i), h1) ∧ g E i h1 = some b := by
  match o, h with
  | some (.inl none, h1), h => exact Or.inl ⟨h1, rfl, h⟩
  | some (.inr (E, i), h1), h => exact Or.inr ⟨E, i, h1, rfl, h⟩
def kO {β : Type} (h : aH) (o ci : Nat) (k : Option β) : Option β := match cO h (.ref o) ci with
  | some _ => k
  | none => none
theorem kO_at {β : Type} {h : aH} {o ci : Nat} {k : Option β} {b : β} (g : kO h o ci k = some b) : cO h (.ref o) ci = some o ∧ k = some b := by
  unfold kO at g
  split at g
  · rename_i a ha
    obtain ⟨fs, e, -⟩ := cO_at ha
    cases e
    exact ⟨ha, g⟩
  · cases g
/-- a division: its divisor isn't 0 -/
def nz {β : Type} (y : Int32) (k : Option β) : Option β := if y = 0 then none else k
theorem nz_at {β : Type} {y : Int32} {k : Option β} {b : β} (g : nz y k = some b) : ¬ y = 0 ∧ k = some b := by
  unfold nz at g
  split at g
  · cases g
  · rename_i h
    exact ⟨h, g⟩
def nzL {β : Type} (y : Int64) (k : Option β) : Option β := if y = 0 then none else k
theorem nzL_at {β : Type} {y : Int64} {k : Option β} {b : β} (g : nzL y k = some b) : ¬ y = 0 ∧ k = some b := by
  unfold nzL at g
  split at g
  · cases g
  · rename_i h
    exact ⟨h, g⟩
def FU : Nat := 1000000
def aKeep : List Bool → List (Option Value) → List (Option Value)
  | true :: bs, o :: L => o :: aKeep bs L
  | false :: bs, _ :: L => none :: aKeep bs L
  | _, _ => []
theorem aKeep_at : ∀ {bs : List Bool} {L : List (Option Value)} {i : Nat} {x : Value}, (aKeep bs L)[i]? = some (some x) → L[i]? = some (some x)
  | true :: _, _ :: _, 0, _, h => h
  | true :: _, _ :: _, _ + 1, _, h => by
    simp only [aKeep, List.getElem?_cons_succ] at h ⊢
    exact aKeep_at h
  | false :: _, _ :: _, 0, _, h => by simp [aKeep] at h
  | false :: _, _ :: _, _ + 1, _, h => by
    simp only [aKeep, List.getElem?_cons_succ] at h ⊢
    exact aKeep_at h
  | [], _, _, _, h => by simp [aKeep] at h
  | true :: _, [], _, _, h => by simp [aKeep] at h
  | false :: _, [], _, _, h => by simp [aKeep] at h
theorem Ev.keep {p : Program} {l : Launch} {e : Env} {R : Room} {s : State} {m : MethodId} {args : Array Value} {below : List Frame} {meth : Method} {c : Code} {D : va_G} {B0 : Nat} {X : Nat → Nat} {ws0 : va_W} {r : aR} {h' : aH} {mc ms nL cells slots pc : Nat} {L : List (Option Value)} {st : List Value} {h : aH} (bs : List Bool)
    (k : Ev p l e R s m args below meth c D B0 X ws0 r h' mc ms nL cells slots pc (aKeep bs L) st h) : Ev p l e R s m args below meth c D B0 X ws0 r h' mc ms nL cells slots pc L st h :=
  fun ws H locs ls mst hx hw hS hl hs => k ws H locs ls mst hx hw hS ⟨hl.1, hl.2.1, fun i x hi => hl.2.2 i x (aKeep_at hi)⟩ hs
/-- a loop, by its fuel -/
def lpF {F : Type} (z : F) (b : F → F) : Nat → F
  | 0 => z
  | n + 1 => b (lpF z b n)
/-- what is made stays within what is made in all -/
def ck (c s : Nat) (o : aP) : aP := match o with
  | some (r, h, mc, ms) => if c ≤ mc ∧ s ≤ ms then some (r, h, mc, ms) else none
  | none => none
theorem ck_at {c s mc ms : Nat} {o : aP} {r : aR} {h : aH} (g : ck c s o = some (r, h, mc, ms)) : c ≤ mc ∧ s ≤ ms ∧ o = some (r, h, mc, ms) := by
  match o, g with
  | some (r1, h1, a, b), g =>
    unfold ck at g
    dsimp only at g
    split at g
    · rename_i q
      cases g
      exact ⟨q.1, q.2, rfl⟩
    · cases g
def dfX0 : List Value := [.int 0, .null, .null, .null, .int 0, .null, .null, .null, .null]
theorem dfX0_se : ∀ (X : Nat → Nat) (ws : va_W), aVs X ws dfX0 dfX0 := fun _ _ => ⟨_, _, rfl, rfl, ⟨_, _, rfl, rfl, ⟨_, _, rfl, rfl, ⟨_, _, rfl, rfl, ⟨_, _, rfl, rfl, ⟨_, _, rfl, rfl, ⟨_, _, rfl, rfl, ⟨_, _, rfl, rfl, ⟨_, _, rfl, rfl, rfl⟩⟩⟩⟩⟩⟩⟩⟩⟩
theorem dfX0_ok : ∀ j, j < 9 → defaultValue (tyX0 j) = vp_V dfX0 j := by decide +kernel
def dfX1 : List Value := [.null, .int 0, .int 0, .null, .null, .null, .null, .null, .int 0, .null, .null, .null, .null, .null]
theorem dfX1_se : ∀ (X : Nat → Nat) (ws : va_W), aVs X ws dfX1 dfX1 := fun _ _ => ⟨_, _, rfl, rfl, ⟨_, _, rfl, rfl, ⟨_, _, rfl, rfl, ⟨_, _, rfl, rfl, ⟨_, _, rfl, rfl, ⟨_, _, rfl, rfl, ⟨_, _, rfl, rfl, ⟨_, _, rfl, rfl, ⟨_, _, rfl, rfl, ⟨_, _, rfl, rfl, ⟨_, _, rfl, rfl, ⟨_, _, rfl, rfl, ⟨_, _, rfl, rfl, ⟨_, _, rfl, rfl, rfl⟩⟩⟩⟩⟩⟩⟩⟩⟩⟩⟩⟩⟩⟩
theorem dfX1_ok : ∀ j, j < 14 → defaultValue (tyX1 j) = vp_V dfX1 j := by decide +kernel
def dfX2 : List Value := [.null, .null, .null, .null, .int 0, .null, .null, .null, .null, .null, .null, .null, .int 0, .int 0, .int 0, .int 0, .null]
theorem dfX2_se : ∀ (X : Nat → Nat) (ws : va_W), aVs X ws dfX2 dfX2 := fun _ _ => ⟨_, _, rfl, rfl, ⟨_, _, rfl, rfl, ⟨_, _, rfl, rfl, ⟨_, _, rfl, rfl, ⟨_, _, rfl, rfl, ⟨_, _, rfl, rfl, ⟨_, _, rfl, rfl, ⟨_, _, rfl, rfl, ⟨_, _, rfl, rfl, ⟨_, _, rfl, rfl, ⟨_, _, rfl, rfl, ⟨_, _, rfl, rfl, ⟨_, _, rfl, rfl, ⟨_, _, rfl, rfl, ⟨_, _, rfl, rfl, ⟨_, _, rfl, rfl, ⟨_, _, rfl, rfl, rfl⟩⟩⟩⟩⟩⟩⟩⟩⟩⟩⟩⟩⟩⟩⟩⟩⟩
theorem dfX2_ok : ∀ j, j < 17 → defaultValue (tyX2 j) = vp_V dfX2 j := by decide +kernel
def dfX3 : List Value := [.null, .null, .int 0, .int 0, .null, .null]
theorem dfX3_se : ∀ (X : Nat → Nat) (ws : va_W), aVs X ws dfX3 dfX3 := fun _ _ => ⟨_, _, rfl, rfl, ⟨_, _, rfl, rfl, ⟨_, _, rfl, rfl, ⟨_, _, rfl, rfl, ⟨_, _, rfl, rfl, ⟨_, _, rfl, rfl, rfl⟩⟩⟩⟩⟩⟩
theorem dfX3_ok : ∀ j, j < 6 → defaultValue (tyX3 j) = vp_V dfX3 j := by decide +kernel
def dfX4 : List Value := [.null, .null, .null, .int 0, .null, .null]
theorem dfX4_se : ∀ (X : Nat → Nat) (ws : va_W), aVs X ws dfX4 dfX4 := fun _ _ => ⟨_, _, rfl, rfl, ⟨_, _, rfl, rfl, ⟨_, _, rfl, rfl, ⟨_, _, rfl, rfl, ⟨_, _, rfl, rfl, ⟨_, _, rfl, rfl, rfl⟩⟩⟩⟩⟩⟩
theorem dfX4_ok : ∀ j, j < 6 → defaultValue (tyX4 j) = vp_V dfX4 j := by decide +kernel
def dfX5 : List Value := [.null, .null, .null, .null, .null, .null, .int 0, .int 0, .int 0, .null, .null]
theorem dfX5_se : ∀ (X : Nat → Nat) (ws : va_W), aVs X ws dfX5 dfX5 := fun _ _ => ⟨_, _, rfl, rfl, ⟨_, _, rfl, rfl, ⟨_, _, rfl, rfl, ⟨_, _, rfl, rfl, ⟨_, _, rfl, rfl, ⟨_, _, rfl, rfl, ⟨_, _, rfl, rfl, ⟨_, _, rfl, rfl, ⟨_, _, rfl, rfl, ⟨_, _, rfl, rfl, ⟨_, _, rfl, rfl, rfl⟩⟩⟩⟩⟩⟩⟩⟩⟩⟩⟩
theorem dfX5_ok : ∀ j, j < 11 → defaultValue (tyX5 j) = vp_V dfX5 j := by decide +kernel
def dfX6 : List Value := [.int 0, .int 0, .int 0, .int 0, .int 0, .null, .null, .null]
theorem dfX6_se : ∀ (X : Nat → Nat) (ws : va_W), aVs X ws dfX6 dfX6 := fun _ _ => ⟨_, _, rfl, rfl, ⟨_, _, rfl, rfl, ⟨_, _, rfl, rfl, ⟨_, _, rfl, rfl, ⟨_, _, rfl, rfl, ⟨_, _, rfl, rfl, ⟨_, _, rfl, rfl, ⟨_, _, rfl, rfl, rfl⟩⟩⟩⟩⟩⟩⟩⟩
theorem dfX6_ok : ∀ j, j < 8 → defaultValue (tyX6 j) = vp_V dfX6 j := by decide +kernel
def dfX7 : List Value := [.null, .null, .null, .null, .int 0, .int 0, .int 0, .null, .null, .null, .null, .null, .null, .null]
theorem dfX7_se : ∀ (X : Nat → Nat) (ws : va_W), aVs X ws dfX7 dfX7 := fun _ _ => ⟨_, _, rfl, rfl, ⟨_, _, rfl, rfl, ⟨_, _, rfl, rfl, ⟨_, _, rfl, rfl, ⟨_, _, rfl, rfl, ⟨_, _, rfl, rfl, ⟨_, _, rfl, rfl, ⟨_, _, rfl, rfl, ⟨_, _, rfl, rfl, ⟨_, _, rfl, rfl, ⟨_, _, rfl, rfl, ⟨_, _, rfl, rfl, ⟨_, _, rfl, rfl, ⟨_, _, rfl, rfl, rfl⟩⟩⟩⟩⟩⟩⟩⟩⟩⟩⟩⟩⟩⟩
theorem dfX7_ok : ∀ j, j < 14 → defaultValue (tyX7 j) = vp_V dfX7 j := by decide +kernel
def dfX8 : List Value := [.int 0, .null, .null, .null]
theorem dfX8_se : ∀ (X : Nat → Nat) (ws : va_W), aVs X ws dfX8 dfX8 := fun _ _ => ⟨_, _, rfl, rfl, ⟨_, _, rfl, rfl, ⟨_, _, rfl, rfl, ⟨_, _, rfl, rfl, rfl⟩⟩⟩⟩
theorem dfX8_ok : ∀ j, j < 4 → defaultValue (tyX8 j) = vp_V dfX8 j := by decide +kernel
def dfX9 : List Value := [.null, .null, .null, .null, .int 0, .null, .null, .null, .null, .null, .int 0]
theorem dfX9_se : ∀ (X : Nat → Nat) (ws : va_W), aVs X ws dfX9 dfX9 := fun _ _ => ⟨_, _, rfl, rfl, ⟨_, _, rfl, rfl, ⟨_, _, rfl, rfl, ⟨_, _, rfl, rfl, ⟨_, _, rfl, rfl, ⟨_, _, rfl, rfl, ⟨_, _, rfl, rfl, ⟨_, _, rfl, rfl, ⟨_, _, rfl, rfl, ⟨_, _, rfl, rfl, ⟨_, _, rfl, rfl, rfl⟩⟩⟩⟩⟩⟩⟩⟩⟩⟩⟩
theorem dfX9_ok : ∀ j, j < 11 → defaultValue (tyX9 j) = vp_V dfX9 j := by decide +kernel
def dfX10 : List Value := [.null, .null, .null, .int 0, .null, .null, .null, .int 0, .null, .null, .null, .null]
theorem dfX10_se : ∀ (X : Nat → Nat) (ws : va_W), aVs X ws dfX10 dfX10 := fun _ _ => ⟨_, _, rfl, rfl, ⟨_, _, rfl, rfl, ⟨_, _, rfl, rfl, ⟨_, _, rfl, rfl, ⟨_, _, rfl, rfl, ⟨_, _, rfl, rfl, ⟨_, _, rfl, rfl, ⟨_, _, rfl, rfl, ⟨_, _, rfl, rfl, ⟨_, _, rfl, rfl, ⟨_, _, rfl, rfl, ⟨_, _, rfl, rfl, rfl⟩⟩⟩⟩⟩⟩⟩⟩⟩⟩⟩⟩
theorem dfX10_ok : ∀ j, j < 12 → defaultValue (tyX10 j) = vp_V dfX10 j := by decide +kernel
def dfX11 : List Value := [.null, .int 0, .int 0, .int 0, .int 0, .int 0, .null, .null, .null, .null, .null, .null, .null, .null, .null, .null, .null, .null]
theorem dfX11_se : ∀ (X : Nat → Nat) (ws : va_W), aVs X ws dfX11 dfX11 := fun _ _ => ⟨_, _, rfl, rfl, ⟨_, _, rfl, rfl, ⟨_, _, rfl, rfl, ⟨_, _, rfl, rfl, ⟨_, _, rfl, rfl, ⟨_, _, rfl, rfl, ⟨_, _, rfl, rfl, ⟨_, _, rfl, rfl, ⟨_, _, rfl, rfl, ⟨_, _, rfl, rfl, ⟨_, _, rfl, rfl, ⟨_, _, rfl, rfl, ⟨_, _, rfl, rfl, ⟨_, _, rfl, rfl, ⟨_, _, rfl, rfl, ⟨_, _, rfl, rfl, ⟨_, _, rfl, rfl, ⟨_, _, rfl, rfl, rfl⟩⟩⟩⟩⟩⟩⟩⟩⟩⟩⟩⟩⟩⟩⟩⟩⟩⟩
theorem dfX11_ok : ∀ j, j < 18 → defaultValue (tyX11 j) = vp_V dfX11 j := by decide +kernel
def dfX12 : List Value := [.null, .null, .null, .null, .null, .int 0, .int 0, .int 0]
theorem dfX12_se : ∀ (X : Nat → Nat) (ws : va_W), aVs X ws dfX12 dfX12 := fun _ _ => ⟨_, _, rfl, rfl, ⟨_, _, rfl, rfl, ⟨_, _, rfl, rfl, ⟨_, _, rfl, rfl, ⟨_, _, rfl, rfl, ⟨_, _, rfl, rfl, ⟨_, _, rfl, rfl, ⟨_, _, rfl, rfl, rfl⟩⟩⟩⟩⟩⟩⟩⟩
theorem dfX12_ok : ∀ j, j < 8 → defaultValue (tyX12 j) = vp_V dfX12 j := by decide +kernel
def dfX13 : List Value := [.null, .null, .null, .null, .null, .null, .int 0, .int 0, .null, .null, .null, .null, .null, .null]
theorem dfX13_se : ∀ (X : Nat → Nat) (ws : va_W), aVs X ws dfX13 dfX13 := fun _ _ => ⟨_, _, rfl, rfl, ⟨_, _, rfl, rfl, ⟨_, _, rfl, rfl, ⟨_, _, rfl, rfl, ⟨_, _, rfl, rfl, ⟨_, _, rfl, rfl, ⟨_, _, rfl, rfl, ⟨_, _, rfl, rfl, ⟨_, _, rfl, rfl, ⟨_, _, rfl, rfl, ⟨_, _, rfl, rfl, ⟨_, _, rfl, rfl, ⟨_, _, rfl, rfl, ⟨_, _, rfl, rfl, rfl⟩⟩⟩⟩⟩⟩⟩⟩⟩⟩⟩⟩⟩⟩
theorem dfX13_ok : ∀ j, j < 14 → defaultValue (tyX13 j) = vp_V dfX13 j := by decide +kernel
def dfX14 : List Value := [.int 0, .int 0, .int 0, .int 0, .null, .null, .null, .null, .null, .int 0, .int 0, .int 0, .int 0, .int 0, .int 0, .int 0, .int 0, .int 0, .long 0, .null, .int 0, .int 0, .int 0, .int 0, .int 0, .int 0, .null, .null, .null, .null, .null, .null, .int 0, .null, .null, .null, .null, .null, .null, .null, .null, .null, .null, .null, .null, .null, .null, .null, .null, .null, .int 0, .null, .null, .null, .null, .null, .int 0, .null, .null, .int 0, .null, .null, .null, .null, .null, .null, .null, .int 0, .int 0, .null]
set_option maxRecDepth 20000 in
theorem dfX14_se : ∀ (X : Nat → Nat) (ws : va_W), aVs X ws dfX14 dfX14 := fun _ _ => ⟨_, _, rfl, rfl, ⟨_, _, rfl, rfl, ⟨_, _, rfl, rfl, ⟨_, _, rfl, rfl, ⟨_, _, rfl, rfl, ⟨_, _, rfl, rfl, ⟨_, _, rfl, rfl, ⟨_, _, rfl, rfl, ⟨_, _, rfl, rfl, ⟨_, _, rfl, rfl, ⟨_, _, rfl, rfl, ⟨_, _, rfl, rfl, ⟨_, _, rfl, rfl, ⟨_, _, rfl, rfl, ⟨_, _, rfl, rfl, ⟨_, _, rfl, rfl, ⟨_, _, rfl, rfl, ⟨_, _, rfl, rfl, ⟨_, _, rfl, rfl, ⟨_, _, rfl, rfl, ⟨_, _, rfl, rfl, ⟨_, _, rfl, rfl, ⟨_, _, rfl, rfl, ⟨_, _, rfl, rfl, ⟨_, _, rfl, rfl, ⟨_, _, rfl, rfl, ⟨_, _, rfl, rfl, ⟨_, _, rfl, rfl, ⟨_, _, rfl, rfl, ⟨_, _, rfl, rfl, ⟨_, _, rfl, rfl, ⟨_, _, rfl, rfl, ⟨_, _, rfl, rfl, ⟨_, _, rfl, rfl, ⟨_, _, rfl, rfl, ⟨_, _, rfl, rfl, ⟨_, _, rfl, rfl, ⟨_, _, rfl, rfl, ⟨_, _, rfl, rfl, ⟨_, _, rfl, rfl, ⟨_, _, rfl, rfl, ⟨_, _, rfl, rfl, ⟨_, _, rfl, rfl, ⟨_, _, rfl, rfl, ⟨_, _, rfl, rfl, ⟨_, _, rfl, rfl, ⟨_, _, rfl, rfl, ⟨_, _, rfl, rfl, ⟨_, _, rfl, rfl, ⟨_, _, rfl, rfl, ⟨_, _, rfl, rfl, ⟨_, _, rfl, rfl, ⟨_, _, rfl, rfl, ⟨_, _, rfl, rfl, ⟨_, _, rfl, rfl, ⟨_, _, rfl, rfl, ⟨_, _, rfl, rfl, ⟨_, _, rfl, rfl, ⟨_, _, rfl, rfl, ⟨_, _, rfl, rfl, ⟨_, _, rfl, rfl, ⟨_, _, rfl, rfl, ⟨_, _, rfl, rfl, ⟨_, _, rfl, rfl, ⟨_, _, rfl, rfl, ⟨_, _, rfl, rfl, ⟨_, _, rfl, rfl, ⟨_, _, rfl, rfl, ⟨_, _, rfl, rfl, ⟨_, _, rfl, rfl, rfl⟩⟩⟩⟩⟩⟩⟩⟩⟩⟩⟩⟩⟩⟩⟩⟩⟩⟩⟩⟩⟩⟩⟩⟩⟩⟩⟩⟩⟩⟩⟩⟩⟩⟩⟩⟩⟩⟩⟩⟩⟩⟩⟩⟩⟩⟩⟩⟩⟩⟩⟩⟩⟩⟩⟩⟩⟩⟩⟩⟩⟩⟩⟩⟩⟩⟩⟩⟩⟩⟩
theorem dfX14_ok : ∀ j, j < 70 → defaultValue (tyX14 j) = vp_V dfX14 j := by decide +kernel
section ML
variable {p : Program} {l : Launch} {e : Env} {R : Room} {s : State} {m : MethodId} {args : Array Value} {below : List Frame} {meth : Method} {c : Code} {D : va_G} {B0 : Nat} {X : Nat → Nat} {ws0 : va_W} {r : aR} {h' : aH} {mc ms nL cells slots pc : Nat} {L : List (Option Value)} {st : List Value} {h : aH}
variable {own nm : String} {cc : ByteArray} {ret : Option FieldType} {hh : List (Nat × Nat × Nat × Nat)}
def jmaxL (x y : Int64) : Int64 := if y < x then x else y
def jminL (x y : Int64) : Int64 := if y < x then y else x
def jabsL (x : Int64) : Int64 := if 0 < x then x else -x
theorem ev_mmaxL (C : Cx p l s m args meth c B0 X own nm cc nL ret hh) {index : Nat} {x y : Int64} (hlk : Cond.methodLink own index Lib.MathLoose.max_long.x ∈ aTB) (hst : Cond.static Lib.MathLoose.max_long.x ∈ aTB) (hini : Cond.initialized "java/lang/Math" ∈ aTB) (hco : Cond.code Lib.MathLoose.max_long.x Lib.MathLoose.max_long.code 4 (some .long) ∈ aTB) (hfr : 1 ≤ R.frames) (hlo : (st.map fun v => v.category).sum + 15 ≤ R.locals) (hc : cells ≤ R.cells) (hsl : slots ≤ R.slots) (hd : decode cc pc = .ok (.invokestatic index, 3)) (kk : Ev p l e R s m args below meth c D B0 X ws0 r h' mc ms nL cells slots (pc + 3) L (.long (jmaxL x y) :: st) h) : Ev p l e R s m args below meth c D B0 X ws0 r h' mc ms nL cells slots pc L (.long y :: .long x :: st) h := by
  intro ws H locs ls mst hx hw hS hl hs
  obtain ⟨_, _, rfl, rfl, _, mst, rfl, rfl, hs⟩ := hs
  exact va_mmax_long C.1 C.2.1 (C.2.2.1.trans hl.1.symm) C.2.2.2.1 (C.2.2.2.2.1 _ hlk) (C.2.2.2.2.1 _ hst) (C.2.2.2.2.1 _ hini) (C.2.2.2.2.1 _ hco) hfr (by rw [hs.cats]; exact hlo) hc hsl hd (kk ws H locs ls _ hx hw hS hl ⟨_, _, rfl, rfl, hs⟩)
theorem ev_mminL (C : Cx p l s m args meth c B0 X own nm cc nL ret hh) {index : Nat} {x y : Int64} (hlk : Cond.methodLink own index Lib.MathLoose.min_long.x ∈ aTB) (hst : Cond.static Lib.MathLoose.min_long.x ∈ aTB) (hini : Cond.initialized "java/lang/Math" ∈ aTB) (hco : Cond.code Lib.MathLoose.min_long.x Lib.MathLoose.min_long.code 4 (some .long) ∈ aTB) (hfr : 1 ≤ R.frames) (hlo : (st.map fun v => v.category).sum + 15 ≤ R.locals) (hc : cells ≤ R.cells) (hsl : slots ≤ R.slots) (hd : decode cc pc = .ok (.invokestatic index, 3)) (kk : Ev p l e R s m args below meth c D B0 X ws0 r h' mc ms nL cells slots (pc + 3) L (.long (jminL x y) :: st) h) : Ev p l e R s m args below meth c D B0 X ws0 r h' mc ms nL cells slots pc L (.long y :: .long x :: st) h := by
  intro ws H locs ls mst hx hw hS hl hs
  obtain ⟨_, _, rfl, rfl, _, mst, rfl, rfl, hs⟩ := hs
  exact va_mmin_long C.1 C.2.1 (C.2.2.1.trans hl.1.symm) C.2.2.2.1 (C.2.2.2.2.1 _ hlk) (C.2.2.2.2.1 _ hst) (C.2.2.2.2.1 _ hini) (C.2.2.2.2.1 _ hco) hfr (by rw [hs.cats]; exact hlo) hc hsl hd (kk ws H locs ls _ hx hw hS hl ⟨_, _, rfl, rfl, hs⟩)
theorem ev_mabsL (C : Cx p l s m args meth c B0 X own nm cc nL ret hh) {index : Nat} {x : Int64} (hlk : Cond.methodLink own index Lib.MathLoose.abs_long.x ∈ aTB) (hst : Cond.static Lib.MathLoose.abs_long.x ∈ aTB) (hini : Cond.initialized "java/lang/Math" ∈ aTB) (hco : Cond.code Lib.MathLoose.abs_long.x Lib.MathLoose.abs_long.code 2 (some .long) ∈ aTB) (hfr : 1 ≤ R.frames) (hlo : (st.map fun v => v.category).sum + 13 ≤ R.locals) (hc : cells ≤ R.cells) (hsl : slots ≤ R.slots) (hd : decode cc pc = .ok (.invokestatic index, 3)) (kk : Ev p l e R s m args below meth c D B0 X ws0 r h' mc ms nL cells slots (pc + 3) L (.long (jabsL x) :: st) h) : Ev p l e R s m args below meth c D B0 X ws0 r h' mc ms nL cells slots pc L (.long x :: st) h := by
  intro ws H locs ls mst hx hw hS hl hs
  obtain ⟨_, mst, rfl, rfl, hs⟩ := hs
  exact va_mabs_long C.1 C.2.1 (C.2.2.1.trans hl.1.symm) C.2.2.2.1 (C.2.2.2.2.1 _ hlk) (C.2.2.2.2.1 _ hst) (C.2.2.2.2.1 _ hini) (C.2.2.2.2.1 _ hco) hfr (by rw [hs.cats]; exact hlo) hc hsl hd (kk ws H locs ls _ hx hw hS hl ⟨_, _, rfl, rfl, hs⟩)
end ML
/-! texts: the class's own String constants -/
def sK (a : Nat) : Option Nat := if aE + 10 ≤ a ∧ a < aE + 18 then some (a - (aE + 10)) else none
theorem sK_at {a k : Nat} (g : sK a = some k) : k < 8 ∧ a = aE + 10 + k := by
  unfold sK at g
  split at g
  · have e := Option.some.inj g
    omega
  · cases g
def rtC (x : Int32) (h : aH) : aO := if 0 ≤ x ∧ x ≤ 65535 then some (.inl (some (.int x)), h) else none
theorem rtC_at {x : Int32} {h h1 : aH} {r : aR} (g : rtC x h = some (r, h1)) : narrow .char (.int x) = .int x ∧ r = .inl (some (.int x)) ∧ h1 = h := by
  unfold rtC at g
  split at g
  · rename_i hl
    cases g
    refine ⟨?_, rfl, rfl⟩
    obtain ⟨j, hj, rfl⟩ := nI_of2 (M := 65535) (n := 65535) (by decide) (fun q => by
      have h1 := Int32.lt_iff_toInt_lt.mp q
      have h2 := Int32.le_iff_toInt_le.mp hl.1
      omega) hl.2
    exact (pk_charN (by omega)).1
  · cases g
def rtB (x : Int32) (h : aH) : aO := if x = 0 ∨ x = 1 then some (.inl (some (.int x)), h) else none
theorem rtB_at {x : Int32} {h h1 : aH} {r : aR} (g : rtB x h = some (r, h1)) : narrow .byte (.int x) = .int x ∧ r = .inl (some (.int x)) ∧ h1 = h := by
  unfold rtB at g
  split at g
  · rename_i hl
    cases g
    refine ⟨?_, rfl, rfl⟩
    rcases hl with rfl | rfl <;> decide
  · cases g
section TX
variable {p : Program} {l : Launch} {e : Env} {R : Room} {s : State} {m : MethodId} {args : Array Value} {below : List Frame} {meth : Method} {c : Code} {D : va_G} {B0 : Nat} {X : Nat → Nat} {ws0 : va_W} {r : aR} {h' : aH} {mc ms nL cells slots pc : Nat} {L : List (Option Value)} {st : List Value} {h : aH}
variable {own nm : String} {cc : ByteArray} {ret : Option FieldType} {hh : List (Nat × Nat × Nat × Nat)}
theorem ev_getSv (C : Cx p l s m args meth c B0 X own nm cc nL ret hh) {index a k : Nat} (hk : sK a = some k) (hlk : Cond.fieldLink own index "java/lang/String" "value" "[B" ∈ aTB) (hd : decode cc pc = .ok (.getfield index, 3)) (kk : Ev p l e R s m args below meth c D B0 X ws0 r h' mc ms nL cells slots (pc + 3) L (.ref (a + 10) :: st) h) : Ev p l e R s m args below meth c D B0 X ws0 r h' mc ms nL cells slots pc L (.ref a :: st) h := by
  intro ws H locs ls mst hx hw hS hl hs
  obtain ⟨hk8, rfl⟩ := sK_at hk
  obtain ⟨v, mst, rfl, h2, hs⟩ := hs
  cases h2.ext (by omega) (by omega)
  exact vk_getf C.1 C.2.1 (C.2.2.2.2.2.2.2.2.1.2.2.2.2.2.1.2.1 k hk8).2.2.1 hS C.2.2.2.1 (C.2.2.2.2.1 _ hlk) (fun _ q => q) hd (kk ws H locs ls _ hx hw hS hl ⟨_, _, rfl, Or.inr (Or.inl ⟨by omega, by rw [show aE + 10 + k + 10 = aE + 20 + k by omega]⟩), hs⟩)
theorem ev_getSc (C : Cx p l s m args meth c B0 X own nm cc nL ret hh) {index a k : Nat} (hk : sK a = some k) (hlk : Cond.fieldLink own index "java/lang/String" "coder" "B" ∈ aTB) (hd : decode cc pc = .ok (.getfield index, 3)) (kk : Ev p l e R s m args below meth c D B0 X ws0 r h' mc ms nL cells slots (pc + 3) L (.int 0 :: st) h) : Ev p l e R s m args below meth c D B0 X ws0 r h' mc ms nL cells slots pc L (.ref a :: st) h := by
  intro ws H locs ls mst hx hw hS hl hs
  obtain ⟨hk8, rfl⟩ := sK_at hk
  obtain ⟨v, mst, rfl, h2, hs⟩ := hs
  cases h2.ext (by omega) (by omega)
  exact vk_getf C.1 C.2.1 (C.2.2.2.2.2.2.2.2.1.2.2.2.2.2.1.2.1 k hk8).2.1 hS C.2.2.2.1 (C.2.2.2.2.1 _ hlk) (fun _ q => q) hd (kk ws H locs ls _ hx hw hS hl ⟨_, _, rfl, rfl, hs⟩)
theorem ev_getsCS (C : Cx p l s m args meth c B0 X own nm cc nL ret hh) {index : Nat} (hlk : Cond.fieldLink own index "java/lang/String" "COMPACT_STRINGS" "Z" ∈ aTB) (hd : decode cc pc = .ok (.getstatic index, 3)) (kk : Ev p l e R s m args below meth c D B0 X ws0 r h' mc ms nL cells slots (pc + 3) L (.int 1 :: st) h) : Ev p l e R s m args below meth c D B0 X ws0 r h' mc ms nL cells slots pc L st h := by
  intro ws H locs ls mst hx hw hS hl hs
  exact va_gets C.1 C.2.1 (C.2.2.2.2.2.2.2.2.1.2.2.2.2.2.1.1) hS C.2.2.2.1 (C.2.2.2.2.1 _ hlk) (fun _ q => q) hd (kk ws H locs ls _ hx hw hS hl ⟨_, _, rfl, rfl, hs⟩)
theorem ev_nret (C : Cx p l s m args meth c B0 X own nm cc nL ret hh) {x : Int32} {ty : FieldType} (hret : ret = some ty) (hz : narrow ty (.int x) = .int x) (hr : r = .inl (some (.int x))) (hc : cells ≤ mc) (hsl : slots ≤ ms) (hh9 : h' = h) (hd : decode cc pc = .ok (.ireturn, 1)) : Ev p l e R s m args below meth c D B0 X ws0 r h' mc ms nL cells slots pc L [.int x] h := by
  intro ws H locs ls mst hx hw hS hl hs
  obtain ⟨_, mst, rfl, rfl, hs⟩ := hs
  cases hs
  exact W.widen hc hsl (vx_ret (W.zret C.1 C.2.1 (C.2.2.2.2.2.2.1.trans hret) hz (fun t ht hW => ⟨hS.F ht, _, _, ws, hr, rfl, ⟨_, rfl, rfl⟩, hx, by rw [ht, hh9]; exact hw.moved hW.alike⟩) hS.2.2 hd C.2.2.2.2.2.1))
theorem ev_callVS (C : Cx p l s m args meth c B0 X own nm cc nL ret hh) {index fr lo mc1 ms1 maxL o k : Nat} {y : MethodName} {bytes : ByteArray} {rt : Option FieldType} {xs rest : List Value} {v : Option Value} {h1 : aH} (hM : Mt y (Cond.code y bytes maxL rt :: aTB) fr lo mc1 ms1 (.ref o :: xs) h (.inl v) h1)
    (hyc : y.cls = "java/lang/String") (hcO : sK o = some k) (hco : Cond.code y bytes maxL rt ∈ aTB) (hlk : Cond.methodLink own index y ∈ aTB) (hst : Cond.instanceMethod y ∈ aTB) (hse : Cond.selects y.cls y y ∈ aTB) (hini : Cond.initialized y.cls ∈ aTB) (hy : y.cls ≠ "java/lang/invoke/MethodHandle" ∧ y.cls ≠ "java/lang/invoke/VarHandle" ∧ (parseMethodDescriptor y.desc).map (fun d => d.parameters.length) = some xs.length)
    (hR : fr + 1 ≤ R.frames ∧ 8 + (maxL + 11) + lo ≤ R.locals) (hf : cells + mc1 ≤ R.cells ∧ slots + ms1 ≤ R.slots) (hrest : (rest.map fun v => v.category).sum ≤ 8) (hstk : st = xs.reverse ++ .ref o :: rest) (hd : decode cc pc = .ok (.invokevirtual index, 3))
    (kk : Ev p l e R s m args below meth c D B0 X ws0 r h' mc ms nL (cells + mc1) (slots + ms1) (pc + 3) L (v.toList ++ rest) h1) : Ev p l e R s m args below meth c D B0 X ws0 r h' mc ms nL cells slots pc L st h := by
  intro ws H locs ls mst hx hw hS hl hs
  subst hstk
  obtain ⟨va, vb0, rfl, h2, mo, vb, rfl, ho, h3⟩ := hs.split
  obtain ⟨hk8, rfl⟩ := sK_at hcO
  cases ho.ext (by omega) (by omega)
  have hv := h2.rev
  rw [List.reverse_reverse] at hv
  have hm := hM l D B0 X ws (.ref (X (aE + 10 + k)) :: va.reverse) C.2.2.2.2.2.2.2.1 ⟨_, _, rfl, ho, hv⟩
  have cb := callB_of (R := R) (rm := { frames := fr, cells := mc1, slots := ms1, locals := lo }) (mc := mc1) (ms := ms1) xs.length C.2.2.2.2.1 (aTB_ws hco) rfl rfl rfl (C.2.2.2.2.1 _ hini) (C.2.2.2.2.1 _ hlk) hy hR
  have hp : PreV s H y.cls (X (aE + 10 + k)) (fun a U => a = (Value.ref (X (aE + 10 + k)) :: va.reverse).toArray ∧ aw D B0 X h ws U U.heap ∧ aX B0 X U U.heap) va.reverse :=
    ⟨(ev_preS C hw hS (vs := Value.ref (X (aE + 10 + k)) :: va.reverse)).1, by rw [hyc]; exact vk_recv (i := k) (adK := fun i => X (aE + 10 + i)) (C.2.2.2.2.2.2.2.2.1.2.2.2.2.2.1.2) hk8 hS, (ev_preS C hw hS (vs := Value.ref (X (aE + 10 + k)) :: va.reverse)).2⟩
  exact ev_after hx hS hl h3 (vx_runV (As := va.reverse) (rest := vb) ⟨C.1, C.2.1, C.2.2.1, C.2.2.2.1, C.2.2.2.2.1⟩ hm ⟨cb, C.2.2.2.2.1 _ hst, C.2.2.2.2.1 _ hse⟩ hp rfl hv.len hl.1 (by rw [List.reverse_reverse]) (lv_room (by rw [h3.cats]; exact hrest)) hd hf) kk
end TX
