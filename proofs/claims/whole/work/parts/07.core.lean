/-! THE STATE, field by field (a map for each kind of content), over addresses that are counted from a base bs.
kinds: 0 nothing, c + 1 an object of class c of vwCl, 20 int[], 21 long[], 22 char[], 23 boolean[], 24 Policy[], 25 Rule[], 26 RuleList[] -/
abbrev UH : Type := Nat × (Nat → Nat) × (Nat → Nat) × (Nat → Nat → Nat → Int32) × (Nat → Nat → Nat → Int64) × (Nat → Nat → Nat → Option Nat) × (Nat → Nat → Int32) × (Nat → Nat → Int64) × (Nat → Nat → Option Nat)
def uSz (u : UH) : Nat := u.1
def uKd (u : UH) : Nat → Nat := u.2.1
def uLn (u : UH) : Nat → Nat := u.2.2.1
def uI (u : UH) : Nat → Nat → Nat → Int32 := u.2.2.2.1
def uJ (u : UH) : Nat → Nat → Nat → Int64 := u.2.2.2.2.1
def uR (u : UH) : Nat → Nat → Nat → Option Nat := u.2.2.2.2.2.1
def uAI (u : UH) : Nat → Nat → Int32 := u.2.2.2.2.2.2.1
def uAJ (u : UH) : Nat → Nat → Int64 := u.2.2.2.2.2.2.2.1
def uAR (u : UH) : Nat → Nat → Option Nat := u.2.2.2.2.2.2.2.2
def up3 {α : Type} (f : Nat → Nat → Nat → α) (c k a : Nat) (v : α) : Nat → Nat → Nat → α := fun c' k' a' => if c' = c ∧ k' = k ∧ a' = a then v else f c' k' a'
def up2 {α : Type} (f : Nat → Nat → α) (a i : Nat) (v : α) : Nat → Nat → α := fun a' i' => if a' = a ∧ i' = i then v else f a' i'
def sI (u : UH) (c k a : Nat) (v : Int32) : UH := (uSz u, uKd u, uLn u, up3 (uI u) c k a v, uJ u, uR u, uAI u, uAJ u, uAR u)
def sJ (u : UH) (c k a : Nat) (v : Int64) : UH := (uSz u, uKd u, uLn u, uI u, up3 (uJ u) c k a v, uR u, uAI u, uAJ u, uAR u)
def sR (u : UH) (c k a : Nat) (v : Option Nat) : UH := (uSz u, uKd u, uLn u, uI u, uJ u, up3 (uR u) c k a v, uAI u, uAJ u, uAR u)
def sAI (u : UH) (a i : Nat) (v : Int32) : UH := (uSz u, uKd u, uLn u, uI u, uJ u, uR u, up2 (uAI u) a i v, uAJ u, uAR u)
def sAJ (u : UH) (a i : Nat) (v : Int64) : UH := (uSz u, uKd u, uLn u, uI u, uJ u, uR u, uAI u, up2 (uAJ u) a i v, uAR u)
def sAR (u : UH) (a i : Nat) (v : Option Nat) : UH := (uSz u, uKd u, uLn u, uI u, uJ u, uR u, uAI u, uAJ u, up2 (uAR u) a i v)
/-- a new object of class c, at the address uSz u -/
def uNew (u : UH) (c : Nat) : UH := (uSz u + 1, fun a => if a = uSz u then c + 1 else uKd u a, uLn u, fun c' k a => if a = uSz u then 0 else uI u c' k a, fun c' k a => if a = uSz u then 0 else uJ u c' k a, fun c' k a => if a = uSz u then none else uR u c' k a, uAI u, uAJ u, uAR u)
/-- a new array of kind t and length n, at the address uSz u -/
def uNewA (u : UH) (t n : Nat) : UH := (uSz u + 1, fun a => if a = uSz u then t else uKd u a, fun a => if a = uSz u then n else uLn u a, uI u, uJ u, uR u, fun a => if a = uSz u then fun _ => 0 else uAI u a, fun a => if a = uSz u then fun _ => 0 else uAJ u a, fun a => if a = uSz u then fun _ => none else uAR u a)
/-! what the code does with it; none: it doesn't go on -/
def ob {α β : Type} (x : Option α) (f : α → Option β) : Option β := match x with
  | none => none
  | some a => f a
def ob2 {α β γ : Type} (x : Option (α × β)) (f : α → β → Option γ) : Option γ := match x with
  | none => none
  | some q => f q.1 q.2
def lt {α β : Type} (e : α) (k : α → β) : β := k e
theorem ob_some {α β : Type} {x : Option α} {f : α → Option β} {r : β} (h : ob x f = some r) : ∃ a, x = some a ∧ f a = some r := by
  cases x with
  | none => cases h
  | some a => exact ⟨a, rfl, h⟩
theorem ob2_some {α β γ : Type} {x : Option (α × β)} {f : α → β → Option γ} {r : γ} (h : ob2 x f = some r) : ∃ a b, x = some (a, b) ∧ f a b = some r := by
  cases x with
  | none => cases h
  | some q => exact ⟨q.1, q.2, rfl, h⟩
def rI (u : UH) (c k a : Nat) : Option Int32 := if uKd u a = c + 1 then some (uI u c k a) else none
def rJ (u : UH) (c k a : Nat) : Option Int64 := if uKd u a = c + 1 then some (uJ u c k a) else none
def rR (u : UH) (c k a : Nat) : Option Nat := if uKd u a = c + 1 then uR u c k a else none
def wI (u : UH) (c k a : Nat) (v : Int32) : Option UH := if uKd u a = c + 1 then some (sI u c k a v) else none
/-- a boolean field: 0 or 1 alone -/
def wZ (u : UH) (c k a : Nat) (v : Int32) : Option UH := if uKd u a = c + 1 ∧ (v = 0 ∨ v = 1) then some (sI u c k a v) else none
def wJ (u : UH) (c k a : Nat) (v : Int64) : Option UH := if uKd u a = c + 1 then some (sJ u c k a v) else none
def wR (u : UH) (c k a : Nat) (v : Nat) : Option UH := if uKd u a = c + 1 then some (sR u c k a (some v)) else none
def ldI (u : UH) (t a : Nat) (i : Int32) : Option Int32 := if uKd u a = t ∧ ¬ (i < 0 ∨ uLn u a ≤ i.toNatClampNeg) then some (uAI u a i.toNatClampNeg) else none
def ldJ (u : UH) (a : Nat) (i : Int32) : Option Int64 := if uKd u a = 21 ∧ ¬ (i < 0 ∨ uLn u a ≤ i.toNatClampNeg) then some (uAJ u a i.toNatClampNeg) else none
def ldR (u : UH) (t a : Nat) (i : Int32) : Option Nat := if uKd u a = t ∧ ¬ (i < 0 ∨ uLn u a ≤ i.toNatClampNeg) then uAR u a i.toNatClampNeg else none
def stI (u : UH) (a : Nat) (i : Int32) (v : Int32) : Option UH := if uKd u a = 20 ∧ ¬ (i < 0 ∨ uLn u a ≤ i.toNatClampNeg) then some (sAI u a i.toNatClampNeg v) else none
def stC (u : UH) (a : Nat) (i : Int32) (v : Int32) : Option UH := if uKd u a = 22 ∧ ¬ (i < 0 ∨ uLn u a ≤ i.toNatClampNeg) then some (sAI u a i.toNatClampNeg (vp_nar .char v)) else none
def stZ (u : UH) (a : Nat) (i : Int32) (v : Int32) : Option UH := if uKd u a = 23 ∧ ¬ (i < 0 ∨ uLn u a ≤ i.toNatClampNeg) then some (sAI u a i.toNatClampNeg (vp_nar .boolean v)) else none
def stJ (u : UH) (a : Nat) (i : Int32) (v : Int64) : Option UH := if uKd u a = 21 ∧ ¬ (i < 0 ∨ uLn u a ≤ i.toNatClampNeg) then some (sAJ u a i.toNatClampNeg v) else none
/-- a store of an object of class c into an array of kind t -/
def stR (u : UH) (t c a : Nat) (i : Int32) (v : Nat) : Option UH := if uKd u a = t ∧ ¬ (i < 0 ∨ uLn u a ≤ i.toNatClampNeg) ∧ uKd u v = c + 1 then some (sAR u a i.toNatClampNeg (some v)) else none
def lnA (u : UH) (t a : Nat) : Option Int32 := if uKd u a = t then some (Int32.ofNat (uLn u a)) else none
/-- the static row WITH_BIT -/
def uWB (j : Nat) : Int64 := match j with
  | 0 => 0xAAAAAAAA
  | 1 => 0xCCCCCCCC
  | 2 => 0xF0F0F0F0
  | 3 => 0xFF00FF00
  | _ => 0xFFFF0000
def rWB (i : Int32) : Option Int64 := if ¬ (i < 0 ∨ 5 ≤ i.toNatClampNeg) then some (uWB i.toNatClampNeg) else none
/-- the receiver is an object of class c -/
def kd {α : Type} (u : UH) (c a : Nat) (x : Option α) : Option α := if uKd u a = c + 1 then x else none
/-- an answer of type boolean -/
def bz {α : Type} (v : Int32) (x : Option α) : Option α := if v = 0 ∨ v = 1 then x else none
theorem kd_some {α : Type} {u : UH} {c a : Nat} {x : Option α} {r : α} (h : kd u c a x = some r) : uKd u a = c + 1 ∧ x = some r := by
  unfold kd at h
  split at h
  · exact ⟨by assumption, h⟩
  · cases h
theorem bz_some {α : Type} {v : Int32} {x : Option α} {r : α} (h : bz v x = some r) : (v = 0 ∨ v = 1) ∧ x = some r := by
  unfold bz at h
  split at h
  · exact ⟨by assumption, h⟩
  · cases h
/-- shifts as the machine does them -/
def jsl (x y : Int32) : Int32 := x <<< (y &&& 31)
def jsr (x y : Int32) : Int32 := x >>> (y &&& 31)
def jrem (x y : Int32) : Int32 := x - x / y * y
def jlsl (x : Int64) (y : Int32) : Int64 := x <<< (y.toInt64 &&& 63)
def jlsr (x : Int64) (y : Int32) : Int64 := x >>> (y.toInt64 &&& 63)
def jlur (x : Int64) (y : Int32) : Int64 := (x.toUInt64 >>> (y.toInt64.toUInt64 &&& Int64.toUInt64 63)).toInt64
def jc (x : Int32) : Int32 := (x.toUInt32 % 65536).toInt32
/-! loops: k stands for one more turn -/
def FUEL : Nat := 1000000
def it1 {α1 E : Type} (b : (α1 → Option E) → α1 → Option E) : Nat → α1 → Option E
  | 0 => fun _ => none
  | n + 1 => b (it1 b n)
theorem it1_V {α1 E : Type} {b : (α1 → Option E) → α1 → Option E} {V : α1 → Prop} {G : E → Prop} (hb : ∀ k : α1 → Option E, (∀ x1 e, k x1 = some e → G e → V x1) → ∀ x1 e, b k x1 = some e → G e → V x1) : ∀ n x1 e, it1 b n x1 = some e → G e → V x1 := by
  intro n
  induction n with
  | zero => intro x1 e h; cases h
  | succ n ih => intro x1 e h g; exact hb (it1 b n) ih x1 e h g
theorem it1_rule {α1 E : Type} {b : (α1 → Option E) → α1 → Option E} (I : α1 → Prop) (μ : α1 → Nat) (P : E → Prop) (hb : ∀ (k : α1 → Option E) x1, I x1 → (∀ y1, I y1 → μ y1 < μ x1 → ∃ e, k y1 = some e ∧ P e) → ∃ e, b k x1 = some e ∧ P e) : ∀ n x1, I x1 → μ x1 < n → ∃ e, it1 b n x1 = some e ∧ P e := by
  intro n
  induction n with
  | zero => intro x1 _ h; exact absurd h (Nat.not_lt_zero _)
  | succ n ih => intro x1 hi h; exact hb (it1 b n) x1 hi (fun y1 hi2 h2 => ih y1 hi2 (by omega))
def it2 {α1 α2 E : Type} (b : (α1 → α2 → Option E) → α1 → α2 → Option E) : Nat → α1 → α2 → Option E
  | 0 => fun _ _ => none
  | n + 1 => b (it2 b n)
theorem it2_V {α1 α2 E : Type} {b : (α1 → α2 → Option E) → α1 → α2 → Option E} {V : α1 → α2 → Prop} {G : E → Prop} (hb : ∀ k : α1 → α2 → Option E, (∀ x1 x2 e, k x1 x2 = some e → G e → V x1 x2) → ∀ x1 x2 e, b k x1 x2 = some e → G e → V x1 x2) : ∀ n x1 x2 e, it2 b n x1 x2 = some e → G e → V x1 x2 := by
  intro n
  induction n with
  | zero => intro x1 x2 e h; cases h
  | succ n ih => intro x1 x2 e h g; exact hb (it2 b n) ih x1 x2 e h g
theorem it2_rule {α1 α2 E : Type} {b : (α1 → α2 → Option E) → α1 → α2 → Option E} (I : α1 → α2 → Prop) (μ : α1 → α2 → Nat) (P : E → Prop) (hb : ∀ (k : α1 → α2 → Option E) x1 x2, I x1 x2 → (∀ y1 y2, I y1 y2 → μ y1 y2 < μ x1 x2 → ∃ e, k y1 y2 = some e ∧ P e) → ∃ e, b k x1 x2 = some e ∧ P e) : ∀ n x1 x2, I x1 x2 → μ x1 x2 < n → ∃ e, it2 b n x1 x2 = some e ∧ P e := by
  intro n
  induction n with
  | zero => intro x1 x2 _ h; exact absurd h (Nat.not_lt_zero _)
  | succ n ih => intro x1 x2 hi h; exact hb (it2 b n) x1 x2 hi (fun y1 y2 hi2 h2 => ih y1 y2 hi2 (by omega))
def it3 {α1 α2 α3 E : Type} (b : (α1 → α2 → α3 → Option E) → α1 → α2 → α3 → Option E) : Nat → α1 → α2 → α3 → Option E
  | 0 => fun _ _ _ => none
  | n + 1 => b (it3 b n)
theorem it3_V {α1 α2 α3 E : Type} {b : (α1 → α2 → α3 → Option E) → α1 → α2 → α3 → Option E} {V : α1 → α2 → α3 → Prop} {G : E → Prop} (hb : ∀ k : α1 → α2 → α3 → Option E, (∀ x1 x2 x3 e, k x1 x2 x3 = some e → G e → V x1 x2 x3) → ∀ x1 x2 x3 e, b k x1 x2 x3 = some e → G e → V x1 x2 x3) : ∀ n x1 x2 x3 e, it3 b n x1 x2 x3 = some e → G e → V x1 x2 x3 := by
  intro n
  induction n with
  | zero => intro x1 x2 x3 e h; cases h
  | succ n ih => intro x1 x2 x3 e h g; exact hb (it3 b n) ih x1 x2 x3 e h g
theorem it3_rule {α1 α2 α3 E : Type} {b : (α1 → α2 → α3 → Option E) → α1 → α2 → α3 → Option E} (I : α1 → α2 → α3 → Prop) (μ : α1 → α2 → α3 → Nat) (P : E → Prop) (hb : ∀ (k : α1 → α2 → α3 → Option E) x1 x2 x3, I x1 x2 x3 → (∀ y1 y2 y3, I y1 y2 y3 → μ y1 y2 y3 < μ x1 x2 x3 → ∃ e, k y1 y2 y3 = some e ∧ P e) → ∃ e, b k x1 x2 x3 = some e ∧ P e) : ∀ n x1 x2 x3, I x1 x2 x3 → μ x1 x2 x3 < n → ∃ e, it3 b n x1 x2 x3 = some e ∧ P e := by
  intro n
  induction n with
  | zero => intro x1 x2 x3 _ h; exact absurd h (Nat.not_lt_zero _)
  | succ n ih => intro x1 x2 x3 hi h; exact hb (it3 b n) x1 x2 x3 hi (fun y1 y2 y3 hi2 h2 => ih y1 y2 y3 hi2 (by omega))
def it4 {α1 α2 α3 α4 E : Type} (b : (α1 → α2 → α3 → α4 → Option E) → α1 → α2 → α3 → α4 → Option E) : Nat → α1 → α2 → α3 → α4 → Option E
  | 0 => fun _ _ _ _ => none
  | n + 1 => b (it4 b n)
theorem it4_V {α1 α2 α3 α4 E : Type} {b : (α1 → α2 → α3 → α4 → Option E) → α1 → α2 → α3 → α4 → Option E} {V : α1 → α2 → α3 → α4 → Prop} {G : E → Prop} (hb : ∀ k : α1 → α2 → α3 → α4 → Option E, (∀ x1 x2 x3 x4 e, k x1 x2 x3 x4 = some e → G e → V x1 x2 x3 x4) → ∀ x1 x2 x3 x4 e, b k x1 x2 x3 x4 = some e → G e → V x1 x2 x3 x4) : ∀ n x1 x2 x3 x4 e, it4 b n x1 x2 x3 x4 = some e → G e → V x1 x2 x3 x4 := by
  intro n
  induction n with
  | zero => intro x1 x2 x3 x4 e h; cases h
  | succ n ih => intro x1 x2 x3 x4 e h g; exact hb (it4 b n) ih x1 x2 x3 x4 e h g
theorem it4_rule {α1 α2 α3 α4 E : Type} {b : (α1 → α2 → α3 → α4 → Option E) → α1 → α2 → α3 → α4 → Option E} (I : α1 → α2 → α3 → α4 → Prop) (μ : α1 → α2 → α3 → α4 → Nat) (P : E → Prop) (hb : ∀ (k : α1 → α2 → α3 → α4 → Option E) x1 x2 x3 x4, I x1 x2 x3 x4 → (∀ y1 y2 y3 y4, I y1 y2 y3 y4 → μ y1 y2 y3 y4 < μ x1 x2 x3 x4 → ∃ e, k y1 y2 y3 y4 = some e ∧ P e) → ∃ e, b k x1 x2 x3 x4 = some e ∧ P e) : ∀ n x1 x2 x3 x4, I x1 x2 x3 x4 → μ x1 x2 x3 x4 < n → ∃ e, it4 b n x1 x2 x3 x4 = some e ∧ P e := by
  intro n
  induction n with
  | zero => intro x1 x2 x3 x4 _ h; exact absurd h (Nat.not_lt_zero _)
  | succ n ih => intro x1 x2 x3 x4 hi h; exact hb (it4 b n) x1 x2 x3 x4 hi (fun y1 y2 y3 y4 hi2 h2 => ih y1 y2 y3 y4 hi2 (by omega))
def it5 {α1 α2 α3 α4 α5 E : Type} (b : (α1 → α2 → α3 → α4 → α5 → Option E) → α1 → α2 → α3 → α4 → α5 → Option E) : Nat → α1 → α2 → α3 → α4 → α5 → Option E
  | 0 => fun _ _ _ _ _ => none
  | n + 1 => b (it5 b n)
theorem it5_V {α1 α2 α3 α4 α5 E : Type} {b : (α1 → α2 → α3 → α4 → α5 → Option E) → α1 → α2 → α3 → α4 → α5 → Option E} {V : α1 → α2 → α3 → α4 → α5 → Prop} {G : E → Prop} (hb : ∀ k : α1 → α2 → α3 → α4 → α5 → Option E, (∀ x1 x2 x3 x4 x5 e, k x1 x2 x3 x4 x5 = some e → G e → V x1 x2 x3 x4 x5) → ∀ x1 x2 x3 x4 x5 e, b k x1 x2 x3 x4 x5 = some e → G e → V x1 x2 x3 x4 x5) : ∀ n x1 x2 x3 x4 x5 e, it5 b n x1 x2 x3 x4 x5 = some e → G e → V x1 x2 x3 x4 x5 := by
  intro n
  induction n with
  | zero => intro x1 x2 x3 x4 x5 e h; cases h
  | succ n ih => intro x1 x2 x3 x4 x5 e h g; exact hb (it5 b n) ih x1 x2 x3 x4 x5 e h g
theorem it5_rule {α1 α2 α3 α4 α5 E : Type} {b : (α1 → α2 → α3 → α4 → α5 → Option E) → α1 → α2 → α3 → α4 → α5 → Option E} (I : α1 → α2 → α3 → α4 → α5 → Prop) (μ : α1 → α2 → α3 → α4 → α5 → Nat) (P : E → Prop) (hb : ∀ (k : α1 → α2 → α3 → α4 → α5 → Option E) x1 x2 x3 x4 x5, I x1 x2 x3 x4 x5 → (∀ y1 y2 y3 y4 y5, I y1 y2 y3 y4 y5 → μ y1 y2 y3 y4 y5 < μ x1 x2 x3 x4 x5 → ∃ e, k y1 y2 y3 y4 y5 = some e ∧ P e) → ∃ e, b k x1 x2 x3 x4 x5 = some e ∧ P e) : ∀ n x1 x2 x3 x4 x5, I x1 x2 x3 x4 x5 → μ x1 x2 x3 x4 x5 < n → ∃ e, it5 b n x1 x2 x3 x4 x5 = some e ∧ P e := by
  intro n
  induction n with
  | zero => intro x1 x2 x3 x4 x5 _ h; exact absurd h (Nat.not_lt_zero _)
  | succ n ih => intro x1 x2 x3 x4 x5 hi h; exact hb (it5 b n) x1 x2 x3 x4 x5 hi (fun y1 y2 y3 y4 y5 hi2 h2 => ih y1 y2 y3 y4 y5 hi2 (by omega))
def it6 {α1 α2 α3 α4 α5 α6 E : Type} (b : (α1 → α2 → α3 → α4 → α5 → α6 → Option E) → α1 → α2 → α3 → α4 → α5 → α6 → Option E) : Nat → α1 → α2 → α3 → α4 → α5 → α6 → Option E
  | 0 => fun _ _ _ _ _ _ => none
  | n + 1 => b (it6 b n)
theorem it6_V {α1 α2 α3 α4 α5 α6 E : Type} {b : (α1 → α2 → α3 → α4 → α5 → α6 → Option E) → α1 → α2 → α3 → α4 → α5 → α6 → Option E} {V : α1 → α2 → α3 → α4 → α5 → α6 → Prop} {G : E → Prop} (hb : ∀ k : α1 → α2 → α3 → α4 → α5 → α6 → Option E, (∀ x1 x2 x3 x4 x5 x6 e, k x1 x2 x3 x4 x5 x6 = some e → G e → V x1 x2 x3 x4 x5 x6) → ∀ x1 x2 x3 x4 x5 x6 e, b k x1 x2 x3 x4 x5 x6 = some e → G e → V x1 x2 x3 x4 x5 x6) : ∀ n x1 x2 x3 x4 x5 x6 e, it6 b n x1 x2 x3 x4 x5 x6 = some e → G e → V x1 x2 x3 x4 x5 x6 := by
  intro n
  induction n with
  | zero => intro x1 x2 x3 x4 x5 x6 e h; cases h
  | succ n ih => intro x1 x2 x3 x4 x5 x6 e h g; exact hb (it6 b n) ih x1 x2 x3 x4 x5 x6 e h g
theorem it6_rule {α1 α2 α3 α4 α5 α6 E : Type} {b : (α1 → α2 → α3 → α4 → α5 → α6 → Option E) → α1 → α2 → α3 → α4 → α5 → α6 → Option E} (I : α1 → α2 → α3 → α4 → α5 → α6 → Prop) (μ : α1 → α2 → α3 → α4 → α5 → α6 → Nat) (P : E → Prop) (hb : ∀ (k : α1 → α2 → α3 → α4 → α5 → α6 → Option E) x1 x2 x3 x4 x5 x6, I x1 x2 x3 x4 x5 x6 → (∀ y1 y2 y3 y4 y5 y6, I y1 y2 y3 y4 y5 y6 → μ y1 y2 y3 y4 y5 y6 < μ x1 x2 x3 x4 x5 x6 → ∃ e, k y1 y2 y3 y4 y5 y6 = some e ∧ P e) → ∃ e, b k x1 x2 x3 x4 x5 x6 = some e ∧ P e) : ∀ n x1 x2 x3 x4 x5 x6, I x1 x2 x3 x4 x5 x6 → μ x1 x2 x3 x4 x5 x6 < n → ∃ e, it6 b n x1 x2 x3 x4 x5 x6 = some e ∧ P e := by
  intro n
  induction n with
  | zero => intro x1 x2 x3 x4 x5 x6 _ h; exact absurd h (Nat.not_lt_zero _)
  | succ n ih => intro x1 x2 x3 x4 x5 x6 hi h; exact hb (it6 b n) x1 x2 x3 x4 x5 x6 hi (fun y1 y2 y3 y4 y5 y6 hi2 h2 => ih y1 y2 y3 y4 y5 y6 hi2 (by omega))
def it7 {α1 α2 α3 α4 α5 α6 α7 E : Type} (b : (α1 → α2 → α3 → α4 → α5 → α6 → α7 → Option E) → α1 → α2 → α3 → α4 → α5 → α6 → α7 → Option E) : Nat → α1 → α2 → α3 → α4 → α5 → α6 → α7 → Option E
  | 0 => fun _ _ _ _ _ _ _ => none
  | n + 1 => b (it7 b n)
theorem it7_V {α1 α2 α3 α4 α5 α6 α7 E : Type} {b : (α1 → α2 → α3 → α4 → α5 → α6 → α7 → Option E) → α1 → α2 → α3 → α4 → α5 → α6 → α7 → Option E} {V : α1 → α2 → α3 → α4 → α5 → α6 → α7 → Prop} {G : E → Prop} (hb : ∀ k : α1 → α2 → α3 → α4 → α5 → α6 → α7 → Option E, (∀ x1 x2 x3 x4 x5 x6 x7 e, k x1 x2 x3 x4 x5 x6 x7 = some e → G e → V x1 x2 x3 x4 x5 x6 x7) → ∀ x1 x2 x3 x4 x5 x6 x7 e, b k x1 x2 x3 x4 x5 x6 x7 = some e → G e → V x1 x2 x3 x4 x5 x6 x7) : ∀ n x1 x2 x3 x4 x5 x6 x7 e, it7 b n x1 x2 x3 x4 x5 x6 x7 = some e → G e → V x1 x2 x3 x4 x5 x6 x7 := by
  intro n
  induction n with
  | zero => intro x1 x2 x3 x4 x5 x6 x7 e h; cases h
  | succ n ih => intro x1 x2 x3 x4 x5 x6 x7 e h g; exact hb (it7 b n) ih x1 x2 x3 x4 x5 x6 x7 e h g
theorem it7_rule {α1 α2 α3 α4 α5 α6 α7 E : Type} {b : (α1 → α2 → α3 → α4 → α5 → α6 → α7 → Option E) → α1 → α2 → α3 → α4 → α5 → α6 → α7 → Option E} (I : α1 → α2 → α3 → α4 → α5 → α6 → α7 → Prop) (μ : α1 → α2 → α3 → α4 → α5 → α6 → α7 → Nat) (P : E → Prop) (hb : ∀ (k : α1 → α2 → α3 → α4 → α5 → α6 → α7 → Option E) x1 x2 x3 x4 x5 x6 x7, I x1 x2 x3 x4 x5 x6 x7 → (∀ y1 y2 y3 y4 y5 y6 y7, I y1 y2 y3 y4 y5 y6 y7 → μ y1 y2 y3 y4 y5 y6 y7 < μ x1 x2 x3 x4 x5 x6 x7 → ∃ e, k y1 y2 y3 y4 y5 y6 y7 = some e ∧ P e) → ∃ e, b k x1 x2 x3 x4 x5 x6 x7 = some e ∧ P e) : ∀ n x1 x2 x3 x4 x5 x6 x7, I x1 x2 x3 x4 x5 x6 x7 → μ x1 x2 x3 x4 x5 x6 x7 < n → ∃ e, it7 b n x1 x2 x3 x4 x5 x6 x7 = some e ∧ P e := by
  intro n
  induction n with
  | zero => intro x1 x2 x3 x4 x5 x6 x7 _ h; exact absurd h (Nat.not_lt_zero _)
  | succ n ih => intro x1 x2 x3 x4 x5 x6 x7 hi h; exact hb (it7 b n) x1 x2 x3 x4 x5 x6 x7 hi (fun y1 y2 y3 y4 y5 y6 y7 hi2 h2 => ih y1 y2 y3 y4 y5 y6 y7 hi2 (by omega))
def it8 {α1 α2 α3 α4 α5 α6 α7 α8 E : Type} (b : (α1 → α2 → α3 → α4 → α5 → α6 → α7 → α8 → Option E) → α1 → α2 → α3 → α4 → α5 → α6 → α7 → α8 → Option E) : Nat → α1 → α2 → α3 → α4 → α5 → α6 → α7 → α8 → Option E
  | 0 => fun _ _ _ _ _ _ _ _ => none
  | n + 1 => b (it8 b n)
theorem it8_V {α1 α2 α3 α4 α5 α6 α7 α8 E : Type} {b : (α1 → α2 → α3 → α4 → α5 → α6 → α7 → α8 → Option E) → α1 → α2 → α3 → α4 → α5 → α6 → α7 → α8 → Option E} {V : α1 → α2 → α3 → α4 → α5 → α6 → α7 → α8 → Prop} {G : E → Prop} (hb : ∀ k : α1 → α2 → α3 → α4 → α5 → α6 → α7 → α8 → Option E, (∀ x1 x2 x3 x4 x5 x6 x7 x8 e, k x1 x2 x3 x4 x5 x6 x7 x8 = some e → G e → V x1 x2 x3 x4 x5 x6 x7 x8) → ∀ x1 x2 x3 x4 x5 x6 x7 x8 e, b k x1 x2 x3 x4 x5 x6 x7 x8 = some e → G e → V x1 x2 x3 x4 x5 x6 x7 x8) : ∀ n x1 x2 x3 x4 x5 x6 x7 x8 e, it8 b n x1 x2 x3 x4 x5 x6 x7 x8 = some e → G e → V x1 x2 x3 x4 x5 x6 x7 x8 := by
  intro n
  induction n with
  | zero => intro x1 x2 x3 x4 x5 x6 x7 x8 e h; cases h
  | succ n ih => intro x1 x2 x3 x4 x5 x6 x7 x8 e h g; exact hb (it8 b n) ih x1 x2 x3 x4 x5 x6 x7 x8 e h g
theorem it8_rule {α1 α2 α3 α4 α5 α6 α7 α8 E : Type} {b : (α1 → α2 → α3 → α4 → α5 → α6 → α7 → α8 → Option E) → α1 → α2 → α3 → α4 → α5 → α6 → α7 → α8 → Option E} (I : α1 → α2 → α3 → α4 → α5 → α6 → α7 → α8 → Prop) (μ : α1 → α2 → α3 → α4 → α5 → α6 → α7 → α8 → Nat) (P : E → Prop) (hb : ∀ (k : α1 → α2 → α3 → α4 → α5 → α6 → α7 → α8 → Option E) x1 x2 x3 x4 x5 x6 x7 x8, I x1 x2 x3 x4 x5 x6 x7 x8 → (∀ y1 y2 y3 y4 y5 y6 y7 y8, I y1 y2 y3 y4 y5 y6 y7 y8 → μ y1 y2 y3 y4 y5 y6 y7 y8 < μ x1 x2 x3 x4 x5 x6 x7 x8 → ∃ e, k y1 y2 y3 y4 y5 y6 y7 y8 = some e ∧ P e) → ∃ e, b k x1 x2 x3 x4 x5 x6 x7 x8 = some e ∧ P e) : ∀ n x1 x2 x3 x4 x5 x6 x7 x8, I x1 x2 x3 x4 x5 x6 x7 x8 → μ x1 x2 x3 x4 x5 x6 x7 x8 < n → ∃ e, it8 b n x1 x2 x3 x4 x5 x6 x7 x8 = some e ∧ P e := by
  intro n
  induction n with
  | zero => intro x1 x2 x3 x4 x5 x6 x7 x8 _ h; exact absurd h (Nat.not_lt_zero _)
  | succ n ih => intro x1 x2 x3 x4 x5 x6 x7 x8 hi h; exact hb (it8 b n) x1 x2 x3 x4 x5 x6 x7 x8 hi (fun y1 y2 y3 y4 y5 y6 y7 y8 hi2 h2 => ih y1 y2 y3 y4 y5 y6 y7 y8 hi2 (by omega))
/-! the heap that holds it -/
def uFT (c k : Nat) : Nat := (([[2, 2, 2, 2, 2, 2, 2, 0, 0, 1, 0], [2, 2], [2, 2, 2, 2], [2, 2, 0, 0], [0, 0, 2, 2], [0, 0, 0, 1], [0, 0, 0, 0, 0, 0, 0, 1], [2, 0], [2, 0], [2, 0, 0, 0, 0, 0, 0, 0, 0], [2, 2, 0, 0, 0], [2, 2, 2, 2, 2, 2, 2, 2, 2, 0, 0, 1], [0, 2, 0, 2, 0, 0, 0, 0, 2, 2, 2, 2, 2, 2, 2, 0, 0, 2, 2, 0, 2, 2, 2, 2, 2, 0, 2, 0, 0, 0, 0, 0, 2]] : List (List Nat)).getD c []).getD k 0
def uVal (bs : Nat) (u : UH) (c k a : Nat) : Value := match uFT c k with
  | 0 => .int (uI u c k a)
  | 1 => .long (uJ u c k a)
  | _ => va_rf ((uR u c k a).map (fun q => bs + q))
abbrev UD : Type := va_G × (Nat → ClassId)
def uCel (D : UD) (bs : Nat) (u : UH) (a : Nat) : Cell := if uKd u a = 21 then arrV (D.2 21) (uLn u a) (fun j => .long (uAJ u a j)) else if 24 ≤ uKd u a then arrV (D.2 (uKd u a)) (uLn u a) (fun j => va_rf ((uAR u a j).map (fun q => bs + q))) else arrV (D.2 (uKd u a)) (uLn u a) (fun j => .int (uAI u a j))
def uObj (D : UD) (bs : Nat) (u : UH) (c a : Nat) (H : Heap) : Prop := ∃ r : vw_C, vwCl[c]? = some r ∧ t_OB (bs + a) (D.1.1 c) r.2.2 (D.1.2 c) H (fun k => uVal bs u c k a)
def uAt (D : UD) (bs : Nat) (u : UH) (a : Nat) (H : Heap) : Prop := if uKd u a < 20 then uObj D bs u (uKd u a - 1) a H else H[bs + a]? = some (uCel D bs u a)
def uHold (D : UD) (bs : Nat) (u : UH) (H : Heap) : Prop := bs + uSz u = H.size ∧ ∀ a, uKd u a ≠ 0 → uAt D bs u a H
theorem uAt.lt {D : UD} {bs : Nat} {u : UH} {a : Nat} {H : Heap} (h : uAt D bs u a H) : bs + a < H.size := by
  unfold uAt at h
  split at h
  · obtain ⟨r, -, cell, h2, -⟩ := h
    exact (Array.getElem?_eq_some_iff.mp h2).1
  · exact (Array.getElem?_eq_some_iff.mp h).1
theorem uHold.obj {D : UD} {bs : Nat} {u : UH} {a c : Nat} {H : Heap} (h : uHold D bs u H) (hk : uKd u a = c + 1) (hc : c < 19) : uObj D bs u c a H := by
  have h1 := h.2 a (by omega)
  unfold uAt at h1
  rw [if_pos (by omega), hk] at h1
  exact h1
theorem uHold.arr {D : UD} {bs : Nat} {u : UH} {a : Nat} {H : Heap} (h : uHold D bs u H) (hk : 20 ≤ uKd u a) : H[bs + a]? = some (uCel D bs u a) := by
  have h1 := h.2 a (by omega)
  unfold uAt at h1
  rw [if_neg (by omega)] at h1
  exact h1
/-- at one address two states are alike -/
def uSame (u v : UH) (a : Nat) : Prop := uKd v a = uKd u a ∧ uLn v a = uLn u a ∧ (∀ c k, uI v c k a = uI u c k a) ∧ (∀ c k, uJ v c k a = uJ u c k a) ∧ (∀ c k, uR v c k a = uR u c k a) ∧ uAI v a = uAI u a ∧ uAJ v a = uAJ u a ∧ uAR v a = uAR u a
theorem uAt.same {D : UD} {bs : Nat} {u v : UH} {a : Nat} {H H1 : Heap} (h : uAt D bs u a H) (hs : uSame u v a) (hq : H1[bs + a]? = H[bs + a]?) : uAt D bs v a H1 := by
  obtain ⟨h1, h2, h3, h4, h5, h6, h7, h8⟩ := hs
  unfold uAt at h ⊢
  rw [h1]
  split at h
  · rename_i hlt
    rw [if_pos hlt]
    obtain ⟨r, q1, q2⟩ := h
    refine ⟨r, q1, (q2.kept hq).to (fun k _ => ?_)⟩
    simp only [uVal, h3, h4, h5]
  · rename_i hlt
    rw [if_neg hlt, hq, h]
    simp only [uCel, h1, h2, h6, h7, h8]
theorem uHold.upd {D : UD} {bs : Nat} {u v : UH} {a : Nat} {H H1 : Heap} (h : uHold D bs u H) (hz : uSz v = uSz u) (ho : ∀ b, b ≠ a → uSame u v b) (z : H1.size = H.size) (oq : ∀ q, q ≠ bs + a → H1[q]? = H[q]?) (hv : uKd v a ≠ 0 → uAt D bs v a H1) : uHold D bs v H1 := by
  refine ⟨by rw [hz, z]; exact h.1, fun b hb => ?_⟩
  by_cases hba : b = a
  · subst hba; exact hv hb
  · have hs := ho b hba
    exact (h.2 b (by rw [← hs.1]; exact hb)).same hs (oq _ (by omega))
theorem uHold.push {D : UD} {bs : Nat} {u v : UH} {H H1 : Heap} (h : uHold D bs u H) (hz : uSz v = uSz u + 1) (ho : ∀ b, b ≠ uSz u → uSame u v b) (z : H1.size = H.size + 1) (oq : ∀ q, q < H.size → H1[q]? = H[q]?) (hv : uAt D bs v (uSz u) H1) : uHold D bs v H1 := by
  refine ⟨by rw [hz, z, ← h.1]; omega, fun b hb => ?_⟩
  by_cases hba : b = uSz u
  · subst hba; exact hv
  · have hs := ho b hba
    have h1 := h.2 b (by rw [← hs.1]; exact hb)
    exact h1.same hs (oq _ h1.lt)
/-- what a method may change: the cells of its state, and new ones -/
def uA (bs : Nat) (u : UH) : Nat → Prop := fun q => (∃ a, uKd u a ≠ 0 ∧ q = bs + a) ∨ bs + uSz u ≤ q
theorem uA.base {bs : Nat} {u : UH} {q : Nat} (h : uA bs u q) : bs ≤ q := by
  rcases h with ⟨a, -, h⟩ | h <;> omega
def uHX (D : UD) (bs : Nat) (u0 : UH) (s : State) (u : UH) (H : Heap) (locs : List Loc) : Prop := uHold D bs u H ∧ va_S (uA bs u0) s.heap H locs ∧ (∀ a, uKd u a ≠ 0 → uA bs u0 (bs + a)) ∧ s.heap.size = bs + uSz u0
theorem uHX.sub {D : UD} {bs : Nat} {u0 u : UH} {s : State} {H : Heap} {locs : List Loc} (h : uHX D bs u0 s u H locs) : ∀ q, uA bs u q → uA bs u0 q := by
  obtain ⟨h1, h2, h3, h4⟩ := h
  intro q hq
  rcases hq with ⟨a, ha, rfl⟩ | hq
  · exact h3 a ha
  · refine Or.inr ?_
    have := h2.1
    have := h1.1
    omega
theorem uHX.upd {D : UD} {bs : Nat} {u0 u v : UH} {s : State} {a j : Nat} {H H1 : Heap} {locs : List Loc} (h : uHX D bs u0 s u H locs) (ha : uKd u a ≠ 0) (hk : uKd v = uKd u) (hz : uSz v = uSz u) (ho : ∀ b, b ≠ a → uSame u v b) (z : H1.size = H.size) (oq : ∀ q, q ≠ bs + a → H1[q]? = H[q]?) (hv : uAt D bs v a H1) : uHX D bs u0 s v H1 (locs ++ [⟨bs + a, j⟩]) :=
  ⟨h.1.upd hz ho z oq (fun _ => hv), h.2.1.put z oq (h.2.2.1 a ha), by rw [hk]; exact h.2.2.1, h.2.2.2⟩
theorem uHX.push {D : UD} {bs : Nat} {u0 u v : UH} {s : State} {H H1 : Heap} {locs : List Loc} (h : uHX D bs u0 s u H locs) (hz : uSz v = uSz u + 1) (ho : ∀ b, b ≠ uSz u → uSame u v b) (z : H1.size = H.size + 1) (oq : ∀ q, q < H.size → H1[q]? = H[q]?) (hv : uAt D bs v (uSz u) H1) : uHX D bs u0 s v H1 locs := by
  obtain ⟨h1, h2, h3, h4⟩ := h
  have e1 := h1.1
  have e2 := h2.1
  refine ⟨h1.push hz ho z oq hv, ⟨by omega, fun q g1 g2 => (oq q (by omega)).trans (h2.2.1 q g1 g2), h2.2.2⟩, fun b hb => ?_, h4⟩
  by_cases hba : b = uSz u
  · subst hba; exact Or.inr (by omega)
  · exact h3 b (by rw [← (ho b hba).1]; exact hb)
def uTys (D : UD) : List (ClassId × FieldType) := [(D.2 20, .int), (D.2 21, .long), (D.2 22, .char), (D.2 23, .boolean), (D.2 24, .object RX5), (D.2 25, .object RX6), (D.2 26, .object RX7)]
def uST (bs tw : Nat) (U : State) (H : Heap) : Prop := va_Z RX11 "WITH_BIT" "[J" (.ref tw) (fun q => bs ≤ q) U H ∧ va_T .long tw 5 (fun j => .long (uWB j)) (fun q => bs ≤ q) U H
theorem uST.moved {bs tw : Nat} {u U : State} {H : Heap} (hvm : u.vm.Alike U.vm) (h : uST bs tw u H) : uST bs tw U H := ⟨h.1.moved hvm, h.2.moved hvm⟩
theorem uST.kept {bs tw : Nat} {U : State} {H H1 : Heap} (h : uST bs tw U H) (hq : ∀ a : Nat, a < H.size → a < bs → H1[a]? = H[a]?) : uST bs tw U H1 := ⟨h.1.kept (fun a h1 h2 => hq a h1 (Nat.not_le.mp h2)), h.2.kept (fun a h1 h2 => hq a h1 (Nat.not_le.mp h2))⟩
/-- the words of the tables that go from call to call by rows of their own -/
def uEx (U : State) : Prop := ∀ w ∈ lw_n, w.before #[] U = true
theorem uEx.warm {s U : State} (hW : s.WarmedH U.vm) (h : uEx s) : uEx U := by
  intro w hw
  have h0 := h w hw
  have h1 := (List.mem_filter.mp hw).2
  cases w with
  | methodLinkNest a i x hh => exact va_Nw.warmM hW h0
  | fieldLinkNest a i b n d hh => exact va_Nw.warmF hW h0
  | arrayOver ty =>
    cases ty with
    | object C => exact va_AO.moved hW.alike h0
    | _ => cases h1
  | _ => cases h1
theorem uEx.same {u U : State} (e : u.vm = U.vm) (h : uEx u) : uEx U := by
  intro w hw
  have h0 := h w hw
  have h1 := (List.mem_filter.mp hw).2
  cases w with
  | methodLinkNest a i x hh => exact va_Nw.same rfl e h0
  | fieldLinkNest a i b n d hh => exact va_Nw.same rfl e h0
  | arrayOver ty =>
    cases ty with
    | object C => exact va_AO.moved (by rw [e]; exact Vm.Alike.refl U.vm) h0
    | _ => cases h1
  | _ => cases h1
/-- a method's start -/
def uIn (D : UD) (bs : Nat) (u : UH) (U : State) : Prop := uHold D bs u U.heap ∧ va_K D.1 vwCl (uTys D) U ∧ uEx U ∧ ∃ tw, uST bs tw U U.heap
/-- a method's end -/
def uOut (D : UD) (bs : Nat) (u v : UH) (U : State) : Prop := uHold D bs v U.heap ∧ ∀ a, uKd v a ≠ 0 → uA bs u (bs + a)
abbrev UX : Type := Program × Launch × Env × State × MethodId × Array Value × List Frame × Method × Code
def VV (X : UX) (D : UD) (bs : Nat) (u0 : UH) (R : Room) (nL cells slots : Nat) (Q : State → Prop) (u : UH) (pc : Nat) (L : List (Nat × Value)) (st : List Value) : Prop :=
  ∀ (H : Heap) (locs : List Loc) (ls : Array Slot), uHX D bs u0 X.2.2.2.1 u H locs → lv_has ls nL L → W X.1 X.2.1 X.2.2.1 R X.2.2.2.1 X.2.2.2.2.1 X.2.2.2.2.2.1 X.2.2.2.2.2.2.1 X.2.2.2.2.2.2.2.1 X.2.2.2.2.2.2.2.2 H locs cells slots Q (F0 X.2.2.2.2.1 pc ls st)
def uCx (X : UX) (D : UD) (bs tw : Nat) (cc : ByteArray) (nL : Nat) (own : String) (ret : Option FieldType) : Prop :=
  X.1.tables.exec = Jvm.exec ∧ X.2.2.2.2.2.2.2.2.code = cc ∧ X.2.2.2.2.2.2.2.2.maxLocals = nL ∧ X.2.2.2.1.vm.findClass own = some X.2.2.2.2.1.cls ∧ (∀ w ∈ lw_g, w.before X.2.2.2.2.2.1 X.2.2.2.1 = true) ∧ X.2.2.2.2.2.2.2.1.sig.returnType = ret ∧ X.2.2.2.2.2.2.2.1.locks = false ∧ va_K D.1 vwCl (uTys D) X.2.2.2.1 ∧ uST bs tw X.2.2.2.1 X.2.2.2.1.heap ∧ uEx X.2.2.2.1
/-- a method's words: its own code, and the tables -/
def wz (y : MethodName) (cc : ByteArray) (n : Nat) (ret : Option FieldType) : List Cond := .code y cc n ret :: lw_g
