def oe {α β γ : Type} (x : Option (α ⊕ β)) (f : α → Option γ) (g : β → Option γ) : Option γ := match x with
  | none => none
  | some q => Sum.elim f g q
theorem oe_some {α β γ : Type} {x : Option (α ⊕ β)} {f : α → Option γ} {g : β → Option γ} {r : γ} (h : oe x f g = some r) : ∃ q, x = some q ∧ Sum.elim f g q = some r := by
  cases x with
  | none => cases h
  | some q => exact ⟨q, rfl, h⟩
theorem it1_O {α1 F : Type} {E : Type} {f : E → Option F} {b : (α1 → Option E) → α1 → Option E} {V : α1 → Prop} {n : Nat} {x1 : α1} {r : F} (h : ob (it1 b n x1) f = some r) (hb : ∀ k : α1 → Option E, (∀ x1 e, k x1 = some e → f e = some r → V x1) → ∀ x1 e, b k x1 = some e → f e = some r → V x1) : V x1 := by
  obtain ⟨e, h1, h2⟩ := ob_some h
  exact it1_V (G := fun e => f e = some r) hb n x1 e h1 h2
theorem it1_S {α1 F : Type}  {F1 F2 : Type} {f : F1 → Option F} {g : F2 → Option F} {b : (α1 → Option (F1 ⊕ F2)) → α1 → Option (F1 ⊕ F2)} {V : α1 → Prop} {n : Nat} {x1 : α1} {r : F} (h : oe (it1 b n x1) f g = some r) (hb : ∀ k : α1 → Option (F1 ⊕ F2), (∀ x1 e, k x1 = some e → Sum.elim f g e = some r → V x1) → ∀ x1 e, b k x1 = some e → Sum.elim f g e = some r → V x1) : V x1 := by
  obtain ⟨e, h1, h2⟩ := oe_some h
  exact it1_V (G := fun e => Sum.elim f g e = some r) hb n x1 e h1 h2
theorem it2_O {α1 α2 F : Type} {E : Type} {f : E → Option F} {b : (α1 → α2 → Option E) → α1 → α2 → Option E} {V : α1 → α2 → Prop} {n : Nat} {x1 : α1} {x2 : α2} {r : F} (h : ob (it2 b n x1 x2) f = some r) (hb : ∀ k : α1 → α2 → Option E, (∀ x1 x2 e, k x1 x2 = some e → f e = some r → V x1 x2) → ∀ x1 x2 e, b k x1 x2 = some e → f e = some r → V x1 x2) : V x1 x2 := by
  obtain ⟨e, h1, h2⟩ := ob_some h
  exact it2_V (G := fun e => f e = some r) hb n x1 x2 e h1 h2
theorem it2_S {α1 α2 F : Type}  {F1 F2 : Type} {f : F1 → Option F} {g : F2 → Option F} {b : (α1 → α2 → Option (F1 ⊕ F2)) → α1 → α2 → Option (F1 ⊕ F2)} {V : α1 → α2 → Prop} {n : Nat} {x1 : α1} {x2 : α2} {r : F} (h : oe (it2 b n x1 x2) f g = some r) (hb : ∀ k : α1 → α2 → Option (F1 ⊕ F2), (∀ x1 x2 e, k x1 x2 = some e → Sum.elim f g e = some r → V x1 x2) → ∀ x1 x2 e, b k x1 x2 = some e → Sum.elim f g e = some r → V x1 x2) : V x1 x2 := by
  obtain ⟨e, h1, h2⟩ := oe_some h
  exact it2_V (G := fun e => Sum.elim f g e = some r) hb n x1 x2 e h1 h2
theorem it3_O {α1 α2 α3 F : Type} {E : Type} {f : E → Option F} {b : (α1 → α2 → α3 → Option E) → α1 → α2 → α3 → Option E} {V : α1 → α2 → α3 → Prop} {n : Nat} {x1 : α1} {x2 : α2} {x3 : α3} {r : F} (h : ob (it3 b n x1 x2 x3) f = some r) (hb : ∀ k : α1 → α2 → α3 → Option E, (∀ x1 x2 x3 e, k x1 x2 x3 = some e → f e = some r → V x1 x2 x3) → ∀ x1 x2 x3 e, b k x1 x2 x3 = some e → f e = some r → V x1 x2 x3) : V x1 x2 x3 := by
  obtain ⟨e, h1, h2⟩ := ob_some h
  exact it3_V (G := fun e => f e = some r) hb n x1 x2 x3 e h1 h2
theorem it3_S {α1 α2 α3 F : Type}  {F1 F2 : Type} {f : F1 → Option F} {g : F2 → Option F} {b : (α1 → α2 → α3 → Option (F1 ⊕ F2)) → α1 → α2 → α3 → Option (F1 ⊕ F2)} {V : α1 → α2 → α3 → Prop} {n : Nat} {x1 : α1} {x2 : α2} {x3 : α3} {r : F} (h : oe (it3 b n x1 x2 x3) f g = some r) (hb : ∀ k : α1 → α2 → α3 → Option (F1 ⊕ F2), (∀ x1 x2 x3 e, k x1 x2 x3 = some e → Sum.elim f g e = some r → V x1 x2 x3) → ∀ x1 x2 x3 e, b k x1 x2 x3 = some e → Sum.elim f g e = some r → V x1 x2 x3) : V x1 x2 x3 := by
  obtain ⟨e, h1, h2⟩ := oe_some h
  exact it3_V (G := fun e => Sum.elim f g e = some r) hb n x1 x2 x3 e h1 h2
theorem it4_O {α1 α2 α3 α4 F : Type} {E : Type} {f : E → Option F} {b : (α1 → α2 → α3 → α4 → Option E) → α1 → α2 → α3 → α4 → Option E} {V : α1 → α2 → α3 → α4 → Prop} {n : Nat} {x1 : α1} {x2 : α2} {x3 : α3} {x4 : α4} {r : F} (h : ob (it4 b n x1 x2 x3 x4) f = some r) (hb : ∀ k : α1 → α2 → α3 → α4 → Option E, (∀ x1 x2 x3 x4 e, k x1 x2 x3 x4 = some e → f e = some r → V x1 x2 x3 x4) → ∀ x1 x2 x3 x4 e, b k x1 x2 x3 x4 = some e → f e = some r → V x1 x2 x3 x4) : V x1 x2 x3 x4 := by
  obtain ⟨e, h1, h2⟩ := ob_some h
  exact it4_V (G := fun e => f e = some r) hb n x1 x2 x3 x4 e h1 h2
theorem it4_S {α1 α2 α3 α4 F : Type}  {F1 F2 : Type} {f : F1 → Option F} {g : F2 → Option F} {b : (α1 → α2 → α3 → α4 → Option (F1 ⊕ F2)) → α1 → α2 → α3 → α4 → Option (F1 ⊕ F2)} {V : α1 → α2 → α3 → α4 → Prop} {n : Nat} {x1 : α1} {x2 : α2} {x3 : α3} {x4 : α4} {r : F} (h : oe (it4 b n x1 x2 x3 x4) f g = some r) (hb : ∀ k : α1 → α2 → α3 → α4 → Option (F1 ⊕ F2), (∀ x1 x2 x3 x4 e, k x1 x2 x3 x4 = some e → Sum.elim f g e = some r → V x1 x2 x3 x4) → ∀ x1 x2 x3 x4 e, b k x1 x2 x3 x4 = some e → Sum.elim f g e = some r → V x1 x2 x3 x4) : V x1 x2 x3 x4 := by
  obtain ⟨e, h1, h2⟩ := oe_some h
  exact it4_V (G := fun e => Sum.elim f g e = some r) hb n x1 x2 x3 x4 e h1 h2
theorem it5_O {α1 α2 α3 α4 α5 F : Type} {E : Type} {f : E → Option F} {b : (α1 → α2 → α3 → α4 → α5 → Option E) → α1 → α2 → α3 → α4 → α5 → Option E} {V : α1 → α2 → α3 → α4 → α5 → Prop} {n : Nat} {x1 : α1} {x2 : α2} {x3 : α3} {x4 : α4} {x5 : α5} {r : F} (h : ob (it5 b n x1 x2 x3 x4 x5) f = some r) (hb : ∀ k : α1 → α2 → α3 → α4 → α5 → Option E, (∀ x1 x2 x3 x4 x5 e, k x1 x2 x3 x4 x5 = some e → f e = some r → V x1 x2 x3 x4 x5) → ∀ x1 x2 x3 x4 x5 e, b k x1 x2 x3 x4 x5 = some e → f e = some r → V x1 x2 x3 x4 x5) : V x1 x2 x3 x4 x5 := by
  obtain ⟨e, h1, h2⟩ := ob_some h
  exact it5_V (G := fun e => f e = some r) hb n x1 x2 x3 x4 x5 e h1 h2
theorem it5_S {α1 α2 α3 α4 α5 F : Type}  {F1 F2 : Type} {f : F1 → Option F} {g : F2 → Option F} {b : (α1 → α2 → α3 → α4 → α5 → Option (F1 ⊕ F2)) → α1 → α2 → α3 → α4 → α5 → Option (F1 ⊕ F2)} {V : α1 → α2 → α3 → α4 → α5 → Prop} {n : Nat} {x1 : α1} {x2 : α2} {x3 : α3} {x4 : α4} {x5 : α5} {r : F} (h : oe (it5 b n x1 x2 x3 x4 x5) f g = some r) (hb : ∀ k : α1 → α2 → α3 → α4 → α5 → Option (F1 ⊕ F2), (∀ x1 x2 x3 x4 x5 e, k x1 x2 x3 x4 x5 = some e → Sum.elim f g e = some r → V x1 x2 x3 x4 x5) → ∀ x1 x2 x3 x4 x5 e, b k x1 x2 x3 x4 x5 = some e → Sum.elim f g e = some r → V x1 x2 x3 x4 x5) : V x1 x2 x3 x4 x5 := by
  obtain ⟨e, h1, h2⟩ := oe_some h
  exact it5_V (G := fun e => Sum.elim f g e = some r) hb n x1 x2 x3 x4 x5 e h1 h2
theorem it6_O {α1 α2 α3 α4 α5 α6 F : Type} {E : Type} {f : E → Option F} {b : (α1 → α2 → α3 → α4 → α5 → α6 → Option E) → α1 → α2 → α3 → α4 → α5 → α6 → Option E} {V : α1 → α2 → α3 → α4 → α5 → α6 → Prop} {n : Nat} {x1 : α1} {x2 : α2} {x3 : α3} {x4 : α4} {x5 : α5} {x6 : α6} {r : F} (h : ob (it6 b n x1 x2 x3 x4 x5 x6) f = some r) (hb : ∀ k : α1 → α2 → α3 → α4 → α5 → α6 → Option E, (∀ x1 x2 x3 x4 x5 x6 e, k x1 x2 x3 x4 x5 x6 = some e → f e = some r → V x1 x2 x3 x4 x5 x6) → ∀ x1 x2 x3 x4 x5 x6 e, b k x1 x2 x3 x4 x5 x6 = some e → f e = some r → V x1 x2 x3 x4 x5 x6) : V x1 x2 x3 x4 x5 x6 := by
  obtain ⟨e, h1, h2⟩ := ob_some h
  exact it6_V (G := fun e => f e = some r) hb n x1 x2 x3 x4 x5 x6 e h1 h2
theorem it6_S {α1 α2 α3 α4 α5 α6 F : Type}  {F1 F2 : Type} {f : F1 → Option F} {g : F2 → Option F} {b : (α1 → α2 → α3 → α4 → α5 → α6 → Option (F1 ⊕ F2)) → α1 → α2 → α3 → α4 → α5 → α6 → Option (F1 ⊕ F2)} {V : α1 → α2 → α3 → α4 → α5 → α6 → Prop} {n : Nat} {x1 : α1} {x2 : α2} {x3 : α3} {x4 : α4} {x5 : α5} {x6 : α6} {r : F} (h : oe (it6 b n x1 x2 x3 x4 x5 x6) f g = some r) (hb : ∀ k : α1 → α2 → α3 → α4 → α5 → α6 → Option (F1 ⊕ F2), (∀ x1 x2 x3 x4 x5 x6 e, k x1 x2 x3 x4 x5 x6 = some e → Sum.elim f g e = some r → V x1 x2 x3 x4 x5 x6) → ∀ x1 x2 x3 x4 x5 x6 e, b k x1 x2 x3 x4 x5 x6 = some e → Sum.elim f g e = some r → V x1 x2 x3 x4 x5 x6) : V x1 x2 x3 x4 x5 x6 := by
  obtain ⟨e, h1, h2⟩ := oe_some h
  exact it6_V (G := fun e => Sum.elim f g e = some r) hb n x1 x2 x3 x4 x5 x6 e h1 h2
theorem it7_O {α1 α2 α3 α4 α5 α6 α7 F : Type} {E : Type} {f : E → Option F} {b : (α1 → α2 → α3 → α4 → α5 → α6 → α7 → Option E) → α1 → α2 → α3 → α4 → α5 → α6 → α7 → Option E} {V : α1 → α2 → α3 → α4 → α5 → α6 → α7 → Prop} {n : Nat} {x1 : α1} {x2 : α2} {x3 : α3} {x4 : α4} {x5 : α5} {x6 : α6} {x7 : α7} {r : F} (h : ob (it7 b n x1 x2 x3 x4 x5 x6 x7) f = some r) (hb : ∀ k : α1 → α2 → α3 → α4 → α5 → α6 → α7 → Option E, (∀ x1 x2 x3 x4 x5 x6 x7 e, k x1 x2 x3 x4 x5 x6 x7 = some e → f e = some r → V x1 x2 x3 x4 x5 x6 x7) → ∀ x1 x2 x3 x4 x5 x6 x7 e, b k x1 x2 x3 x4 x5 x6 x7 = some e → f e = some r → V x1 x2 x3 x4 x5 x6 x7) : V x1 x2 x3 x4 x5 x6 x7 := by
  obtain ⟨e, h1, h2⟩ := ob_some h
  exact it7_V (G := fun e => f e = some r) hb n x1 x2 x3 x4 x5 x6 x7 e h1 h2
theorem it7_S {α1 α2 α3 α4 α5 α6 α7 F : Type}  {F1 F2 : Type} {f : F1 → Option F} {g : F2 → Option F} {b : (α1 → α2 → α3 → α4 → α5 → α6 → α7 → Option (F1 ⊕ F2)) → α1 → α2 → α3 → α4 → α5 → α6 → α7 → Option (F1 ⊕ F2)} {V : α1 → α2 → α3 → α4 → α5 → α6 → α7 → Prop} {n : Nat} {x1 : α1} {x2 : α2} {x3 : α3} {x4 : α4} {x5 : α5} {x6 : α6} {x7 : α7} {r : F} (h : oe (it7 b n x1 x2 x3 x4 x5 x6 x7) f g = some r) (hb : ∀ k : α1 → α2 → α3 → α4 → α5 → α6 → α7 → Option (F1 ⊕ F2), (∀ x1 x2 x3 x4 x5 x6 x7 e, k x1 x2 x3 x4 x5 x6 x7 = some e → Sum.elim f g e = some r → V x1 x2 x3 x4 x5 x6 x7) → ∀ x1 x2 x3 x4 x5 x6 x7 e, b k x1 x2 x3 x4 x5 x6 x7 = some e → Sum.elim f g e = some r → V x1 x2 x3 x4 x5 x6 x7) : V x1 x2 x3 x4 x5 x6 x7 := by
  obtain ⟨e, h1, h2⟩ := oe_some h
  exact it7_V (G := fun e => Sum.elim f g e = some r) hb n x1 x2 x3 x4 x5 x6 x7 e h1 h2
theorem it8_O {α1 α2 α3 α4 α5 α6 α7 α8 F : Type} {E : Type} {f : E → Option F} {b : (α1 → α2 → α3 → α4 → α5 → α6 → α7 → α8 → Option E) → α1 → α2 → α3 → α4 → α5 → α6 → α7 → α8 → Option E} {V : α1 → α2 → α3 → α4 → α5 → α6 → α7 → α8 → Prop} {n : Nat} {x1 : α1} {x2 : α2} {x3 : α3} {x4 : α4} {x5 : α5} {x6 : α6} {x7 : α7} {x8 : α8} {r : F} (h : ob (it8 b n x1 x2 x3 x4 x5 x6 x7 x8) f = some r) (hb : ∀ k : α1 → α2 → α3 → α4 → α5 → α6 → α7 → α8 → Option E, (∀ x1 x2 x3 x4 x5 x6 x7 x8 e, k x1 x2 x3 x4 x5 x6 x7 x8 = some e → f e = some r → V x1 x2 x3 x4 x5 x6 x7 x8) → ∀ x1 x2 x3 x4 x5 x6 x7 x8 e, b k x1 x2 x3 x4 x5 x6 x7 x8 = some e → f e = some r → V x1 x2 x3 x4 x5 x6 x7 x8) : V x1 x2 x3 x4 x5 x6 x7 x8 := by
  obtain ⟨e, h1, h2⟩ := ob_some h
  exact it8_V (G := fun e => f e = some r) hb n x1 x2 x3 x4 x5 x6 x7 x8 e h1 h2
theorem it8_S {α1 α2 α3 α4 α5 α6 α7 α8 F : Type}  {F1 F2 : Type} {f : F1 → Option F} {g : F2 → Option F} {b : (α1 → α2 → α3 → α4 → α5 → α6 → α7 → α8 → Option (F1 ⊕ F2)) → α1 → α2 → α3 → α4 → α5 → α6 → α7 → α8 → Option (F1 ⊕ F2)} {V : α1 → α2 → α3 → α4 → α5 → α6 → α7 → α8 → Prop} {n : Nat} {x1 : α1} {x2 : α2} {x3 : α3} {x4 : α4} {x5 : α5} {x6 : α6} {x7 : α7} {x8 : α8} {r : F} (h : oe (it8 b n x1 x2 x3 x4 x5 x6 x7 x8) f g = some r) (hb : ∀ k : α1 → α2 → α3 → α4 → α5 → α6 → α7 → α8 → Option (F1 ⊕ F2), (∀ x1 x2 x3 x4 x5 x6 x7 x8 e, k x1 x2 x3 x4 x5 x6 x7 x8 = some e → Sum.elim f g e = some r → V x1 x2 x3 x4 x5 x6 x7 x8) → ∀ x1 x2 x3 x4 x5 x6 x7 x8 e, b k x1 x2 x3 x4 x5 x6 x7 x8 = some e → Sum.elim f g e = some r → V x1 x2 x3 x4 x5 x6 x7 x8) : V x1 x2 x3 x4 x5 x6 x7 x8 := by
  obtain ⟨e, h1, h2⟩ := oe_some h
  exact it8_V (G := fun e => Sum.elim f g e = some r) hb n x1 x2 x3 x4 x5 x6 x7 x8 e h1 h2
-- HeaderSpaceNetwork.cubeHeaders
def rmX11_cubeHeaders : Room := { frames := 0, cells := 0, slots := 0, locals := 0 }
def fX11_cubeHeaders_B7 (x0 : Int32) (x1 : Int32) (u0 : UH) (k : Int64 → Int32 → Option Int64) (x2 : Int64) (x4 : Int32)  : Option Int64 :=
if (5 : Int32) ≤ x4 then (
some x2) else
if (jsr x0 x4) &&& (1 : Int32) = (0 : Int32) then (
k x2 (x4 + (1 : Int32))) else
if (jsr x1 x4) &&& (1 : Int32) = (0 : Int32) then (
ob (rWB x4) fun y1 =>
lt (x2 &&& (y1 ^^^ (-1 : Int64))) fun y2 =>
k y2 (x4 + (1 : Int32))) else
ob (rWB x4) fun y3 =>
lt (x2 &&& y3) fun y4 =>
k y4 (x4 + (1 : Int32))
def fX11_cubeHeaders (x0 : Int32) (x1 : Int32) (u0 : UH) : Option Int64 :=
ob (it2 (fX11_cubeHeaders_B7 x0 x1 u0) FUEL (4294967295 : Int64) (0 : Int32)) fun q5 =>
some q5
-- HeaderSpaceNetwork$Rule.<init>
def rmX6_init : Room := { frames := 1, cells := 0, slots := 0, locals := 24 }
def fX6_init (a0 : Nat) (x1 : Int32) (x2 : Int32) (x3 : Int32) (x4 : Int32) (x5 : Int32) (x6 : Int32) (x7 : Int32) (u0 : UH) : Option UH :=
ob (wI u0 6 0 a0 x1) fun u1 =>
ob (wI u1 6 1 a0 x2) fun u2 =>
ob (wI u2 6 2 a0 (x3 &&& x2)) fun u3 =>
ob (wI u3 6 3 a0 x4) fun u4 =>
ob (wI u4 6 4 a0 x5) fun u5 =>
ob (wI u5 6 5 a0 (x6 &&& x5)) fun u6 =>
ob (wZ u6 6 6 a0 x7) fun u7 =>
ob (fX11_cubeHeaders x2 x3 u7) fun y8 =>
ob (wJ u7 6 7 a0 y8) fun u9 =>
some u9
-- HeaderSpaceNetwork$RuleList.<init>
def rmX7_init : Room := { frames := 1, cells := 1, slots := 6, locals := 21 }
def fX7_init_B15 (a0 : Nat) (a1 : Nat)  (k : Int32 → UH → Option UH) (x2 : Int32) (u : UH) : Option UH :=
if (6 : Int32) ≤ x2 then (
some u) else
ob (rR u 7 0 a0) fun b4 =>
ob (stR u 25 6 b4 x2 a1) fun u5 =>
k (x2 + (1 : Int32)) u5
def fX7_init (a0 : Nat) (a1 : Nat) (u0 : UH) : Option UH :=
nwA u0 25 6 fun b1 u2 =>
ob (wR u2 7 0 a0 b1) fun u3 =>
ob (it2 (fX7_init_B15 a0 a1 ) FUEL (0 : Int32) u3) fun q6 =>
some q6
-- java/util/Arrays.fill
def rmJ7_fill_53178 : Room := { frames := 0, cells := 0, slots := 0, locals := 0 }
def fJ7_fill_53178_B5 (a0 : Nat) (x1 : Int32) (x3 : Int32)  (k : Int32 → UH → Option UH) (x2 : Int32) (u : UH) : Option UH :=
if x3 ≤ x2 then (
some u) else
ob (stI u a0 x2 x1) fun u2 =>
k (x2 + (1 : Int32)) u2
def fJ7_fill_53178 (a0 : Nat) (x1 : Int32) (u0 : UH) : Option UH :=
ob (lnA u0 20 a0) fun y1 =>
ob (it2 (fJ7_fill_53178_B5 a0 x1 y1 ) FUEL (0 : Int32) u0) fun q3 =>
some q3
-- HeaderSpaceNetwork$Net.startAnew
def rmX4_startAnew : Room := { frames := 1, cells := 0, slots := 0, locals := 23 }
def fX4_startAnew_B20 (a0 : Nat)  (k : Int32 → UH → Option UH) (x2 : Int32) (u : UH) : Option UH :=
if (6 : Int32) ≤ x2 then (
some u) else
ob (rR u 4 3 a0) fun b5 =>
ob (ldR u 26 b5 x2) fun b6 =>
ob (wI u 7 1 b6 (0 : Int32)) fun u7 =>
k (x2 + (1 : Int32)) u7
def fX4_startAnew (a0 : Nat) (x1 : Int32) (u0 : UH) : Option UH :=
ob (wI u0 4 0 a0 x1) fun u1 =>
ob (wI u1 4 1 a0 (0 : Int32)) fun u2 =>
ob (rR u2 4 2 a0) fun b3 =>
ob (fJ7_fill_53178 b3 (-1 : Int32) u2) fun u4 =>
ob (it2 (fX4_startAnew_B20 a0 ) FUEL (0 : Int32) u4) fun q8 =>
some q8
-- HeaderSpaceNetwork$Net.<init>
def rmX4_init : Room := { frames := 2, cells := 15, slots := 86, locals := 51 }
def fX4_init (a0 : Nat) (u0 : UH) : Option UH :=
nwA u0 20 24 fun b1 u2 =>
ob (wR u2 4 2 a0 b1) fun u3 =>
nwA u3 26 6 fun b4 u5 =>
ob (wR u5 4 3 a0 b4) fun u6 =>
nwO u6 6 fun b7 u8 =>
ob (fX6_init b7 (0 : Int32) (0 : Int32) (0 : Int32) (0 : Int32) (0 : Int32) (0 : Int32) (0 : Int32) u8) fun u9 =>
ob (rR u9 4 3 a0) fun b10 =>
nwO u9 7 fun b11 u12 =>
ob (fX7_init b11 b7 u12) fun u13 =>
ob (stR u13 26 7 b10 (0 : Int32) b11) fun u14 =>
ob (rR u14 4 3 a0) fun b15 =>
nwO u14 7 fun b16 u17 =>
ob (fX7_init b16 b7 u17) fun u18 =>
ob (stR u18 26 7 b15 (1 : Int32) b16) fun u19 =>
ob (rR u19 4 3 a0) fun b20 =>
nwO u19 7 fun b21 u22 =>
ob (fX7_init b21 b7 u22) fun u23 =>
ob (stR u23 26 7 b20 (2 : Int32) b21) fun u24 =>
ob (rR u24 4 3 a0) fun b25 =>
nwO u24 7 fun b26 u27 =>
ob (fX7_init b26 b7 u27) fun u28 =>
ob (stR u28 26 7 b25 (3 : Int32) b26) fun u29 =>
ob (rR u29 4 3 a0) fun b30 =>
nwO u29 7 fun b31 u32 =>
ob (fX7_init b31 b7 u32) fun u33 =>
ob (stR u33 26 7 b30 (4 : Int32) b31) fun u34 =>
ob (rR u34 4 3 a0) fun b35 =>
nwO u34 7 fun b36 u37 =>
ob (fX7_init b36 b7 u37) fun u38 =>
ob (stR u38 26 7 b35 (5 : Int32) b36) fun u39 =>
ob (kd u39 4 a0 (fX4_startAnew a0 (4 : Int32) u39)) fun u40 =>
some u40
-- HeaderSpaceNetwork$History.<init>
def rmX3_init : Room := { frames := 2, cells := 27, slots := 128, locals := 51 }
def fX3_init (a0 : Nat) (u0 : UH) : Option UH :=
nwA u0 26 12 fun b1 u2 =>
ob (wR u2 3 0 a0 b1) fun u3 =>
nwA u3 20 12 fun b4 u5 =>
ob (wR u5 3 1 a0 b4) fun u6 =>
nwO u6 6 fun b7 u8 =>
ob (fX6_init b7 (0 : Int32) (0 : Int32) (0 : Int32) (0 : Int32) (0 : Int32) (0 : Int32) (0 : Int32) u8) fun u9 =>
ob (rR u9 3 0 a0) fun b10 =>
nwO u9 7 fun b11 u12 =>
ob (fX7_init b11 b7 u12) fun u13 =>
ob (stR u13 26 7 b10 (0 : Int32) b11) fun u14 =>
ob (rR u14 3 0 a0) fun b15 =>
nwO u14 7 fun b16 u17 =>
ob (fX7_init b16 b7 u17) fun u18 =>
ob (stR u18 26 7 b15 (1 : Int32) b16) fun u19 =>
ob (rR u19 3 0 a0) fun b20 =>
nwO u19 7 fun b21 u22 =>
ob (fX7_init b21 b7 u22) fun u23 =>
ob (stR u23 26 7 b20 (2 : Int32) b21) fun u24 =>
ob (rR u24 3 0 a0) fun b25 =>
nwO u24 7 fun b26 u27 =>
ob (fX7_init b26 b7 u27) fun u28 =>
ob (stR u28 26 7 b25 (3 : Int32) b26) fun u29 =>
ob (rR u29 3 0 a0) fun b30 =>
nwO u29 7 fun b31 u32 =>
ob (fX7_init b31 b7 u32) fun u33 =>
ob (stR u33 26 7 b30 (4 : Int32) b31) fun u34 =>
ob (rR u34 3 0 a0) fun b35 =>
nwO u34 7 fun b36 u37 =>
ob (fX7_init b36 b7 u37) fun u38 =>
ob (stR u38 26 7 b35 (5 : Int32) b36) fun u39 =>
ob (rR u39 3 0 a0) fun b40 =>
nwO u39 7 fun b41 u42 =>
ob (fX7_init b41 b7 u42) fun u43 =>
ob (stR u43 26 7 b40 (6 : Int32) b41) fun u44 =>
ob (rR u44 3 0 a0) fun b45 =>
nwO u44 7 fun b46 u47 =>
ob (fX7_init b46 b7 u47) fun u48 =>
ob (stR u48 26 7 b45 (7 : Int32) b46) fun u49 =>
ob (rR u49 3 0 a0) fun b50 =>
nwO u49 7 fun b51 u52 =>
ob (fX7_init b51 b7 u52) fun u53 =>
ob (stR u53 26 7 b50 (8 : Int32) b51) fun u54 =>
ob (rR u54 3 0 a0) fun b55 =>
nwO u54 7 fun b56 u57 =>
ob (fX7_init b56 b7 u57) fun u58 =>
ob (stR u58 26 7 b55 (9 : Int32) b56) fun u59 =>
ob (rR u59 3 0 a0) fun b60 =>
nwO u59 7 fun b61 u62 =>
ob (fX7_init b61 b7 u62) fun u63 =>
ob (stR u63 26 7 b60 (10 : Int32) b61) fun u64 =>
ob (rR u64 3 0 a0) fun b65 =>
nwO u64 7 fun b66 u67 =>
ob (fX7_init b66 b7 u67) fun u68 =>
ob (stR u68 26 7 b65 (11 : Int32) b66) fun u69 =>
some u69
-- HeaderSpaceNetwork$Flow.<init>
def rmX2_init : Room := { frames := 1, cells := 3, slots := 72, locals := 21 }
def fX2_init (a0 : Nat) (a1 : Nat) (u0 : UH) : Option UH :=
nwA u0 21 24 fun b1 u2 =>
ob (wR u2 2 1 a0 b1) fun u3 =>
nwA u3 21 24 fun b4 u5 =>
ob (wR u5 2 2 a0 b4) fun u6 =>
nwA u6 21 24 fun b7 u8 =>
ob (wR u8 2 3 a0 b7) fun u9 =>
ob (wR u9 2 0 a0 a1) fun u10 =>
some u10
-- HeaderSpaceNetwork$Fates.<init>
def rmX1_init : Room := { frames := 1, cells := 1, slots := 24, locals := 21 }
def fX1_init (a0 : Nat) (a1 : Nat) (u0 : UH) : Option UH :=
nwA u0 21 24 fun b1 u2 =>
ob (wR u2 1 1 a0 b1) fun u3 =>
ob (wR u3 1 0 a0 a1) fun u4 =>
some u4
-- HeaderSpaceNetwork$Walk.<init>
def rmX10_init : Room := { frames := 1, cells := 1, slots := 24, locals := 21 }
def fX10_init (a0 : Nat) (a1 : Nat) (u0 : UH) : Option UH :=
nwA u0 21 24 fun b1 u2 =>
ob (wR u2 10 1 a0 b1) fun u3 =>
ob (wR u3 10 0 a0 a1) fun u4 =>
some u4
-- HeaderSpaceNetwork$Cuts.<init>
def rmX0_init : Room := { frames := 1, cells := 6, slots := 2895, locals := 21 }
def fX0_init (a0 : Nat) (a1 : Nat) (u0 : UH) : Option UH :=
nwA u0 20 3 fun b1 u2 =>
ob (wR u2 0 1 a0 b1) fun u3 =>
nwA u3 21 36 fun b4 u5 =>
ob (wR u5 0 2 a0 b4) fun u6 =>
nwA u6 21 1296 fun b7 u8 =>
ob (wR u8 0 3 a0 b7) fun u9 =>
nwA u9 20 768 fun b10 u11 =>
ob (wR u11 0 4 a0 b10) fun u12 =>
nwA u12 21 768 fun b13 u14 =>
ob (wR u14 0 5 a0 b13) fun u15 =>
nwA u15 21 24 fun b16 u17 =>
ob (wR u17 0 6 a0 b16) fun u18 =>
ob (wR u18 0 0 a0 a1) fun u19 =>
some u19
-- HeaderSpaceNetwork$Text.<init>
def rmX9_init : Room := { frames := 1, cells := 1, slots := 40, locals := 21 }
def fX9_init (a0 : Nat) (u0 : UH) : Option UH :=
nwA u0 22 40 fun b1 u2 =>
ob (wR u2 9 0 a0 b1) fun u3 =>
some u3
-- HeaderSpaceNetwork$RuleWriter.<init>
def rmX8_init : Room := { frames := 1, cells := 1, slots := 40, locals := 21 }
def fX8_init (a0 : Nat) (u0 : UH) : Option UH :=
nwA u0 22 40 fun b1 u2 =>
ob (wR u2 8 0 a0 b1) fun u3 =>
some u3
-- HeaderSpaceNetwork$Policy.<init>
def rmX5_init : Room := { frames := 1, cells := 0, slots := 0, locals := 21 }
def fX5_init (a0 : Nat) (u0 : UH) : Option UH :=
some u0
-- HeaderSpaceNetwork$Net.allHeaders
def rmX4_allHeaders : Room := { frames := 0, cells := 0, slots := 0, locals := 0 }
def fX4_allHeaders (a0 : Nat) (u0 : UH) : Option Int64 :=
ob (rI u0 4 0 a0) fun y1 =>
some ((jlsl (1 : Int64) (jsl (1 : Int32) y1)) - (1 : Int64))
-- HeaderSpaceNetwork.<init>
def rmX11_init : Room := { frames := 3, cells := 72, slots := 3390, locals := 73 }
def fX11_init (a0 : Nat) (u0 : UH) : Option UH :=
nwO u0 4 fun b1 u2 =>
ob (fX4_init b1 u2) fun u3 =>
ob (wR u3 11 0 a0 b1) fun u4 =>
nwO u4 3 fun b5 u6 =>
ob (fX3_init b5 u6) fun u7 =>
ob (wR u7 11 1 a0 b5) fun u8 =>
nwO u8 2 fun b9 u10 =>
ob (rR u10 11 0 a0) fun b11 =>
ob (fX2_init b9 b11 u10) fun u12 =>
ob (wR u12 11 2 a0 b9) fun u13 =>
nwO u13 1 fun b14 u15 =>
ob (rR u15 11 0 a0) fun b16 =>
ob (fX1_init b14 b16 u15) fun u17 =>
ob (wR u17 11 3 a0 b14) fun u18 =>
nwO u18 10 fun b19 u20 =>
ob (rR u20 11 0 a0) fun b21 =>
ob (fX10_init b19 b21 u20) fun u22 =>
ob (wR u22 11 4 a0 b19) fun u23 =>
nwO u23 0 fun b24 u25 =>
ob (rR u25 11 0 a0) fun b26 =>
ob (fX0_init b24 b26 u25) fun u27 =>
ob (wR u27 11 5 a0 b24) fun u28 =>
nwO u28 9 fun b29 u30 =>
ob (fX9_init b29 u30) fun u31 =>
ob (wR u31 11 6 a0 b29) fun u32 =>
nwO u32 8 fun b33 u34 =>
ob (fX8_init b33 u34) fun u35 =>
ob (wR u35 11 7 a0 b33) fun u36 =>
nwA u36 24 8 fun b37 u38 =>
ob (wR u38 11 8 a0 b37) fun u39 =>
ob (rR u39 11 8 a0) fun b40 =>
nwO u39 5 fun b41 u42 =>
ob (fX5_init b41 u42) fun u43 =>
ob (stR u43 24 5 b40 (0 : Int32) b41) fun u44 =>
ob (rR u44 11 8 a0) fun b45 =>
nwO u44 5 fun b46 u47 =>
ob (fX5_init b46 u47) fun u48 =>
ob (stR u48 24 5 b45 (1 : Int32) b46) fun u49 =>
ob (rR u49 11 8 a0) fun b50 =>
nwO u49 5 fun b51 u52 =>
ob (fX5_init b51 u52) fun u53 =>
ob (stR u53 24 5 b50 (2 : Int32) b51) fun u54 =>
ob (rR u54 11 8 a0) fun b55 =>
nwO u54 5 fun b56 u57 =>
ob (fX5_init b56 u57) fun u58 =>
ob (stR u58 24 5 b55 (3 : Int32) b56) fun u59 =>
ob (rR u59 11 8 a0) fun b60 =>
nwO u59 5 fun b61 u62 =>
ob (fX5_init b61 u62) fun u63 =>
ob (stR u63 24 5 b60 (4 : Int32) b61) fun u64 =>
ob (rR u64 11 8 a0) fun b65 =>
nwO u64 5 fun b66 u67 =>
ob (fX5_init b66 u67) fun u68 =>
ob (stR u68 24 5 b65 (5 : Int32) b66) fun u69 =>
ob (rR u69 11 8 a0) fun b70 =>
nwO u69 5 fun b71 u72 =>
ob (fX5_init b71 u72) fun u73 =>
ob (stR u73 24 5 b70 (6 : Int32) b71) fun u74 =>
ob (rR u74 11 8 a0) fun b75 =>
nwO u74 5 fun b76 u77 =>
ob (fX5_init b76 u77) fun u78 =>
ob (stR u78 24 5 b75 (7 : Int32) b76) fun u79 =>
ob (rR u79 11 0 a0) fun b80 =>
ob (kd u79 4 b80 (fX4_allHeaders b80 u79)) fun y81 =>
ob (wJ u79 11 11 a0 y81) fun u82 =>
some u82
-- HeaderSpaceNetwork.reset
def rmX11_reset : Room := { frames := 2, cells := 0, slots := 0, locals := 45 }
def fX11_reset (a0 : Nat) (x1 : Int32) (u0 : UH) : Option (Int32 × UH) :=
if x1 < (1 : Int32) then (
some ((-3 : Int32), u0)) else
if x1 ≤ (5 : Int32) then (
ob (rR u0 11 0 a0) fun b1 =>
ob (rI u0 4 0 b1) fun y2 =>
ob (rR u0 11 0 a0) fun b3 =>
ob (kd u0 4 b3 (fX4_startAnew b3 x1 u0)) fun u4 =>
ob (rR u4 11 1 a0) fun b5 =>
ob (wI u4 3 2 b5 (0 : Int32)) fun u6 =>
ob (wI u6 11 9 a0 (0 : Int32)) fun u7 =>
ob (wI u7 11 10 a0 (0 : Int32)) fun u8 =>
ob (rR u8 11 0 a0) fun b9 =>
ob (kd u8 4 b9 (fX4_allHeaders b9 u8)) fun y10 =>
ob (wJ u8 11 11 a0 y10) fun u11 =>
some (y2, u11)) else
some ((-3 : Int32), u0)
-- HeaderSpaceNetwork.isBox
def rmX11_isBox : Room := { frames := 0, cells := 0, slots := 0, locals := 0 }
def fX11_isBox (x0 : Int32) (u0 : UH) : Option Int32 :=
if x0 < (0 : Int32) then (
some (0 : Int32)) else
if (6 : Int32) ≤ x0 then (
some (0 : Int32)) else
some (1 : Int32)
-- HeaderSpaceNetwork.isPlace
def rmX11_isPlace : Room := { frames := 1, cells := 0, slots := 0, locals := 20 }
def fX11_isPlace (x0 : Int32) (x1 : Int32) (u0 : UH) : Option Int32 :=
ob (fX11_isBox x0 u0) fun y1 =>
if y1 = (0 : Int32) then (
some (0 : Int32)) else
if x1 < (0 : Int32) then (
some (0 : Int32)) else
if (4 : Int32) ≤ x1 then (
some (0 : Int32)) else
some (1 : Int32)
-- HeaderSpaceNetwork.placeOf
def rmX11_placeOf : Room := { frames := 0, cells := 0, slots := 0, locals := 0 }
def fX11_placeOf (x0 : Int32) (x1 : Int32) (u0 : UH) : Option Int32 :=
some ((x0 * (4 : Int32)) + x1)
-- HeaderSpaceNetwork.connect
def rmX11_connect : Room := { frames := 2, cells := 0, slots := 0, locals := 41 }
def fX11_connect (a0 : Nat) (x1 : Int32) (x2 : Int32) (x3 : Int32) (x4 : Int32) (u0 : UH) : Option (Int32 × UH) :=
ob (fX11_isPlace x1 x2 u0) fun y1 =>
if y1 = (0 : Int32) then (
some ((-1 : Int32), u0)) else
ob (fX11_isPlace x3 x4 u0) fun y2 =>
if y2 = (0 : Int32) then (
some ((-1 : Int32), u0)) else
ob (fX11_placeOf x1 x2 u0) fun y3 =>
ob (fX11_placeOf x3 x4 u0) fun y4 =>
if y3 = y4 then (
some ((-4 : Int32), u0)) else
ob (rR u0 11 0 a0) fun b5 =>
ob (rR u0 4 2 b5) fun b6 =>
ob (ldI u0 20 b6 y3) fun y7 =>
if y7 = (-1 : Int32) then (
ob (rR u0 11 0 a0) fun b8 =>
ob (rR u0 4 2 b8) fun b9 =>
ob (ldI u0 20 b9 y4) fun y10 =>
if y10 = (-1 : Int32) then (
ob (rR u0 11 0 a0) fun b11 =>
ob (rR u0 4 2 b11) fun b12 =>
ob (stI u0 b12 y3 y4) fun u13 =>
ob (rR u13 11 0 a0) fun b14 =>
ob (rR u13 4 2 b14) fun b15 =>
ob (stI u13 b15 y4 y3) fun u16 =>
ob (rR u16 11 0 a0) fun b17 =>
ob (rI u16 4 1 b17) fun y18 =>
ob (wI u16 4 1 b17 (y18 + (1 : Int32))) fun u19 =>
ob (rR u19 11 0 a0) fun b20 =>
ob (rI u19 4 1 b20) fun y21 =>
some (y21, u19)) else
some ((-4 : Int32), u0)) else
some ((-4 : Int32), u0)
-- HeaderSpaceNetwork.disconnect
def rmX11_disconnect : Room := { frames := 2, cells := 0, slots := 0, locals := 41 }
def fX11_disconnect (a0 : Nat) (x1 : Int32) (x2 : Int32) (u0 : UH) : Option (Int32 × UH) :=
ob (fX11_isPlace x1 x2 u0) fun y1 =>
if y1 = (0 : Int32) then (
some ((-1 : Int32), u0)) else
ob (fX11_placeOf x1 x2 u0) fun y2 =>
ob (rR u0 11 0 a0) fun b3 =>
ob (rR u0 4 2 b3) fun b4 =>
ob (ldI u0 20 b4 y2) fun y5 =>
if y5 = (-1 : Int32) then (
some ((-6 : Int32), u0)) else
ob (rR u0 11 0 a0) fun b6 =>
ob (rR u0 4 2 b6) fun b7 =>
ob (stI u0 b7 y2 (-1 : Int32)) fun u8 =>
ob (rR u8 11 0 a0) fun b9 =>
ob (rR u8 4 2 b9) fun b10 =>
ob (stI u8 b10 y5 (-1 : Int32)) fun u11 =>
ob (rR u11 11 0 a0) fun b12 =>
ob (rI u11 4 1 b12) fun y13 =>
ob (wI u11 4 1 b12 (y13 - (1 : Int32))) fun u14 =>
ob (rR u14 11 0 a0) fun b15 =>
ob (rI u14 4 1 b15) fun y16 =>
some (y16, u14)
-- HeaderSpaceNetwork.other
def rmX11_other : Room := { frames := 2, cells := 0, slots := 0, locals := 41 }
def fX11_other (a0 : Nat) (x1 : Int32) (x2 : Int32) (u0 : UH) : Option Int32 :=
ob (fX11_isPlace x1 x2 u0) fun y1 =>
if y1 = (0 : Int32) then (
some (-1 : Int32)) else
ob (rR u0 11 0 a0) fun b2 =>
ob (rR u0 4 2 b2) fun b3 =>
ob (fX11_placeOf x1 x2 u0) fun y4 =>
ob (ldI u0 20 b3 y4) fun y5 =>
if y5 = (-1 : Int32) then (
some (-6 : Int32)) else
some (((10 : Int32) * (y5 / (4 : Int32))) + (jrem y5 (4 : Int32)))
-- HeaderSpaceNetwork.isPortSet
def rmX11_isPortSet : Room := { frames := 0, cells := 0, slots := 0, locals := 0 }
def fX11_isPortSet (x0 : Int32) (u0 : UH) : Option Int32 :=
if x0 < (1 : Int32) then (
some (0 : Int32)) else
if (15 : Int32) < x0 then (
some (0 : Int32)) else
some (1 : Int32)
-- HeaderSpaceNetwork$Net.isHeader
def rmX4_isHeader : Room := { frames := 0, cells := 0, slots := 0, locals := 0 }
def fX4_isHeader (a0 : Nat) (x1 : Int32) (u0 : UH) : Option Int32 :=
if x1 < (0 : Int32) then (
some (0 : Int32)) else
ob (rI u0 4 0 a0) fun y1 =>
if jsl (1 : Int32) y1 ≤ x1 then (
some (0 : Int32)) else
some (1 : Int32)
-- HeaderSpaceNetwork$Net.isCube
def rmX4_isCube : Room := { frames := 1, cells := 0, slots := 0, locals := 21 }
def fX4_isCube (a0 : Nat) (x1 : Int32) (x2 : Int32) (u0 : UH) : Option Int32 :=
ob (kd u0 4 a0 (fX4_isHeader a0 x1 u0)) fun y1 =>
if y1 = (0 : Int32) then (
some (0 : Int32)) else
ob (kd u0 4 a0 (fX4_isHeader a0 x2 u0)) fun y2 =>
if y2 = (0 : Int32) then (
some (0 : Int32)) else
some (1 : Int32)
-- HeaderSpaceNetwork.isInsertable
def rmX11_isInsertable : Room := { frames := 2, cells := 0, slots := 0, locals := 43 }
def fX11_isInsertable (a0 : Nat) (x1 : Int32) (x2 : Int32) (x3 : Int32) (x4 : Int32) (x5 : Int32) (u0 : UH) : Option Int32 :=
if x2 < (0 : Int32) then (
some (0 : Int32)) else
ob (rR u0 11 0 a0) fun b1 =>
ob (rR u0 4 3 b1) fun b2 =>
ob (ldR u0 26 b2 x1) fun b3 =>
ob (rI u0 7 1 b3) fun y4 =>
if y4 < x2 then (
some (0 : Int32)) else
ob (fX11_isPortSet x3 u0) fun y5 =>
if y5 = (0 : Int32) then (
some (0 : Int32)) else
ob (rR u0 11 0 a0) fun b6 =>
ob (kd u0 4 b6 (fX4_isCube b6 x4 x5 u0)) fun y7 =>
if y7 = (0 : Int32) then (
some (0 : Int32)) else
some (1 : Int32)
-- HeaderSpaceNetwork$RuleList.copyFrom
def rmX7_copyFrom : Room := { frames := 0, cells := 0, slots := 0, locals := 0 }
def fX7_copyFrom_B2 (a0 : Nat) (a1 : Nat)  (k : Int32 → UH → Option UH) (x2 : Int32) (u : UH) : Option UH :=
if (6 : Int32) ≤ x2 then (
some u) else
ob (rR u 7 0 a0) fun b1 =>
ob (rR u 7 0 a1) fun b2 =>
ob (ldR u 25 b2 x2) fun b3 =>
ob (stR u 25 6 b1 x2 b3) fun u4 =>
k (x2 + (1 : Int32)) u4
def fX7_copyFrom (a0 : Nat) (a1 : Nat) (u0 : UH) : Option UH :=
ob (it2 (fX7_copyFrom_B2 a0 a1 ) FUEL (0 : Int32) u0) fun q5 =>
ob (rI q5 7 1 a1) fun y7 =>
ob (wI q5 7 1 a0 y7) fun u8 =>
some u8
-- HeaderSpaceNetwork$History.keep
def rmX3_keep : Room := { frames := 1, cells := 0, slots := 0, locals := 22 }
def fX3_keep (a0 : Nat) (x1 : Int32) (a2 : Nat) (u0 : UH) : Option UH :=
ob (rR u0 3 0 a0) fun b1 =>
ob (rI u0 3 3 a0) fun y2 =>
ob (ldR u0 26 b1 y2) fun b3 =>
ob (kd u0 7 b3 (fX7_copyFrom b3 a2 u0)) fun u4 =>
ob (rR u4 3 1 a0) fun b5 =>
ob (rI u4 3 3 a0) fun y6 =>
ob (stI u4 b5 y6 x1) fun u7 =>
ob (rI u7 3 3 a0) fun y8 =>
ob (wI u7 3 3 a0 (jrem (y8 + (1 : Int32)) (12 : Int32))) fun u9 =>
ob (rI u9 3 2 a0) fun y10 =>
ob (wI u9 3 2 a0 (jmin (y10 + (1 : Int32)) (12 : Int32))) fun u11 =>
some u11
-- HeaderSpaceNetwork$RuleList.insertAt
def rmX7_insertAt : Room := { frames := 1, cells := 0, slots := 0, locals := 21 }
def fX7_insertAt_B9 (a0 : Nat) (x1 : Int32)  (k : Int32 → UH → Option UH) (x3 : Int32) (u : UH) : Option UH :=
if x3 ≤ x1 then (
some u) else
ob (rR u 7 0 a0) fun b3 =>
ob (rR u 7 0 a0) fun b4 =>
ob (ldR u 25 b4 (x3 - (1 : Int32))) fun b5 =>
ob (stR u 25 6 b3 x3 b5) fun u6 =>
k (x3 + (-1 : Int32)) u6
def fX7_insertAt (a0 : Nat) (x1 : Int32) (a2 : Nat) (u0 : UH) : Option UH :=
ob (rI u0 7 1 a0) fun y1 =>
lt (jmin y1 (5 : Int32)) fun y2 =>
ob (it2 (fX7_insertAt_B9 a0 x1 ) FUEL y2 u0) fun q7 =>
ob (rR q7 7 0 a0) fun b9 =>
ob (stR q7 25 6 b9 x1 a2) fun u10 =>
ob (rI u10 7 1 a0) fun y11 =>
ob (wI u10 7 1 a0 (y11 + (1 : Int32))) fun u12 =>
some u12
-- HeaderSpaceNetwork.insertRule
def rmX11_insertRule : Room := { frames := 2, cells := 0, slots := 0, locals := 44 }
def fX11_insertRule (a0 : Nat) (x1 : Int32) (x2 : Int32) (a3 : Nat) (u0 : UH) : Option (Int32 × UH) :=
ob (rR u0 11 0 a0) fun b1 =>
ob (rR u0 4 3 b1) fun b2 =>
ob (ldR u0 26 b2 x1) fun b3 =>
ob (rI u0 7 1 b3) fun y4 =>
if y4 < (6 : Int32) then (
ob (rR u0 11 1 a0) fun b5 =>
ob (kd u0 3 b5 (fX3_keep b5 x1 b3 u0)) fun u6 =>
ob (kd u6 7 b3 (fX7_insertAt b3 x2 a3 u6)) fun u7 =>
ob (rI u7 7 1 b3) fun y8 =>
some (y8, u7)) else
some ((-5 : Int32), u0)
-- HeaderSpaceNetwork.insertDrop
def rmX11_insertDrop : Room := { frames := 3, cells := 1, slots := 8, locals := 68 }
def fX11_insertDrop (a0 : Nat) (x1 : Int32) (x2 : Int32) (x3 : Int32) (x4 : Int32) (x5 : Int32) (u0 : UH) : Option (Int32 × UH) :=
ob (fX11_isBox x1 u0) fun y1 =>
if y1 = (0 : Int32) then (
some ((-1 : Int32), u0)) else
ob (kd u0 11 a0 (fX11_isInsertable a0 x1 x2 x3 x4 x5 u0)) fun y2 =>
if y2 = (0 : Int32) then (
some ((-3 : Int32), u0)) else
nwO u0 6 fun b3 u4 =>
ob (fX6_init b3 x3 x4 x5 (0 : Int32) (0 : Int32) (0 : Int32) (1 : Int32) u4) fun u5 =>
ob2 (kd u5 11 a0 (fX11_insertRule a0 x1 x2 b3 u5)) fun y6 u7 =>
some (y6, u7)
-- HeaderSpaceNetwork.insertForward
def rmX11_insertForward : Room := { frames := 3, cells := 1, slots := 8, locals := 68 }
def fX11_insertForward (a0 : Nat) (x1 : Int32) (x2 : Int32) (x3 : Int32) (x4 : Int32) (x5 : Int32) (x6 : Int32) (u0 : UH) : Option (Int32 × UH) :=
ob (fX11_isBox x1 u0) fun y1 =>
if y1 = (0 : Int32) then (
some ((-1 : Int32), u0)) else
ob (kd u0 11 a0 (fX11_isInsertable a0 x1 x2 x3 x4 x5 u0)) fun y2 =>
if y2 = (0 : Int32) then (
some ((-3 : Int32), u0)) else
ob (fX11_isPortSet x6 u0) fun y3 =>
if y3 = (0 : Int32) then (
some ((-3 : Int32), u0)) else
nwO u0 6 fun b4 u5 =>
ob (fX6_init b4 x3 x4 x5 x6 (0 : Int32) (0 : Int32) (1 : Int32) u5) fun u6 =>
ob2 (kd u6 11 a0 (fX11_insertRule a0 x1 x2 b4 u6)) fun y7 u8 =>
some (y7, u8)
-- HeaderSpaceNetwork.ruleError
def rmX11_ruleError : Room := { frames := 1, cells := 0, slots := 0, locals := 20 }
def fX11_ruleError (a0 : Nat) (x1 : Int32) (x2 : Int32) (u0 : UH) : Option Int32 :=
ob (fX11_isBox x1 u0) fun y1 =>
if y1 = (0 : Int32) then (
some (-1 : Int32)) else
if x2 < (0 : Int32) then (
some (-2 : Int32)) else
ob (rR u0 11 0 a0) fun b2 =>
ob (rR u0 4 3 b2) fun b3 =>
ob (ldR u0 26 b3 x1) fun b4 =>
ob (rI u0 7 1 b4) fun y5 =>
if x2 < y5 then (
some (0 : Int32)) else
some (-2 : Int32)
-- HeaderSpaceNetwork$Rule.withRewriting
def rmX6_withRewriting : Room := { frames := 2, cells := 1, slots := 8, locals := 51 }
def fX6_withRewriting (a0 : Nat) (x1 : Int32) (x2 : Int32) (u0 : UH) : Option (Nat × UH) :=
nwO u0 6 fun b1 u2 =>
ob (rI u2 6 0 a0) fun y3 =>
ob (rI u2 6 1 a0) fun y4 =>
ob (rI u2 6 2 a0) fun y5 =>
ob (rI u2 6 3 a0) fun y6 =>
ob (rI u2 6 6 a0) fun y7 =>
ob (fX6_init b1 y3 y4 y5 y6 x1 x2 y7 u2) fun u8 =>
some (b1, u8)
-- HeaderSpaceNetwork.replaceRule
def rmX11_replaceRule : Room := { frames := 2, cells := 0, slots := 0, locals := 44 }
def fX11_replaceRule (a0 : Nat) (x1 : Int32) (x2 : Int32) (a3 : Nat) (u0 : UH) : Option UH :=
ob (rR u0 11 0 a0) fun b1 =>
ob (rR u0 4 3 b1) fun b2 =>
ob (ldR u0 26 b2 x1) fun b3 =>
ob (rR u0 11 1 a0) fun b4 =>
ob (kd u0 3 b4 (fX3_keep b4 x1 b3 u0)) fun u5 =>
ob (rR u5 7 0 b3) fun b6 =>
ob (stR u5 25 6 b6 x2 a3) fun u7 =>
some u7
-- HeaderSpaceNetwork.setRewriting
def rmX11_setRewriting : Room := { frames := 3, cells := 1, slots := 8, locals := 73 }
def fX11_setRewriting (a0 : Nat) (x1 : Int32) (x2 : Int32) (x3 : Int32) (x4 : Int32) (u0 : UH) : Option (Int32 × UH) :=
ob (kd u0 11 a0 (fX11_ruleError a0 x1 x2 u0)) fun y1 =>
if y1 = (0 : Int32) then (
ob (rR u0 11 0 a0) fun b2 =>
ob (kd u0 4 b2 (fX4_isCube b2 x3 x4 u0)) fun y3 =>
if y3 = (0 : Int32) then (
some ((-3 : Int32), u0)) else
ob (rR u0 11 0 a0) fun b4 =>
ob (rR u0 4 3 b4) fun b5 =>
ob (ldR u0 26 b5 x1) fun b6 =>
ob (rR u0 7 0 b6) fun b7 =>
ob (ldR u0 25 b7 x2) fun b8 =>
ob (rI u0 6 3 b8) fun y9 =>
if y9 = (0 : Int32) then (
some ((-4 : Int32), u0)) else
ob2 (kd u0 6 b8 (fX6_withRewriting b8 x3 x4 u0)) fun b10 u11 =>
ob (kd u11 11 a0 (fX11_replaceRule a0 x1 x2 b10 u11)) fun u12 =>
ob (rI u12 6 4 b10) fun y13 =>
ob (rI u12 6 4 b8) fun y14 =>
if y13 = y14 then (
ob (rI u12 6 5 b10) fun y15 =>
ob (rI u12 6 5 b8) fun y16 =>
if y15 = y16 then (
some ((0 : Int32), u12)) else
some ((1 : Int32), u12)) else
some ((1 : Int32), u12)) else
some (y1, u0)
-- HeaderSpaceNetwork$RuleList.removeAt
def rmX7_removeAt : Room := { frames := 0, cells := 0, slots := 0, locals := 0 }
def fX7_removeAt_B4 (a0 : Nat)  (k : Int32 → UH → Option UH) (x2 : Int32) (u : UH) : Option UH :=
ob (rI u 7 1 a0) fun y2 =>
if y2 ≤ x2 then (
some u) else
ob (rR u 7 0 a0) fun b3 =>
ob (rR u 7 0 a0) fun b4 =>
ob (ldR u 25 b4 x2) fun b5 =>
ob (stR u 25 6 b3 (x2 - (1 : Int32)) b5) fun u6 =>
k (x2 + (1 : Int32)) u6
def fX7_removeAt (a0 : Nat) (x1 : Int32) (u0 : UH) : Option UH :=
lt (x1 + (1 : Int32)) fun y1 =>
ob (it2 (fX7_removeAt_B4 a0 ) FUEL y1 u0) fun q7 =>
ob (rI q7 7 1 a0) fun y9 =>
ob (wI q7 7 1 a0 (y9 - (1 : Int32))) fun u10 =>
some u10
-- HeaderSpaceNetwork.removeRule
def rmX11_removeRule : Room := { frames := 2, cells := 0, slots := 0, locals := 44 }
def fX11_removeRule (a0 : Nat) (x1 : Int32) (x2 : Int32) (u0 : UH) : Option (Int32 × UH) :=
ob (kd u0 11 a0 (fX11_ruleError a0 x1 x2 u0)) fun y1 =>
if y1 = (0 : Int32) then (
ob (rR u0 11 0 a0) fun b2 =>
ob (rR u0 4 3 b2) fun b3 =>
ob (ldR u0 26 b3 x1) fun b4 =>
ob (rR u0 11 1 a0) fun b5 =>
ob (kd u0 3 b5 (fX3_keep b5 x1 b4 u0)) fun u6 =>
ob (kd u6 7 b4 (fX7_removeAt b4 x2 u6)) fun u7 =>
ob (rI u7 7 1 b4) fun y8 =>
some (y8, u7)) else
some (y1, u0)
-- HeaderSpaceNetwork.moveRule
def rmX11_moveRule : Room := { frames := 2, cells := 0, slots := 0, locals := 44 }
def fX11_moveRule_21  (a0 : Nat) (x1 : Int32) (x2 : Int32) (x3 : Int32) (x4 : Int32) (u : UH) : Option (Int32 × UH) :=
if x4 = (0 : Int32) then (
ob (rR u 11 0 a0) fun b2 =>
ob (rR u 4 3 b2) fun b3 =>
ob (ldR u 26 b3 x1) fun b4 =>
ob (rR u 11 1 a0) fun b5 =>
ob (kd u 3 b5 (fX3_keep b5 x1 b4 u)) fun u6 =>
ob (rR u6 7 0 b4) fun b7 =>
ob (ldR u6 25 b7 x2) fun b8 =>
ob (kd u6 7 b4 (fX7_removeAt b4 x2 u6)) fun u9 =>
ob (kd u9 7 b4 (fX7_insertAt b4 x3 b8 u9)) fun u10 =>
if x2 = x3 then (
some ((0 : Int32), u10)) else
some ((1 : Int32), u10)) else
some (x4, u)
def fX11_moveRule (a0 : Nat) (x1 : Int32) (x2 : Int32) (x3 : Int32) (u0 : UH) : Option (Int32 × UH) :=
ob (kd u0 11 a0 (fX11_ruleError a0 x1 x2 u0)) fun y1 =>
if y1 = (0 : Int32) then (
ob (kd u0 11 a0 (fX11_ruleError a0 x1 x3 u0)) fun y11 =>
fX11_moveRule_21  a0 x1 x2 x3 y11 u0) else
fX11_moveRule_21  a0 x1 x2 x3 y1 u0
-- HeaderSpaceNetwork$Rule.switched
def rmX6_switched : Room := { frames := 2, cells := 1, slots := 8, locals := 51 }
def fX6_switched (a0 : Nat) (x1 : Int32) (u0 : UH) : Option (Nat × UH) :=
nwO u0 6 fun b1 u2 =>
ob (rI u2 6 0 a0) fun y3 =>
ob (rI u2 6 1 a0) fun y4 =>
ob (rI u2 6 2 a0) fun y5 =>
ob (rI u2 6 3 a0) fun y6 =>
ob (rI u2 6 4 a0) fun y7 =>
ob (rI u2 6 5 a0) fun y8 =>
ob (fX6_init b1 y3 y4 y5 y6 y7 y8 x1 u2) fun u9 =>
some (b1, u9)
-- HeaderSpaceNetwork.switchRule
def rmX11_switchRule : Room := { frames := 3, cells := 1, slots := 8, locals := 72 }
def fX11_switchRule (a0 : Nat) (x1 : Int32) (x2 : Int32) (x3 : Int32) (u0 : UH) : Option (Int32 × UH) :=
ob (kd u0 11 a0 (fX11_ruleError a0 x1 x2 u0)) fun y1 =>
if y1 = (0 : Int32) then (
ob (rR u0 11 0 a0) fun b2 =>
ob (rR u0 4 3 b2) fun b3 =>
ob (ldR u0 26 b3 x1) fun b4 =>
ob (rR u0 7 0 b4) fun b5 =>
ob (ldR u0 25 b5 x2) fun b6 =>
ob2 (kd u0 6 b6 (fX6_switched b6 x3 u0)) fun b7 u8 =>
ob (kd u8 11 a0 (fX11_replaceRule a0 x1 x2 b7 u8)) fun u9 =>
ob (rI u9 6 6 b6) fun y10 =>
if y10 = x3 then (
some ((0 : Int32), u9)) else
some ((1 : Int32), u9)) else
some (y1, u0)
-- HeaderSpaceNetwork$History.takeBack
def rmX3_takeBack : Room := { frames := 1, cells := 0, slots := 0, locals := 22 }
def fX3_takeBack (a0 : Nat) (a1 : Nat) (u0 : UH) : Option UH :=
ob (rI u0 3 3 a0) fun y1 =>
ob (wI u0 3 3 a0 (jrem ((y1 + (12 : Int32)) - (1 : Int32)) (12 : Int32))) fun u2 =>
ob (rI u2 3 2 a0) fun y3 =>
ob (wI u2 3 2 a0 (y3 - (1 : Int32))) fun u4 =>
ob (rR u4 4 3 a1) fun b5 =>
ob (rR u4 3 1 a0) fun b6 =>
ob (rI u4 3 3 a0) fun y7 =>
ob (ldI u4 20 b6 y7) fun y8 =>
ob (ldR u4 26 b5 y8) fun b9 =>
ob (rR u4 3 0 a0) fun b10 =>
ob (rI u4 3 3 a0) fun y11 =>
ob (ldR u4 26 b10 y11) fun b12 =>
ob (kd u4 7 b9 (fX7_copyFrom b9 b12 u4)) fun u13 =>
some u13
-- HeaderSpaceNetwork.undo
def rmX11_undo : Room := { frames := 2, cells := 0, slots := 0, locals := 43 }
def fX11_undo (a0 : Nat) (u0 : UH) : Option (Int32 × UH) :=
ob (rR u0 11 1 a0) fun b1 =>
ob (rI u0 3 2 b1) fun y2 =>
if y2 = (0 : Int32) then (
some ((-6 : Int32), u0)) else
ob (rR u0 11 1 a0) fun b3 =>
ob (rR u0 11 0 a0) fun b4 =>
ob (kd u0 3 b3 (fX3_takeBack b3 b4 u0)) fun u5 =>
ob (rR u5 11 1 a0) fun b6 =>
ob (rI u5 3 2 b6) fun y7 =>
some (y7, u5)
-- HeaderSpaceNetwork.rule
def rmX11_rule : Room := { frames := 2, cells := 0, slots := 0, locals := 42 }
def fX11_rule (a0 : Nat) (x1 : Int32) (x2 : Int32) (x3 : Int32) (u0 : UH) : Option Int32 :=
ob (kd u0 11 a0 (fX11_ruleError a0 x1 x2 u0)) fun y1 =>
if y1 = (0 : Int32) then (
ob (rR u0 11 0 a0) fun b2 =>
ob (rR u0 4 3 b2) fun b3 =>
ob (ldR u0 26 b3 x1) fun b4 =>
ob (rR u0 7 0 b4) fun b5 =>
ob (ldR u0 25 b5 x2) fun b6 =>
if x3 = nI 0 then (
ob (rI u0 6 0 b6) fun y7 =>
some y7) else
if x3 = nI 1 then (
ob (rI u0 6 1 b6) fun y8 =>
some y8) else
if x3 = nI 2 then (
ob (rI u0 6 2 b6) fun y9 =>
some y9) else
if x3 = nI 3 then (
ob (rI u0 6 3 b6) fun y10 =>
some y10) else
if x3 = nI 4 then (
ob (rI u0 6 4 b6) fun y11 =>
some y11) else
if x3 = nI 5 then (
ob (rI u0 6 5 b6) fun y12 =>
some y12) else
if x3 = nI 6 then (
ob (rI u0 6 6 b6) fun y13 =>
if y13 = (0 : Int32) then (
some (0 : Int32)) else
some (1 : Int32)) else
some (-3 : Int32)) else
some y1
-- HeaderSpaceNetwork$Net.countRules
def rmX4_countRules : Room := { frames := 0, cells := 0, slots := 0, locals := 0 }
def fX4_countRules_B4 (a0 : Nat) (u0 : UH) (k : Int32 → Int32 → Option Int32) (x1 : Int32) (x2 : Int32)  : Option Int32 :=
if (6 : Int32) ≤ x2 then (
some x1) else
ob (rR u0 4 3 a0) fun b1 =>
ob (ldR u0 26 b1 x2) fun b2 =>
ob (rI u0 7 1 b2) fun y3 =>
lt (x1 + y3) fun y4 =>
k y4 (x2 + (1 : Int32))
def fX4_countRules (a0 : Nat) (u0 : UH) : Option Int32 :=
ob (it2 (fX4_countRules_B4 a0 u0) FUEL (0 : Int32) (0 : Int32)) fun q5 =>
some q5
-- HeaderSpaceNetwork.count
def rmX11_count : Room := { frames := 1, cells := 0, slots := 0, locals := 22 }
def fX11_count (a0 : Nat) (x1 : Int32) (u0 : UH) : Option Int32 :=
if x1 = nI 0 then (
ob (rR u0 11 0 a0) fun b1 =>
ob (rI u0 4 0 b1) fun y2 =>
some y2) else
if x1 = nI 1 then (
ob (rR u0 11 0 a0) fun b3 =>
ob (rI u0 4 1 b3) fun y4 =>
some y4) else
if x1 = nI 2 then (
ob (rR u0 11 0 a0) fun b5 =>
ob (kd u0 4 b5 (fX4_countRules b5 u0)) fun y6 =>
some y6) else
if x1 = nI 3 then (
ob (rI u0 11 9 a0) fun y7 =>
some y7) else
if x1 = nI 4 then (
ob (rR u0 11 1 a0) fun b8 =>
ob (rI u0 3 2 b8) fun y9 =>
some y9) else
some (-3 : Int32)
-- HeaderSpaceNetwork$Rule.taken
def rmX6_taken : Room := { frames := 0, cells := 0, slots := 0, locals := 0 }
def fX6_taken (a0 : Nat) (x1 : Int32) (x2 : Int64) (u0 : UH) : Option Int64 :=
ob (rI u0 6 6 a0) fun y1 =>
if y1 = (0 : Int32) then (
some (0 : Int64)) else
ob (rI u0 6 0 a0) fun y2 =>
if (jsr y2 x1) &&& (1 : Int32) = (0 : Int32) then (
some (0 : Int64)) else
ob (rJ u0 6 7 a0) fun y3 =>
some (x2 &&& y3)
-- HeaderSpaceNetwork$RuleList.leftFor
def rmX7_leftFor : Room := { frames := 1, cells := 0, slots := 0, locals := 23 }
def fX7_leftFor_B6 (a0 : Nat) (x1 : Int32) (x2 : Int32) (u0 : UH) (k : Int64 → Int32 → Option Int64) (x5 : Int64) (x7 : Int32)  : Option Int64 :=
if x1 ≤ x7 then (
some x5) else
ob (rR u0 7 0 a0) fun b1 =>
ob (ldR u0 25 b1 x7) fun b2 =>
ob (kd u0 6 b2 (fX6_taken b2 x2 x5 u0)) fun y3 =>
lt (x5 &&& (y3 ^^^ (-1 : Int64))) fun y4 =>
k y4 (x7 + (1 : Int32))
def fX7_leftFor (a0 : Nat) (x1 : Int32) (x2 : Int32) (x3 : Int64) (u0 : UH) : Option Int64 :=
ob (it2 (fX7_leftFor_B6 a0 x1 x2 u0) FUEL x3 (0 : Int32)) fun q5 =>
some q5
-- HeaderSpaceNetwork$RuleList.handled
def rmX7_handled : Room := { frames := 2, cells := 0, slots := 0, locals := 50 }
def fX7_handled (a0 : Nat) (x1 : Int32) (x2 : Int32) (x3 : Int64) (u0 : UH) : Option Int64 :=
ob (rR u0 7 0 a0) fun b1 =>
ob (ldR u0 25 b1 x1) fun b2 =>
ob (kd u0 7 a0 (fX7_leftFor a0 x1 x2 x3 u0)) fun y3 =>
ob (kd u0 6 b2 (fX6_taken b2 x2 y3 u0)) fun y4 =>
some y4
-- HeaderSpaceNetwork$RuleList.isHidden
def rmX7_isHidden : Room := { frames := 3, cells := 0, slots := 0, locals := 74 }
def fX7_isHidden_B2 (a0 : Nat) (x1 : Int32) (u0 : UH) (k : Int32 → Option (Unit ⊕ Int32)) (x2 : Int32)  : Option (Unit ⊕ Int32) :=
if (4 : Int32) ≤ x2 then (
some (Sum.inl ())) else
ob (rR u0 7 0 a0) fun b1 =>
ob (ldR u0 25 b1 x1) fun b2 =>
ob (rJ u0 6 7 b2) fun y3 =>
ob (kd u0 7 a0 (fX7_handled a0 x1 x2 y3 u0)) fun y4 =>
if y4 = (0 : Int64) then (
k (x2 + (1 : Int32))) else
some (Sum.inr (0 : Int32))
def fX7_isHidden (a0 : Nat) (x1 : Int32) (u0 : UH) : Option Int32 :=
oe (it1 (fX7_isHidden_B2 a0 x1 u0) FUEL (0 : Int32)) (fun _ =>
some (1 : Int32)) (fun x => some x)
-- HeaderSpaceNetwork$RuleList.hiddenRules
def rmX7_hiddenRules : Room := { frames := 4, cells := 0, slots := 0, locals := 96 }
def fX7_hiddenRules_B4 (a0 : Nat) (u0 : UH) (k : Int32 → Int32 → Option Int32) (x1 : Int32) (x2 : Int32)  : Option Int32 :=
ob (rI u0 7 1 a0) fun y1 =>
if y1 ≤ x2 then (
some x1) else
ob (rR u0 7 0 a0) fun b2 =>
ob (ldR u0 25 b2 x2) fun b3 =>
ob (rI u0 6 6 b3) fun y4 =>
if y4 = (0 : Int32) then (
k x1 (x2 + (1 : Int32))) else
ob (kd u0 7 a0 (fX7_isHidden a0 x2 u0)) fun y5 =>
if y5 = (0 : Int32) then (
k x1 (x2 + (1 : Int32))) else
lt (x1 ||| (jsl (1 : Int32) x2)) fun y6 =>
k y6 (x2 + (1 : Int32))
def fX7_hiddenRules (a0 : Nat) (u0 : UH) : Option Int32 :=
ob (it2 (fX7_hiddenRules_B4 a0 u0) FUEL (0 : Int32) (0 : Int32)) fun q7 =>
some q7
-- HeaderSpaceNetwork.shadowed
def rmX11_shadowed : Room := { frames := 5, cells := 0, slots := 0, locals := 118 }
def fX11_shadowed (a0 : Nat) (x1 : Int32) (u0 : UH) : Option Int32 :=
ob (fX11_isBox x1 u0) fun y1 =>
if y1 = (0 : Int32) then (
some (-1 : Int32)) else
ob (rR u0 11 0 a0) fun b2 =>
ob (rR u0 4 3 b2) fun b3 =>
ob (ldR u0 26 b3 x1) fun b4 =>
ob (kd u0 7 b4 (fX7_hiddenRules b4 u0)) fun y5 =>
some y5
-- java/lang/Long.bitCount
def rmJ13_bitCount_95d88 : Room := { frames := 0, cells := 0, slots := 0, locals := 0 }
def fJ13_bitCount_95d88 (x0 : Int64) (u0 : UH) : Option Int32 :=
lt (x0 - ((jlur x0 (1 : Int32)) &&& (6148914691236517205 : Int64))) fun y1 =>
lt ((y1 &&& (3689348814741910323 : Int64)) + ((jlur y1 (2 : Int32)) &&& (3689348814741910323 : Int64))) fun y2 =>
lt ((y2 + (jlur y2 (4 : Int32))) &&& (1085102592571150095 : Int64)) fun y3 =>
lt (y3 + (jlur y3 (8 : Int32))) fun y4 =>
lt (y4 + (jlur y4 (16 : Int32))) fun y5 =>
lt (y5 + (jlur y5 (32 : Int32))) fun y6 =>
some (y6.toInt32 &&& (127 : Int32))
-- HeaderSpaceNetwork.inject
def rmX11_inject : Room := { frames := 2, cells := 0, slots := 0, locals := 43 }
def fX11_inject (a0 : Nat) (x1 : Int32) (x2 : Int32) (x3 : Int32) (x4 : Int32) (u0 : UH) : Option (Int32 × UH) :=
ob (fX11_isPlace x1 x2 u0) fun y1 =>
if y1 = (0 : Int32) then (
some ((-1 : Int32), u0)) else
ob (rR u0 11 0 a0) fun b2 =>
ob (kd u0 4 b2 (fX4_isCube b2 x3 x4 u0)) fun y3 =>
if y3 = (0 : Int32) then (
some ((-3 : Int32), u0)) else
ob (fX11_placeOf x1 x2 u0) fun y4 =>
ob (wI u0 11 10 a0 y4) fun u5 =>
ob (rR u5 11 0 a0) fun b6 =>
ob (kd u5 4 b6 (fX4_allHeaders b6 u5)) fun y7 =>
ob (fX11_cubeHeaders x3 x4 u5) fun y8 =>
ob (wJ u5 11 11 a0 (y7 &&& y8)) fun u9 =>
ob (rJ u9 11 11 a0) fun y10 =>
ob (fJ13_bitCount_95d88 y10 u9) fun y11 =>
some (y11, u9)
-- java/util/Arrays.fill
def rmJ7_fill_d0a16 : Room := { frames := 0, cells := 0, slots := 0, locals := 0 }
def fJ7_fill_d0a16_B6 (a0 : Nat) (x1 : Int64) (x4 : Int32)  (k : Int32 → UH → Option UH) (x3 : Int32) (u : UH) : Option UH :=
if x4 ≤ x3 then (
some u) else
ob (stJ u a0 x3 x1) fun u2 =>
k (x3 + (1 : Int32)) u2
def fJ7_fill_d0a16 (a0 : Nat) (x1 : Int64) (u0 : UH) : Option UH :=
ob (lnA u0 21 a0) fun y1 =>
ob (it2 (fJ7_fill_d0a16_B6 a0 x1 y1 ) FUEL (0 : Int32) u0) fun q3 =>
some q3
-- HeaderSpaceNetwork$Flow.forget
def rmX2_forget : Room := { frames := 1, cells := 0, slots := 0, locals := 24 }
def fX2_forget (a0 : Nat) (u0 : UH) : Option UH :=
ob (rR u0 2 1 a0) fun b1 =>
ob (fJ7_fill_d0a16 b1 (0 : Int64) u0) fun u2 =>
ob (rR u2 2 2 a0) fun b3 =>
ob (fJ7_fill_d0a16 b3 (0 : Int64) u2) fun u4 =>
ob (rR u4 2 3 a0) fun b5 =>
ob (fJ7_fill_d0a16 b5 (0 : Int64) u4) fun u6 =>
some u6
-- HeaderSpaceNetwork$Flow.enter
def rmX2_enter : Room := { frames := 0, cells := 0, slots := 0, locals := 0 }
def fX2_enter (a0 : Nat) (x1 : Int32) (x2 : Int64) (u0 : UH) : Option UH :=
ob (rR u0 2 2 a0) fun b1 =>
ob (rR u0 2 1 a0) fun b2 =>
ob (ldJ u0 b2 x1) fun y3 =>
ob (stJ u0 b1 x1 (x2 &&& (y3 ^^^ (-1 : Int64)))) fun u4 =>
ob (rR u4 2 1 a0) fun b5 =>
ob (ldJ u4 b5 x1) fun y6 =>
ob (stJ u4 b5 x1 (y6 ||| x2)) fun u7 =>
some u7
-- HeaderSpaceNetwork$Rule.rewrittenSet
def rmX6_rewrittenSet : Room := { frames := 0, cells := 0, slots := 0, locals := 0 }
def fX6_rewrittenSet_B5 (a0 : Nat) (u0 : UH) (k : Int64 → Int32 → Option Int64) (x3 : Int64) (x5 : Int32)  : Option Int64 :=
if (5 : Int32) ≤ x5 then (
some x3) else
ob (rI u0 6 4 a0) fun y1 =>
if (jsr y1 x5) &&& (1 : Int32) = (0 : Int32) then (
k x3 (x5 + (1 : Int32))) else
ob (rWB x5) fun y2 =>
lt (x3 &&& y2) fun y3 =>
ob (rWB x5) fun y4 =>
lt (x3 &&& (y4 ^^^ (-1 : Int64))) fun y5 =>
lt (jsl (1 : Int32) x5) fun y6 =>
ob (rI u0 6 5 a0) fun y7 =>
if (jsr y7 x5) &&& (1 : Int32) = (0 : Int32) then (
lt (y5 ||| (jlur y3 y6)) fun y8 =>
k y8 (x5 + (1 : Int32))) else
lt (y3 ||| (jlsl y5 y6)) fun y9 =>
k y9 (x5 + (1 : Int32))
def fX6_rewrittenSet (a0 : Nat) (x1 : Int64) (u0 : UH) : Option Int64 :=
ob (it2 (fX6_rewrittenSet_B5 a0 u0) FUEL x1 (0 : Int32)) fun q10 =>
some q10
-- HeaderSpaceNetwork.hasPort
def rmX11_hasPort : Room := { frames := 0, cells := 0, slots := 0, locals := 0 }
def fX11_hasPort (x0 : Int32) (x1 : Int32) (u0 : UH) : Option Int32 :=
if (jsr x0 x1) &&& (1 : Int32) = (0 : Int32) then (
some (0 : Int32)) else
some (1 : Int32)
-- HeaderSpaceNetwork$Flow.sendOut
def rmX2_sendOut : Room := { frames := 1, cells := 0, slots := 0, locals := 21 }
def fX2_sendOut_B3 (a0 : Nat) (x1 : Int32) (x2 : Int32) (x3 : Int64)  (k : Int32 → UH → Option UH) (x5 : Int32) (u : UH) : Option UH :=
if (4 : Int32) ≤ x5 then (
some u) else
ob (rR u 2 0 a0) fun b1 =>
ob (rR u 4 2 b1) fun b2 =>
ob (fX11_placeOf x1 x5 u) fun y3 =>
ob (ldI u 20 b2 y3) fun y4 =>
ob (fX11_hasPort x2 x5 u) fun y5 =>
if y5 = (0 : Int32) then (
k (x5 + (1 : Int32)) u) else
if y4 = (-1 : Int32) then (
k (x5 + (1 : Int32)) u) else
ob (rR u 2 3 a0) fun b6 =>
ob (ldJ u b6 y4) fun y7 =>
ob (rR u 2 1 a0) fun b8 =>
ob (ldJ u b8 y4) fun y9 =>
ob (stJ u b6 y4 (y7 ||| (x3 &&& (y9 ^^^ (-1 : Int64))))) fun u10 =>
k (x5 + (1 : Int32)) u10
def fX2_sendOut (a0 : Nat) (x1 : Int32) (x2 : Int32) (x3 : Int64) (u0 : UH) : Option UH :=
ob (it2 (fX2_sendOut_B3 a0 x1 x2 x3 ) FUEL (0 : Int32) u0) fun q11 =>
some q11
-- HeaderSpaceNetwork$Flow.handle
def rmX2_handle : Room := { frames := 2, cells := 0, slots := 0, locals := 47 }
def fX2_handle_B23 (a0 : Nat) (x1 : Int32) (x4 : Int32) (a5 : Nat)  (k : Int64 → Int32 → UH → Option UH) (x6 : Int64) (x8 : Int32) (u : UH) : Option UH :=
ob (rI u 7 1 a5) fun y5 =>
if y5 ≤ x8 then (
some u) else
if x6 = (0 : Int64) then (
some u) else
ob (rR u 7 0 a5) fun b6 =>
ob (ldR u 25 b6 x8) fun b7 =>
ob (kd u 6 b7 (fX6_taken b7 (jrem x1 (4 : Int32)) x6 u)) fun y8 =>
if y8 = (0 : Int64) then (
k x6 (x8 + (1 : Int32)) u) else
lt (x6 &&& (y8 ^^^ (-1 : Int64))) fun y9 =>
ob (rI u 6 3 b7) fun y10 =>
ob (kd u 6 b7 (fX6_rewrittenSet b7 y8 u)) fun y11 =>
ob (kd u 2 a0 (fX2_sendOut a0 x4 y10 y11 u)) fun u12 =>
k y9 (x8 + (1 : Int32)) u12
def fX2_handle (a0 : Nat) (x1 : Int32) (x2 : Int64) (u0 : UH) : Option UH :=
lt (x1 / (4 : Int32)) fun y1 =>
ob (rR u0 2 0 a0) fun b2 =>
ob (rR u0 4 3 b2) fun b3 =>
ob (ldR u0 26 b3 y1) fun b4 =>
ob (it3 (fX2_handle_B23 a0 x1 y1 b4 ) FUEL x2 (0 : Int32) u0) fun q13 =>
some q13
-- HeaderSpaceNetwork$Flow.goOneLink
def rmX2_goOneLink : Room := { frames := 3, cells := 0, slots := 0, locals := 78 }
def fX2_goOneLink_B2 (a0 : Nat)  (k : Int32 → UH → Option UH) (x1 : Int32) (u : UH) : Option UH :=
if (24 : Int32) ≤ x1 then (
some u) else
ob (rR u 2 2 a0) fun b1 =>
ob (ldJ u b1 x1) fun y2 =>
if y2 = (0 : Int64) then (
k (x1 + (1 : Int32)) u) else
ob (rR u 2 2 a0) fun b3 =>
ob (ldJ u b3 x1) fun y4 =>
ob (kd u 2 a0 (fX2_handle a0 x1 y4 u)) fun u5 =>
k (x1 + (1 : Int32)) u5
def fX2_goOneLink_B40 (a0 : Nat)  (k : Int32 → Int32 → UH → Option (Int32 × UH)) (x1 : Int32) (x2 : Int32) (u : UH) : Option (Int32 × UH) :=
if (24 : Int32) ≤ x2 then (
some (x1, u)) else
ob (rR u 2 2 a0) fun b8 =>
ob (rR u 2 3 a0) fun b9 =>
ob (ldJ u b9 x2) fun y10 =>
ob (stJ u b8 x2 y10) fun u11 =>
ob (rR u11 2 1 a0) fun b12 =>
ob (ldJ u11 b12 x2) fun y13 =>
ob (rR u11 2 3 a0) fun b14 =>
ob (ldJ u11 b14 x2) fun y15 =>
ob (stJ u11 b12 x2 (y13 ||| y15)) fun u16 =>
if x1 = (0 : Int32) then (
ob (rR u16 2 3 a0) fun b19 =>
ob (ldJ u16 b19 x2) fun y20 =>
if y20 = (0 : Int64) then (
ob (rR u16 2 3 a0) fun b21 =>
ob (stJ u16 b21 x2 (0 : Int64)) fun u22 =>
k (0 : Int32) (x2 + (1 : Int32)) u22) else
ob (rR u16 2 3 a0) fun b23 =>
ob (stJ u16 b23 x2 (0 : Int64)) fun u24 =>
k (1 : Int32) (x2 + (1 : Int32)) u24) else
ob (rR u16 2 3 a0) fun b17 =>
ob (stJ u16 b17 x2 (0 : Int64)) fun u18 =>
k (1 : Int32) (x2 + (1 : Int32)) u18
def fX2_goOneLink (a0 : Nat) (u0 : UH) : Option (Int32 × UH) :=
ob (it2 (fX2_goOneLink_B2 a0 ) FUEL (0 : Int32) u0) fun q6 =>
ob (it3 (fX2_goOneLink_B40 a0 ) FUEL (0 : Int32) (0 : Int32) q6) fun q25 =>
bz q25.1 (some (q25.1, q25.2))
-- HeaderSpaceNetwork$Flow.spread
def rmX2_spread : Room := { frames := 4, cells := 0, slots := 0, locals := 100 }
def fX2_spread_B4 (a0 : Nat)  (k : Int32 → Int32 → UH → Option UH) (x1 : Int32) (x2 : Int32) (u : UH) : Option UH :=
if x1 = (0 : Int32) then (
some u) else
if (768 : Int32) < x2 then (
some u) else
ob2 (kd u 2 a0 (fX2_goOneLink a0 u)) fun y1 u2 =>
k y1 (x2 + (1 : Int32)) u2
def fX2_spread (a0 : Nat) (u0 : UH) : Option UH :=
ob (it3 (fX2_spread_B4 a0 ) FUEL (1 : Int32) (0 : Int32) u0) fun q3 =>
some q3
-- HeaderSpaceNetwork$Flow.spreadFrom
def rmX2_spreadFrom : Room := { frames := 5, cells := 0, slots := 0, locals := 122 }
def fX2_spreadFrom (a0 : Nat) (x1 : Int32) (x2 : Int64) (u0 : UH) : Option UH :=
ob (kd u0 2 a0 (fX2_forget a0 u0)) fun u1 =>
ob (kd u1 2 a0 (fX2_enter a0 x1 x2 u1)) fun u2 =>
ob (kd u2 2 a0 (fX2_spread a0 u2)) fun u3 =>
some u3
-- HeaderSpaceNetwork.arriving
def rmX11_arriving : Room := { frames := 6, cells := 0, slots := 0, locals := 145 }
def fX11_arriving (a0 : Nat) (x1 : Int32) (x2 : Int32) (u0 : UH) : Option (Int64 × UH) :=
ob (fX11_isPlace x1 x2 u0) fun y1 =>
if y1 = (0 : Int32) then (
some ((-9223372036854775808 : Int64), u0)) else
ob (rR u0 11 2 a0) fun b2 =>
ob (rI u0 11 10 a0) fun y3 =>
ob (rJ u0 11 11 a0) fun y4 =>
ob (kd u0 2 b2 (fX2_spreadFrom b2 y3 y4 u0)) fun u5 =>
ob (rR u5 11 2 a0) fun b6 =>
ob (rR u5 2 1 b6) fun b7 =>
ob (fX11_placeOf x1 x2 u5) fun y8 =>
ob (ldJ u5 b7 y8) fun y9 =>
some (y9, u5)
-- HeaderSpaceNetwork$Flow.allHandled
def rmX2_allHandled : Room := { frames := 3, cells := 0, slots := 0, locals := 74 }
def fX2_allHandled_B16 (a0 : Nat) (x1 : Int32) (x2 : Int32) (a3 : Nat) (u0 : UH) (k : Int64 → Int32 → Option Int64) (x4 : Int64) (x6 : Int32)  : Option Int64 :=
if (4 : Int32) ≤ x6 then (
some x4) else
ob (rR u0 2 1 a0) fun b4 =>
ob (fX11_placeOf x1 x6 u0) fun y5 =>
ob (ldJ u0 b4 y5) fun y6 =>
ob (kd u0 7 a3 (fX7_handled a3 x2 x6 y6 u0)) fun y7 =>
lt (x4 ||| y7) fun y8 =>
k y8 (x6 + (1 : Int32))
def fX2_allHandled (a0 : Nat) (x1 : Int32) (x2 : Int32) (u0 : UH) : Option Int64 :=
ob (rR u0 2 0 a0) fun b1 =>
ob (rR u0 4 3 b1) fun b2 =>
ob (ldR u0 26 b2 x1) fun b3 =>
ob (it2 (fX2_allHandled_B16 a0 x1 x2 b3 u0) FUEL (0 : Int64) (0 : Int32)) fun q9 =>
some q9
-- HeaderSpaceNetwork$Flow.deliveredAt
def rmX2_deliveredAt : Room := { frames := 4, cells := 0, slots := 0, locals := 100 }
def fX2_deliveredAt_B35 (a0 : Nat) (x1 : Int32) (x2 : Int32) (a3 : Nat) (u0 : UH) (k : Int64 → Int32 → Option Int64) (x4 : Int64) (x6 : Int32)  : Option Int64 :=
ob (rI u0 7 1 a3) fun y8 =>
if y8 ≤ x6 then (
some x4) else
ob (rR u0 7 0 a3) fun b9 =>
ob (ldR u0 25 b9 x6) fun b10 =>
ob (rI u0 6 3 b10) fun y11 =>
ob (fX11_hasPort y11 x2 u0) fun y12 =>
if y12 = (0 : Int32) then (
k x4 (x6 + (1 : Int32))) else
ob (kd u0 2 a0 (fX2_allHandled a0 x1 x6 u0)) fun y13 =>
ob (kd u0 6 b10 (fX6_rewrittenSet b10 y13 u0)) fun y14 =>
lt (x4 ||| y14) fun y15 =>
k y15 (x6 + (1 : Int32))
def fX2_deliveredAt (a0 : Nat) (x1 : Int32) (x2 : Int32) (u0 : UH) : Option Int64 :=
ob (rR u0 2 0 a0) fun b1 =>
ob (rR u0 4 2 b1) fun b2 =>
ob (fX11_placeOf x1 x2 u0) fun y3 =>
ob (ldI u0 20 b2 y3) fun y4 =>
if y4 = (-1 : Int32) then (
ob (rR u0 2 0 a0) fun b5 =>
ob (rR u0 4 3 b5) fun b6 =>
ob (ldR u0 26 b6 x1) fun b7 =>
ob (it2 (fX2_deliveredAt_B35 a0 x1 x2 b7 u0) FUEL (0 : Int64) (0 : Int32)) fun q16 =>
some q16) else
some (0 : Int64)
-- HeaderSpaceNetwork.delivered
def rmX11_delivered : Room := { frames := 6, cells := 0, slots := 0, locals := 145 }
def fX11_delivered (a0 : Nat) (x1 : Int32) (x2 : Int32) (u0 : UH) : Option (Int64 × UH) :=
ob (fX11_isPlace x1 x2 u0) fun y1 =>
if y1 = (0 : Int32) then (
some ((-9223372036854775808 : Int64), u0)) else
ob (rR u0 11 2 a0) fun b2 =>
ob (rI u0 11 10 a0) fun y3 =>
ob (rJ u0 11 11 a0) fun y4 =>
ob (kd u0 2 b2 (fX2_spreadFrom b2 y3 y4 u0)) fun u5 =>
ob (rR u5 11 2 a0) fun b6 =>
ob (kd u5 2 b6 (fX2_deliveredAt b6 x1 x2 u5)) fun y7 =>
some (y7, u5)
-- HeaderSpaceNetwork$Flow.countArrived
def rmX2_countArrived : Room := { frames := 1, cells := 0, slots := 0, locals := 21 }
def fX2_countArrived_B4 (a0 : Nat) (x1 : Int32) (u0 : UH) (k : Int32 → Int32 → Option Int32) (x2 : Int32) (x3 : Int32)  : Option Int32 :=
if (4 : Int32) ≤ x3 then (
some x2) else
ob (rR u0 2 1 a0) fun b1 =>
ob (fX11_placeOf x1 x3 u0) fun y2 =>
ob (ldJ u0 b1 y2) fun y3 =>
ob (fJ13_bitCount_95d88 y3 u0) fun y4 =>
lt (x2 + y4) fun y5 =>
k y5 (x3 + (1 : Int32))
def fX2_countArrived (a0 : Nat) (x1 : Int32) (u0 : UH) : Option Int32 :=
ob (it2 (fX2_countArrived_B4 a0 x1 u0) FUEL (0 : Int32) (0 : Int32)) fun q6 =>
some q6
-- HeaderSpaceNetwork$Flow.countHandled
def rmX2_countHandled : Room := { frames := 3, cells := 0, slots := 0, locals := 74 }
def fX2_countHandled_B16 (a0 : Nat) (x1 : Int32) (x2 : Int32) (a3 : Nat) (u0 : UH) (k : Int32 → Int32 → Option Int32) (x4 : Int32) (x5 : Int32)  : Option Int32 :=
if (4 : Int32) ≤ x5 then (
some x4) else
ob (rR u0 2 1 a0) fun b4 =>
ob (fX11_placeOf x1 x5 u0) fun y5 =>
ob (ldJ u0 b4 y5) fun y6 =>
ob (kd u0 7 a3 (fX7_handled a3 x2 x5 y6 u0)) fun y7 =>
ob (fJ13_bitCount_95d88 y7 u0) fun y8 =>
lt (x4 + y8) fun y9 =>
k y9 (x5 + (1 : Int32))
def fX2_countHandled (a0 : Nat) (x1 : Int32) (x2 : Int32) (u0 : UH) : Option Int32 :=
ob (rR u0 2 0 a0) fun b1 =>
ob (rR u0 4 3 b1) fun b2 =>
ob (ldR u0 26 b2 x1) fun b3 =>
ob (it2 (fX2_countHandled_B16 a0 x1 x2 b3 u0) FUEL (0 : Int32) (0 : Int32)) fun q10 =>
some q10
-- HeaderSpaceNetwork$Flow.countDropped
def rmX2_countDropped : Room := { frames := 4, cells := 0, slots := 0, locals := 99 }
def fX2_countDropped_B15 (a0 : Nat) (x1 : Int32) (a2 : Nat) (u0 : UH) (k : Int32 → Int32 → Option Int32) (x3 : Int32) (x4 : Int32)  : Option Int32 :=
ob (rI u0 7 1 a2) fun y4 =>
if y4 ≤ x4 then (
some x3) else
ob (rR u0 7 0 a2) fun b5 =>
ob (ldR u0 25 b5 x4) fun b6 =>
ob (rI u0 6 3 b6) fun y7 =>
if y7 = (0 : Int32) then (
ob (kd u0 2 a0 (fX2_countHandled a0 x1 x4 u0)) fun y8 =>
lt (x3 + y8) fun y9 =>
k y9 (x4 + (1 : Int32))) else
k x3 (x4 + (1 : Int32))
def fX2_countDropped (a0 : Nat) (x1 : Int32) (u0 : UH) : Option Int32 :=
ob (rR u0 2 0 a0) fun b1 =>
ob (rR u0 4 3 b1) fun b2 =>
ob (ldR u0 26 b2 x1) fun b3 =>
ob (it2 (fX2_countDropped_B15 a0 x1 b3 u0) FUEL (0 : Int32) (0 : Int32)) fun q10 =>
some q10
-- HeaderSpaceNetwork$Flow.countLost
def rmX2_countLost : Room := { frames := 2, cells := 0, slots := 0, locals := 50 }
def fX2_countLost_B15 (a0 : Nat) (x1 : Int32) (a2 : Nat) (u0 : UH) (k : Int32 → Int32 → Option Int32) (x3 : Int32) (x4 : Int32)  : Option Int32 :=
if (4 : Int32) ≤ x4 then (
some x3) else
ob (rI u0 7 1 a2) fun y4 =>
ob (rR u0 2 1 a0) fun b5 =>
ob (fX11_placeOf x1 x4 u0) fun y6 =>
ob (ldJ u0 b5 y6) fun y7 =>
ob (kd u0 7 a2 (fX7_leftFor a2 y4 x4 y7 u0)) fun y8 =>
ob (fJ13_bitCount_95d88 y8 u0) fun y9 =>
lt (x3 + y9) fun y10 =>
k y10 (x4 + (1 : Int32))
def fX2_countLost (a0 : Nat) (x1 : Int32) (u0 : UH) : Option Int32 :=
ob (rR u0 2 0 a0) fun b1 =>
ob (rR u0 4 3 b1) fun b2 =>
ob (ldR u0 26 b2 x1) fun b3 =>
ob (it2 (fX2_countLost_B15 a0 x1 b3 u0) FUEL (0 : Int32) (0 : Int32)) fun q11 =>
some q11
-- HeaderSpaceNetwork.arrivals
def rmX11_arrivals : Room := { frames := 6, cells := 0, slots := 0, locals := 145 }
def fX11_arrivals (a0 : Nat) (x1 : Int32) (x2 : Int32) (u0 : UH) : Option (Int32 × UH) :=
ob (fX11_isBox x1 u0) fun y1 =>
if y1 = (0 : Int32) then (
some ((-1 : Int32), u0)) else
if x2 < (0 : Int32) then (
some ((-3 : Int32), u0)) else
if x2 ≤ (2 : Int32) then (
ob (rR u0 11 2 a0) fun b2 =>
ob (rI u0 11 10 a0) fun y3 =>
ob (rJ u0 11 11 a0) fun y4 =>
ob (kd u0 2 b2 (fX2_spreadFrom b2 y3 y4 u0)) fun u5 =>
if x2 = (0 : Int32) then (
ob (rR u5 11 2 a0) fun b8 =>
ob (kd u5 2 b8 (fX2_countArrived b8 x1 u5)) fun y9 =>
some (y9, u5)) else
if x2 = (1 : Int32) then (
ob (rR u5 11 2 a0) fun b10 =>
ob (kd u5 2 b10 (fX2_countDropped b10 x1 u5)) fun y11 =>
some (y11, u5)) else
ob (rR u5 11 2 a0) fun b6 =>
ob (kd u5 2 b6 (fX2_countLost b6 x1 u5)) fun y7 =>
some (y7, u5)) else
some ((-3 : Int32), u0)
-- HeaderSpaceNetwork.hits
def rmX11_hits : Room := { frames := 6, cells := 0, slots := 0, locals := 145 }
def fX11_hits (a0 : Nat) (x1 : Int32) (x2 : Int32) (u0 : UH) : Option (Int32 × UH) :=
ob (kd u0 11 a0 (fX11_ruleError a0 x1 x2 u0)) fun y1 =>
if y1 = (0 : Int32) then (
ob (rR u0 11 2 a0) fun b2 =>
ob (rI u0 11 10 a0) fun y3 =>
ob (rJ u0 11 11 a0) fun y4 =>
ob (kd u0 2 b2 (fX2_spreadFrom b2 y3 y4 u0)) fun u5 =>
ob (rR u5 11 2 a0) fun b6 =>
ob (kd u5 2 b6 (fX2_countHandled b6 x1 x2 u5)) fun y7 =>
some (y7, u5)) else
some (y1, u0)
-- HeaderSpaceNetwork.hasHeader
def rmX11_hasHeader : Room := { frames := 0, cells := 0, slots := 0, locals := 0 }
def fX11_hasHeader (x0 : Int64) (x2 : Int32) (u0 : UH) : Option Int32 :=
if (jlur x0 x2) &&& (1 : Int64) = (0 : Int64) then (
some (0 : Int32)) else
some (1 : Int32)
-- HeaderSpaceNetwork.widestCare
def rmX11_widestCare : Room := { frames := 1, cells := 0, slots := 0, locals := 24 }
def fX11_widestCare_B16 (a0 : Nat) (x1 : Int32) (x2 : Int64) (u0 : UH) (k : Int32 → Int32 → Option Int32) (x4 : Int32) (x5 : Int32)  : Option Int32 :=
ob (rR u0 11 0 a0) fun b4 =>
ob (rI u0 4 0 b4) fun y5 =>
if y5 ≤ x5 then (
some x4) else
lt (x4 &&& ((jsl (1 : Int32) x5) ^^^ (-1 : Int32))) fun y6 =>
ob (rR u0 11 0 a0) fun b7 =>
ob (kd u0 4 b7 (fX4_allHeaders b7 u0)) fun y8 =>
ob (fX11_cubeHeaders y6 x1 u0) fun y9 =>
lt (y8 &&& y9) fun y10 =>
if y10 &&& (x2 ^^^ (-1 : Int64)) = (0 : Int64) then (
k y6 (x5 + (1 : Int32))) else
k x4 (x5 + (1 : Int32))
def fX11_widestCare (a0 : Nat) (x1 : Int32) (x2 : Int64) (u0 : UH) : Option Int32 :=
ob (rR u0 11 0 a0) fun b1 =>
ob (rI u0 4 0 b1) fun y2 =>
lt ((jsl (1 : Int32) y2) - (1 : Int32)) fun y3 =>
ob (it2 (fX11_widestCare_B16 a0 x1 x2 u0) FUEL y3 (0 : Int32)) fun q11 =>
some q11
-- HeaderSpaceNetwork.cube
def rmX11_cube : Room := { frames := 6, cells := 0, slots := 0, locals := 145 }
def fX11_cube_B68 (a0 : Nat) (x3 : Int32) (x4 : Int32) (x5 : Int64) (u : UH) (k : Int64 → Int32 → Int32 → Option (Unit ⊕ (Int32 × UH))) (x7 : Int64) (x9 : Int32) (x10 : Int32)  : Option (Unit ⊕ (Int32 × UH)) :=
if (32 : Int32) ≤ x10 then (
some (Sum.inl ())) else
ob (fX11_hasHeader x7 x10 u) fun y10 =>
if y10 = (0 : Int32) then (
k x7 x9 (x10 + (1 : Int32))) else
ob (kd u 11 a0 (fX11_widestCare a0 x10 x5 u)) fun y11 =>
if x9 = x3 then (
if x4 = (0 : Int32) then (
some (Sum.inr (y11, u))) else
some (Sum.inr (x10 &&& y11, u))) else
ob (fX11_cubeHeaders y11 x10 u) fun y12 =>
lt (x7 &&& (y12 ^^^ (-1 : Int64))) fun y13 =>
k y13 (x9 + (1 : Int32)) (x10 + (1 : Int32))
def fX11_cube (a0 : Nat) (x1 : Int32) (x2 : Int32) (x3 : Int32) (x4 : Int32) (u0 : UH) : Option (Int32 × UH) :=
ob (fX11_isPlace x1 x2 u0) fun y1 =>
if y1 = (0 : Int32) then (
some ((-1 : Int32), u0)) else
if x3 < (0 : Int32) then (
some ((-3 : Int32), u0)) else
if x4 < (0 : Int32) then (
some ((-3 : Int32), u0)) else
if x4 ≤ (1 : Int32) then (
ob (rR u0 11 2 a0) fun b2 =>
ob (rI u0 11 10 a0) fun y3 =>
ob (rJ u0 11 11 a0) fun y4 =>
ob (kd u0 2 b2 (fX2_spreadFrom b2 y3 y4 u0)) fun u5 =>
ob (rR u5 11 2 a0) fun b6 =>
ob (rR u5 2 1 b6) fun b7 =>
ob (fX11_placeOf x1 x2 u5) fun y8 =>
ob (ldJ u5 b7 y8) fun y9 =>
oe (it3 (fX11_cube_B68 a0 x3 x4 y9 u5) FUEL y9 (0 : Int32) (0 : Int32)) (fun _ =>
some ((-6 : Int32), u5)) (fun x => some x)) else
some ((-3 : Int32), u0)
-- HeaderSpaceNetwork$Flow.leastOrigin
def rmX2_leastOrigin : Room := { frames := 5, cells := 0, slots := 0, locals := 122 }
def fX2_leastOrigin_B7 (a0 : Nat) (x1 : Int32) (x2 : Int64) (x4 : Int32) (x5 : Int32)  (k : Int32 → UH → Option (UH ⊕ (Int32 × UH))) (x6 : Int32) (u : UH) : Option (UH ⊕ (Int32 × UH)) :=
if (32 : Int32) ≤ x6 then (
some (Sum.inl u)) else
ob (fX11_hasHeader x2 x6 u) fun y2 =>
if y2 = (0 : Int32) then (
k (x6 + (1 : Int32)) u) else
ob (kd u 2 a0 (fX2_enter a0 x1 (jlsl (1 : Int64) x6) u)) fun u3 =>
ob (kd u3 2 a0 (fX2_spread a0 u3)) fun u4 =>
ob (rR u4 2 1 a0) fun b5 =>
ob (ldJ u4 b5 x4) fun y6 =>
ob (fX11_hasHeader y6 x5 u4) fun y7 =>
if y7 = (0 : Int32) then (
k (x6 + (1 : Int32)) u4) else
some (Sum.inr (x6, u4))
def fX2_leastOrigin (a0 : Nat) (x1 : Int32) (x2 : Int64) (x4 : Int32) (x5 : Int32) (u0 : UH) : Option (Int32 × UH) :=
ob (kd u0 2 a0 (fX2_forget a0 u0)) fun u1 =>
oe (it2 (fX2_leastOrigin_B7 a0 x1 x2 x4 x5 ) FUEL (0 : Int32) u1) (fun q8 =>
some ((-6 : Int32), q8)) (fun x => some x)
-- HeaderSpaceNetwork.origin
def rmX11_origin : Room := { frames := 6, cells := 0, slots := 0, locals := 148 }
def fX11_origin (a0 : Nat) (x1 : Int32) (x2 : Int32) (x3 : Int32) (u0 : UH) : Option (Int32 × UH) :=
ob (fX11_isPlace x1 x2 u0) fun y1 =>
if y1 = (0 : Int32) then (
some ((-1 : Int32), u0)) else
ob (rR u0 11 0 a0) fun b2 =>
ob (kd u0 4 b2 (fX4_isHeader b2 x3 u0)) fun y3 =>
if y3 = (0 : Int32) then (
some ((-3 : Int32), u0)) else
ob (rR u0 11 2 a0) fun b4 =>
ob (rI u0 11 10 a0) fun y5 =>
ob (rJ u0 11 11 a0) fun y6 =>
ob (fX11_placeOf x1 x2 u0) fun y7 =>
ob2 (kd u0 2 b4 (fX2_leastOrigin b4 y5 y6 y7 x3 u0)) fun y8 u9 =>
some (y8, u9)
-- HeaderSpaceNetwork.isInjected
def rmX11_isInjected : Room := { frames := 1, cells := 0, slots := 0, locals := 22 }
def fX11_isInjected (a0 : Nat) (x1 : Int32) (u0 : UH) : Option Int32 :=
ob (rR u0 11 0 a0) fun b1 =>
ob (kd u0 4 b1 (fX4_isHeader b1 x1 u0)) fun y2 =>
if y2 = (0 : Int32) then (
some (0 : Int32)) else
ob (rJ u0 11 11 a0) fun y3 =>
ob (fX11_hasHeader y3 x1 u0) fun y4 =>
if y4 = (0 : Int32) then (
some (0 : Int32)) else
some (1 : Int32)
-- HeaderSpaceNetwork$Flow.leastLinks
def rmX2_leastLinks : Room := { frames := 4, cells := 0, slots := 0, locals := 100 }
def fX2_leastLinks_B15 (a0 : Nat) (x3 : Int32)  (k : Int32 → UH → Option (UH ⊕ (Int32 × UH))) (x4 : Int32) (u : UH) : Option (UH ⊕ (Int32 × UH)) :=
if (768 : Int32) < x4 then (
some (Sum.inl u)) else
ob (rR u 2 1 a0) fun b3 =>
ob (ldJ u b3 x3) fun y4 =>
if y4 = (0 : Int64) then (
ob2 (kd u 2 a0 (fX2_goOneLink a0 u)) fun y5 u6 =>
if y5 = (0 : Int32) then (
some (Sum.inr ((-6 : Int32), u6))) else
k (x4 + (1 : Int32)) u6) else
some (Sum.inr (x4, u))
def fX2_leastLinks (a0 : Nat) (x1 : Int32) (x2 : Int32) (x3 : Int32) (u0 : UH) : Option (Int32 × UH) :=
ob (kd u0 2 a0 (fX2_forget a0 u0)) fun u1 =>
ob (kd u1 2 a0 (fX2_enter a0 x1 (jlsl (1 : Int64) x2) u1)) fun u2 =>
oe (it2 (fX2_leastLinks_B15 a0 x3 ) FUEL (0 : Int32) u2) (fun q7 =>
some ((-6 : Int32), q7)) (fun x => some x)
-- HeaderSpaceNetwork.distance
def rmX11_distance : Room := { frames := 5, cells := 0, slots := 0, locals := 124 }
def fX11_distance (a0 : Nat) (x1 : Int32) (x2 : Int32) (x3 : Int32) (u0 : UH) : Option (Int32 × UH) :=
ob (kd u0 11 a0 (fX11_isInjected a0 x1 u0)) fun y1 =>
if y1 = (0 : Int32) then (
some ((-3 : Int32), u0)) else
ob (fX11_isPlace x2 x3 u0) fun y2 =>
if y2 = (0 : Int32) then (
some ((-1 : Int32), u0)) else
ob (rR u0 11 2 a0) fun b3 =>
ob (rI u0 11 10 a0) fun y4 =>
ob (fX11_placeOf x2 x3 u0) fun y5 =>
ob2 (kd u0 2 b3 (fX2_leastLinks b3 y4 x1 y5 u0)) fun y6 u7 =>
some (y6, u7)
-- HeaderSpaceNetwork$RuleList.handler
def rmX7_handler : Room := { frames := 1, cells := 0, slots := 0, locals := 23 }
def fX7_handler_B8 (a0 : Nat) (x1 : Int32) (x3 : Int32) (x4 : Int64) (u0 : UH) (k : Int32 → Option (Unit ⊕ Int32)) (x6 : Int32)  : Option (Unit ⊕ Int32) :=
ob (rI u0 7 1 a0) fun y2 =>
if y2 ≤ x6 then (
some (Sum.inl ())) else
if (jsr x3 x6) &&& (1 : Int32) = (0 : Int32) then (
ob (rR u0 7 0 a0) fun b3 =>
ob (ldR u0 25 b3 x6) fun b4 =>
ob (kd u0 6 b4 (fX6_taken b4 x1 x4 u0)) fun y5 =>
if y5 = (0 : Int64) then (
k (x6 + (1 : Int32))) else
some (Sum.inr x6)) else
k (x6 + (1 : Int32))
def fX7_handler (a0 : Nat) (x1 : Int32) (x2 : Int32) (x3 : Int32) (u0 : UH) : Option Int32 :=
lt (jlsl (1 : Int64) x2) fun y1 =>
oe (it1 (fX7_handler_B8 a0 x1 x3 y1 u0) FUEL (0 : Int32)) (fun _ =>
some (-1 : Int32)) (fun x => some x)
-- HeaderSpaceNetwork$Rule.lowestOutput
def rmX6_lowestOutput : Room := { frames := 1, cells := 0, slots := 0, locals := 21 }
def fX6_lowestOutput_B2 (a0 : Nat) (u0 : UH) (k : Int32 → Option (Unit ⊕ Int32)) (x1 : Int32)  : Option (Unit ⊕ Int32) :=
if (4 : Int32) ≤ x1 then (
some (Sum.inl ())) else
ob (rI u0 6 3 a0) fun y1 =>
ob (fX11_hasPort y1 x1 u0) fun y2 =>
if y2 = (0 : Int32) then (
k (x1 + (1 : Int32))) else
some (Sum.inr x1)
def fX6_lowestOutput (a0 : Nat) (u0 : UH) : Option Int32 :=
oe (it1 (fX6_lowestOutput_B2 a0 u0) FUEL (0 : Int32)) (fun _ =>
some (-1 : Int32)) (fun x => some x)
-- HeaderSpaceNetwork$Rule.rewritten
def rmX6_rewritten : Room := { frames := 0, cells := 0, slots := 0, locals := 0 }
def fX6_rewritten (a0 : Nat) (x1 : Int32) (u0 : UH) : Option Int32 :=
ob (rI u0 6 4 a0) fun y1 =>
ob (rI u0 6 5 a0) fun y2 =>
some ((x1 &&& (y1 ^^^ (-1 : Int32))) ||| y2)
-- HeaderSpaceNetwork$Walk.goOnce
def rmX10_goOnce : Room := { frames := 2, cells := 0, slots := 0, locals := 49 }
def fX10_goOnce (a0 : Nat) (u0 : UH) : Option UH :=
ob (rI u0 10 2 a0) fun y1 =>
lt (y1 / (4 : Int32)) fun y2 =>
ob (rR u0 10 0 a0) fun b3 =>
ob (rR u0 4 3 b3) fun b4 =>
ob (ldR u0 26 b4 y2) fun b5 =>
ob (rI u0 10 2 a0) fun y6 =>
ob (rI u0 10 3 a0) fun y7 =>
ob (kd u0 7 b5 (fX7_handler b5 (jrem y6 (4 : Int32)) y7 (0 : Int32) u0)) fun y8 =>
if y8 = (-1 : Int32) then (
ob (wI u0 10 4 a0 (2 : Int32)) fun u33 =>
some u33) else
ob (rR u0 7 0 b5) fun b9 =>
ob (ldR u0 25 b9 y8) fun b10 =>
ob (kd u0 6 b10 (fX6_lowestOutput b10 u0)) fun y11 =>
if y11 = (-1 : Int32) then (
ob (wI u0 10 4 a0 (1 : Int32)) fun u32 =>
some u32) else
ob (rR u0 10 0 a0) fun b12 =>
ob (rR u0 4 2 b12) fun b13 =>
ob (fX11_placeOf y2 y11 u0) fun y14 =>
ob (ldI u0 20 b13 y14) fun y15 =>
if y15 = (-1 : Int32) then (
ob (wI u0 10 4 a0 (0 : Int32)) fun u31 =>
some u31) else
ob (rR u0 10 1 a0) fun b16 =>
ob (ldJ u0 b16 y15) fun y17 =>
ob (rI u0 10 3 a0) fun y18 =>
ob (kd u0 6 b10 (fX6_rewritten b10 y18 u0)) fun y19 =>
ob (fX11_hasHeader y17 y19 u0) fun y20 =>
if y20 = (0 : Int32) then (
ob (rI u0 10 3 a0) fun y21 =>
ob (kd u0 6 b10 (fX6_rewritten b10 y21 u0)) fun y22 =>
ob (wI u0 10 3 a0 y22) fun u23 =>
ob (wI u23 10 2 a0 y15) fun u24 =>
ob (rR u24 10 1 a0) fun b25 =>
ob (rI u24 10 2 a0) fun y26 =>
ob (ldJ u24 b25 y26) fun y27 =>
ob (rI u24 10 3 a0) fun y28 =>
ob (stJ u24 b25 y26 (y27 ||| (jlsl (1 : Int64) y28))) fun u29 =>
some u29) else
ob (wI u0 10 4 a0 (3 : Int32)) fun u30 =>
some u30
-- HeaderSpaceNetwork$Walk.go
def rmX10_go : Room := { frames := 3, cells := 0, slots := 0, locals := 75 }
def fX10_go_B35 (a0 : Nat) (x3 : Int32)  (k : Int32 → UH → Option (UH ⊕ (Int32 × UH))) (x4 : Int32) (u : UH) : Option (UH ⊕ (Int32 × UH)) :=
if x3 ≤ x4 then (
some (Sum.inl u)) else
ob (kd u 10 a0 (fX10_goOnce a0 u)) fun u8 =>
ob (rI u8 10 4 a0) fun y9 =>
if y9 = (4 : Int32) then (
k (x4 + (1 : Int32)) u8) else
some (Sum.inr (x4, u8))
def fX10_go (a0 : Nat) (x1 : Int32) (x2 : Int32) (x3 : Int32) (u0 : UH) : Option (Int32 × UH) :=
ob (rR u0 10 1 a0) fun b1 =>
ob (fJ7_fill_d0a16 b1 (0 : Int64) u0) fun u2 =>
ob (wI u2 10 2 a0 x1) fun u3 =>
ob (wI u3 10 3 a0 x2) fun u4 =>
ob (rR u4 10 1 a0) fun b5 =>
ob (stJ u4 b5 x1 (jlsl (1 : Int64) x2)) fun u6 =>
ob (wI u6 10 4 a0 (4 : Int32)) fun u7 =>
oe (it2 (fX10_go_B35 a0 x3 ) FUEL (0 : Int32) u7) (fun q10 =>
some (x3, q10)) (fun x => some x)
-- HeaderSpaceNetwork.trace
def rmX11_trace : Room := { frames := 4, cells := 0, slots := 0, locals := 99 }
def fX11_trace (a0 : Nat) (x1 : Int32) (x2 : Int32) (u0 : UH) : Option (Int32 × UH) :=
ob (kd u0 11 a0 (fX11_isInjected a0 x1 u0)) fun y1 =>
if y1 = (0 : Int32) then (
some ((-3 : Int32), u0)) else
if (0 : Int32) ≤ x2 then (
ob (rR u0 11 4 a0) fun b2 =>
ob (rI u0 11 10 a0) fun y3 =>
ob2 (kd u0 10 b2 (fX10_go b2 y3 x1 (jmin x2 (768 : Int32)) u0)) fun y4 u5 =>
if x2 ≤ y4 then (
ob (rR u5 11 4 a0) fun b6 =>
ob (rI u5 10 2 b6) fun y7 =>
ob (rR u5 11 4 a0) fun b8 =>
ob (rI u5 10 2 b8) fun y9 =>
ob (rR u5 11 4 a0) fun b10 =>
ob (rI u5 10 3 b10) fun y11 =>
some ((((1000 : Int32) * (y7 / (4 : Int32))) + ((100 : Int32) * (jrem y9 (4 : Int32)))) + y11, u5)) else
some ((-6 : Int32), u5)) else
some ((-3 : Int32), u0)
-- HeaderSpaceNetwork.traceEnd
def rmX11_traceEnd : Room := { frames := 4, cells := 0, slots := 0, locals := 99 }
def fX11_traceEnd (a0 : Nat) (x1 : Int32) (u0 : UH) : Option (Int32 × UH) :=
ob (kd u0 11 a0 (fX11_isInjected a0 x1 u0)) fun y1 =>
if y1 = (0 : Int32) then (
some ((-3 : Int32), u0)) else
ob (rR u0 11 4 a0) fun b2 =>
ob (rI u0 11 10 a0) fun y3 =>
ob2 (kd u0 10 b2 (fX10_go b2 y3 x1 (768 : Int32) u0)) fun y4 u5 =>
ob (rR u5 11 4 a0) fun b6 =>
ob (rI u5 10 4 b6) fun y7 =>
some (y7, u5)
-- HeaderSpaceNetwork$Fates.endingBehindAll
def rmX1_endingBehindAll : Room := { frames := 1, cells := 0, slots := 0, locals := 21 }
def fX1_endingBehindAll_B11 (a0 : Nat) (x1 : Int32) (x2 : Int32) (u0 : UH) (k : Int64 → Int32 → Option Int64) (x3 : Int64) (x5 : Int32)  : Option Int64 :=
if (4 : Int32) ≤ x5 then (
some x3) else
ob (rR u0 1 0 a0) fun b3 =>
ob (rR u0 4 2 b3) fun b4 =>
ob (fX11_placeOf x1 x5 u0) fun y5 =>
ob (ldI u0 20 b4 y5) fun y6 =>
ob (fX11_hasPort x2 x5 u0) fun y7 =>
if y7 = (0 : Int32) then (
k x3 (x5 + (1 : Int32))) else
if y6 = (-1 : Int32) then (
k x3 (x5 + (1 : Int32))) else
ob (rR u0 1 1 a0) fun b8 =>
ob (ldJ u0 b8 y6) fun y9 =>
lt (x3 &&& y9) fun y10 =>
k y10 (x5 + (1 : Int32))
def fX1_endingBehindAll (a0 : Nat) (x1 : Int32) (x2 : Int32) (u0 : UH) : Option Int64 :=
ob (rR u0 1 0 a0) fun b1 =>
ob (kd u0 4 b1 (fX4_allHeaders b1 u0)) fun y2 =>
ob (it2 (fX1_endingBehindAll_B11 a0 x1 x2 u0) FUEL y2 (0 : Int32)) fun q11 =>
some q11
-- HeaderSpaceNetwork$Rule.leadingInto
def rmX6_leadingInto : Room := { frames := 0, cells := 0, slots := 0, locals := 0 }
def fX6_leadingInto_B5 (a0 : Nat) (u0 : UH) (k : Int64 → Int32 → Option Int64) (x3 : Int64) (x5 : Int32)  : Option Int64 :=
if (5 : Int32) ≤ x5 then (
some x3) else
ob (rI u0 6 4 a0) fun y1 =>
if (jsr y1 x5) &&& (1 : Int32) = (0 : Int32) then (
k x3 (x5 + (1 : Int32))) else
ob (rWB x5) fun y2 =>
lt (x3 &&& y2) fun y3 =>
ob (rWB x5) fun y4 =>
lt (x3 &&& (y4 ^^^ (-1 : Int64))) fun y5 =>
lt (jsl (1 : Int32) x5) fun y6 =>
ob (rI u0 6 5 a0) fun y7 =>
if (jsr y7 x5) &&& (1 : Int32) = (0 : Int32) then (
lt (y5 ||| (jlsl y5 y6)) fun y8 =>
k y8 (x5 + (1 : Int32))) else
lt (y3 ||| (jlur y3 y6)) fun y9 =>
k y9 (x5 + (1 : Int32))
def fX6_leadingInto (a0 : Nat) (x1 : Int64) (u0 : UH) : Option Int64 :=
ob (it2 (fX6_leadingInto_B5 a0 u0) FUEL x1 (0 : Int32)) fun q10 =>
some q10
-- HeaderSpaceNetwork$Fates.ending
def rmX1_ending : Room := { frames := 2, cells := 0, slots := 0, locals := 47 }
def fX1_ending_B29 (a0 : Nat) (x1 : Int32) (x2 : Int32) (a3 : Nat) (u0 : UH) (k : Int64 → Int64 → Int32 → Option (Int64 × Int64)) (x4 : Int64) (x6 : Int64) (x8 : Int32)  : Option (Int64 × Int64) :=
ob (rI u0 7 1 a3) fun y7 =>
if y7 ≤ x8 then (
some (x4, x6)) else
ob (rR u0 7 0 a3) fun b8 =>
ob (ldR u0 25 b8 x8) fun b9 =>
ob (kd u0 6 b9 (fX6_taken b9 (jrem x1 (4 : Int32)) x4 u0)) fun y10 =>
lt (x4 &&& (y10 ^^^ (-1 : Int64))) fun y11 =>
ob (rI u0 6 3 b9) fun y12 =>
ob (kd u0 1 a0 (fX1_endingBehindAll a0 x2 y12 u0)) fun y13 =>
ob (kd u0 6 b9 (fX6_leadingInto b9 y13 u0)) fun y14 =>
lt (x6 ||| (y10 &&& y14)) fun y15 =>
k y11 y15 (x8 + (1 : Int32))
def fX1_ending (a0 : Nat) (x1 : Int32) (u0 : UH) : Option Int64 :=
lt (x1 / (4 : Int32)) fun y1 =>
ob (rR u0 1 0 a0) fun b2 =>
ob (rR u0 4 3 b2) fun b3 =>
ob (ldR u0 26 b3 y1) fun b4 =>
ob (rR u0 1 0 a0) fun b5 =>
ob (kd u0 4 b5 (fX4_allHeaders b5 u0)) fun y6 =>
ob (it3 (fX1_ending_B29 a0 x1 y1 b4 u0) FUEL y6 (0 : Int64) (0 : Int32)) fun q16 =>
some (q16.2 ||| q16.1)
-- HeaderSpaceNetwork$Fates.deliveredBehindOne
def rmX1_deliveredBehindOne : Room := { frames := 1, cells := 0, slots := 0, locals := 21 }
def fX1_deliveredBehindOne_B6 (a0 : Nat) (x1 : Int32) (x2 : Int32) (x3 : Int32) (u0 : UH) (k : Int64 → Int32 → Option Int64) (x4 : Int64) (x6 : Int32)  : Option Int64 :=
if (4 : Int32) ≤ x6 then (
some x4) else
ob (fX11_hasPort x2 x6 u0) fun y1 =>
if y1 = (0 : Int32) then (
k x4 (x6 + (1 : Int32))) else
ob (rR u0 1 0 a0) fun b2 =>
ob (rR u0 4 2 b2) fun b3 =>
ob (fX11_placeOf x1 x6 u0) fun y4 =>
ob (ldI u0 20 b3 y4) fun y5 =>
if y5 = (-1 : Int32) then (
ob (fX11_placeOf x1 x6 u0) fun y6 =>
if y6 = x3 then (
ob (rR u0 1 0 a0) fun b7 =>
ob (kd u0 4 b7 (fX4_allHeaders b7 u0)) fun y8 =>
k y8 (x6 + (1 : Int32))) else
k x4 (x6 + (1 : Int32))) else
ob (rR u0 1 1 a0) fun b9 =>
ob (ldJ u0 b9 y5) fun y10 =>
lt (x4 ||| y10) fun y11 =>
k y11 (x6 + (1 : Int32))
def fX1_deliveredBehindOne (a0 : Nat) (x1 : Int32) (x2 : Int32) (x3 : Int32) (u0 : UH) : Option Int64 :=
ob (it2 (fX1_deliveredBehindOne_B6 a0 x1 x2 x3 u0) FUEL (0 : Int64) (0 : Int32)) fun q12 =>
some q12
-- HeaderSpaceNetwork$Fates.delivering
def rmX1_delivering : Room := { frames := 2, cells := 0, slots := 0, locals := 48 }
def fX1_delivering_B30 (a0 : Nat) (x1 : Int32) (x2 : Int32) (x3 : Int32) (a4 : Nat) (u0 : UH) (k : Int64 → Int64 → Int32 → Option Int64) (x5 : Int64) (x7 : Int64) (x9 : Int32)  : Option Int64 :=
ob (rI u0 7 1 a4) fun y7 =>
if y7 ≤ x9 then (
some x7) else
ob (rR u0 7 0 a4) fun b8 =>
ob (ldR u0 25 b8 x9) fun b9 =>
ob (kd u0 6 b9 (fX6_taken b9 (jrem x1 (4 : Int32)) x5 u0)) fun y10 =>
lt (x5 &&& (y10 ^^^ (-1 : Int64))) fun y11 =>
ob (rI u0 6 3 b9) fun y12 =>
ob (kd u0 1 a0 (fX1_deliveredBehindOne a0 x3 y12 x2 u0)) fun y13 =>
ob (kd u0 6 b9 (fX6_leadingInto b9 y13 u0)) fun y14 =>
lt (x7 ||| (y10 &&& y14)) fun y15 =>
k y11 y15 (x9 + (1 : Int32))
def fX1_delivering (a0 : Nat) (x1 : Int32) (x2 : Int32) (u0 : UH) : Option Int64 :=
lt (x1 / (4 : Int32)) fun y1 =>
ob (rR u0 1 0 a0) fun b2 =>
ob (rR u0 4 3 b2) fun b3 =>
ob (ldR u0 26 b3 y1) fun b4 =>
ob (rR u0 1 0 a0) fun b5 =>
ob (kd u0 4 b5 (fX4_allHeaders b5 u0)) fun y6 =>
ob (it3 (fX1_delivering_B30 a0 x1 x2 y1 b4 u0) FUEL y6 (0 : Int64) (0 : Int32)) fun q16 =>
some q16
-- HeaderSpaceNetwork$Fates.growOnce
def rmX1_growOnce : Room := { frames := 3, cells := 0, slots := 0, locals := 80 }
def fX1_growOnce_29 (k : Int32 → Int32 → UH → Option (Int32 × UH)) (a0 : Nat) (x1 : Int32) (x2 : Int32) (x3 : Int32) (s0 : Int64) (u : UH) : Option (Int32 × UH) :=
if x2 = (0 : Int32) then (
ob (rR u 1 1 a0) fun b4 =>
ob (ldJ u b4 x3) fun y5 =>
if s0 = y5 then (
ob (rR u 1 1 a0) fun b6 =>
ob (stJ u b6 x3 s0) fun u7 =>
k (0 : Int32) (x3 + (1 : Int32)) u7) else
ob (rR u 1 1 a0) fun b8 =>
ob (stJ u b8 x3 s0) fun u9 =>
k (1 : Int32) (x3 + (1 : Int32)) u9) else
ob (rR u 1 1 a0) fun b2 =>
ob (stJ u b2 x3 s0) fun u3 =>
k (1 : Int32) (x3 + (1 : Int32)) u3
def fX1_growOnce_B4 (a0 : Nat) (x1 : Int32)  (k : Int32 → Int32 → UH → Option (Int32 × UH)) (x2 : Int32) (x3 : Int32) (u : UH) : Option (Int32 × UH) :=
if (24 : Int32) ≤ x3 then (
some (x2, u)) else
if x1 = (-1 : Int32) then (
ob (kd u 1 a0 (fX1_ending a0 x3 u)) fun y10 =>
fX1_growOnce_29 k a0 x1 x2 x3 y10 u) else
ob (kd u 1 a0 (fX1_delivering a0 x3 x1 u)) fun y1 =>
fX1_growOnce_29 k a0 x1 x2 x3 y1 u
def fX1_growOnce (a0 : Nat) (x1 : Int32) (u0 : UH) : Option (Int32 × UH) :=
ob (it3 (fX1_growOnce_B4 a0 x1 ) FUEL (0 : Int32) (0 : Int32) u0) fun q11 =>
bz q11.1 (some (q11.1, q11.2))
-- HeaderSpaceNetwork$Fates.find
def rmX1_find : Room := { frames := 4, cells := 0, slots := 0, locals := 105 }
def fX1_find_B12 (a0 : Nat) (x1 : Int32)  (k : Int32 → Int32 → UH → Option UH) (x2 : Int32) (x3 : Int32) (u : UH) : Option UH :=
if x2 = (0 : Int32) then (
some u) else
if (768 : Int32) < x3 then (
some u) else
ob2 (kd u 1 a0 (fX1_growOnce a0 x1 u)) fun y3 u4 =>
k y3 (x3 + (1 : Int32)) u4
def fX1_find (a0 : Nat) (x1 : Int32) (u0 : UH) : Option UH :=
ob (rR u0 1 1 a0) fun b1 =>
ob (fJ7_fill_d0a16 b1 (0 : Int64) u0) fun u2 =>
ob (it3 (fX1_find_B12 a0 x1 ) FUEL (1 : Int32) (0 : Int32) u2) fun q5 =>
some q5
-- HeaderSpaceNetwork.loops
def rmX11_loops : Room := { frames := 5, cells := 0, slots := 0, locals := 128 }
def fX11_loops (a0 : Nat) (u0 : UH) : Option (Int64 × UH) :=
ob (rR u0 11 3 a0) fun b1 =>
ob (kd u0 1 b1 (fX1_find b1 (-1 : Int32) u0)) fun u2 =>
ob (rJ u2 11 11 a0) fun y3 =>
ob (rR u2 11 3 a0) fun b4 =>
ob (rR u2 1 1 b4) fun b5 =>
ob (rI u2 11 10 a0) fun y6 =>
ob (ldJ u2 b5 y6) fun y7 =>
some (y3 &&& (y7 ^^^ (-1 : Int64)), u2)
-- HeaderSpaceNetwork$Cuts.enqueue
def rmX0_enqueue : Room := { frames := 1, cells := 0, slots := 0, locals := 22 }
def fX0_enqueue (a0 : Nat) (x1 : Int32) (x2 : Int32) (x3 : Int64) (u0 : UH) : Option UH :=
ob (rR u0 0 6 a0) fun b1 =>
ob (ldJ u0 b1 x1) fun y2 =>
ob (fX11_hasHeader y2 x2 u0) fun y3 =>
if y3 = (0 : Int32) then (
ob (rI u0 0 7 a0) fun y4 =>
if (768 : Int32) ≤ y4 then (
some u0) else
ob (rR u0 0 6 a0) fun b5 =>
ob (ldJ u0 b5 x1) fun y6 =>
ob (stJ u0 b5 x1 (y6 ||| (jlsl (1 : Int64) x2))) fun u7 =>
ob (rR u7 0 4 a0) fun b8 =>
ob (rI u7 0 7 a0) fun y9 =>
ob (stI u7 b8 y9 ((x1 * (32 : Int32)) + x2)) fun u10 =>
ob (rR u10 0 5 a0) fun b11 =>
ob (rI u10 0 7 a0) fun y12 =>
ob (stJ u10 b11 y12 x3) fun u13 =>
ob (rI u13 0 7 a0) fun y14 =>
ob (wI u13 0 7 a0 (y14 + (1 : Int32))) fun u15 =>
some u15) else
some u0
-- HeaderSpaceNetwork$Cuts.handlingSlot
def rmX0_handlingSlot : Room := { frames := 2, cells := 0, slots := 0, locals := 49 }
def fX0_handlingSlot (a0 : Nat) (x1 : Int32) (x2 : Int64) (u0 : UH) : Option Int32 :=
ob (rR u0 0 4 a0) fun b1 =>
ob (ldI u0 20 b1 x1) fun y2 =>
lt (y2 / (32 : Int32)) fun y3 =>
lt ((y3 / (4 : Int32)) * (6 : Int32)) fun y4 =>
lt ((jlur x2 y4).toInt32) fun y5 =>
ob (rR u0 0 0 a0) fun b6 =>
ob (rR u0 4 3 b6) fun b7 =>
ob (ldR u0 26 b7 (y3 / (4 : Int32))) fun b8 =>
ob (rR u0 0 4 a0) fun b9 =>
ob (ldI u0 20 b9 x1) fun y10 =>
ob (kd u0 7 b8 (fX7_handler b8 (jrem y3 (4 : Int32)) (jrem y10 (32 : Int32)) y5 u0)) fun y11 =>
if y11 = (-1 : Int32) then (
some (-1 : Int32)) else
some (y4 + y11)
-- HeaderSpaceNetwork$Cuts.reachesTarget
def rmX0_reachesTarget : Room := { frames := 2, cells := 0, slots := 0, locals := 46 }
def fX0_reachesTarget_B55 (a0 : Nat) (x3 : Int32) (a4 : Nat) (x5 : Int32) (x6 : Int64)  (k : Int32 → UH → Option (UH ⊕ (Int32 × UH))) (x8 : Int32) (u : UH) : Option (UH ⊕ (Int32 × UH)) :=
if (4 : Int32) ≤ x8 then (
some (Sum.inl u)) else
ob (rI u 6 3 a4) fun y13 =>
ob (fX11_hasPort y13 x8 u) fun y14 =>
if y14 = (0 : Int32) then (
k (x8 + (1 : Int32)) u) else
ob (rR u 0 0 a0) fun b15 =>
ob (rR u 4 2 b15) fun b16 =>
ob (fX11_placeOf x3 x8 u) fun y17 =>
ob (ldI u 20 b16 y17) fun y18 =>
if y18 = (-1 : Int32) then (
ob (fX11_placeOf x3 x8 u) fun y19 =>
ob (rI u 0 10 a0) fun y20 =>
if y19 = y20 then (
some (Sum.inr ((1 : Int32), u))) else
k (x8 + (1 : Int32)) u) else
ob (kd u 0 a0 (fX0_enqueue a0 y18 x5 x6 u)) fun u21 =>
k (x8 + (1 : Int32)) u21
def fX0_reachesTarget (a0 : Nat) (x1 : Int32) (x2 : Int32) (u0 : UH) : Option (Int32 × UH) :=
lt (x2 / (6 : Int32)) fun y1 =>
ob (rR u0 0 0 a0) fun b2 =>
ob (rR u0 4 3 b2) fun b3 =>
ob (ldR u0 26 b3 y1) fun b4 =>
ob (rR u0 7 0 b4) fun b5 =>
ob (ldR u0 25 b5 (jrem x2 (6 : Int32))) fun b6 =>
ob (rR u0 0 4 a0) fun b7 =>
ob (ldI u0 20 b7 x1) fun y8 =>
ob (kd u0 6 b6 (fX6_rewritten b6 (jrem y8 (32 : Int32)) u0)) fun y9 =>
ob (rR u0 0 5 a0) fun b10 =>
ob (ldJ u0 b10 x1) fun y11 =>
lt (y11 ||| (jlsl (1 : Int64) x2)) fun y12 =>
oe (it2 (fX0_reachesTarget_B55 a0 y1 b6 y9 y12 ) FUEL (0 : Int32) u0) (fun q22 =>
some ((0 : Int32), q22)) (fun x => some x)
-- HeaderSpaceNetwork$Cuts.openWay
def rmX0_openWay : Room := { frames := 3, cells := 0, slots := 0, locals := 77 }
def fX0_openWay_B15 (a0 : Nat)  (k : Int32 → UH → Option UH) (x3 : Int32) (u : UH) : Option UH :=
if (32 : Int32) ≤ x3 then (
some u) else
ob (rJ u 0 9 a0) fun y4 =>
ob (fX11_hasHeader y4 x3 u) fun y5 =>
if y5 = (0 : Int32) then (
k (x3 + (1 : Int32)) u) else
ob (rI u 0 8 a0) fun y6 =>
ob (kd u 0 a0 (fX0_enqueue a0 y6 x3 (0 : Int64) u)) fun u7 =>
k (x3 + (1 : Int32)) u7
def fX0_openWay_B50 (a0 : Nat) (x1 : Int64)  (k : Int32 → UH → Option (UH ⊕ (Int64 × UH))) (x3 : Int32) (u : UH) : Option (UH ⊕ (Int64 × UH)) :=
ob (rI u 0 7 a0) fun y10 =>
if y10 ≤ x3 then (
some (Sum.inl u)) else
if (768 : Int32) ≤ x3 then (
some (Sum.inl u)) else
ob (kd u 0 a0 (fX0_handlingSlot a0 x3 x1 u)) fun y11 =>
if y11 = (-1 : Int32) then (
k (x3 + (1 : Int32)) u) else
ob2 (kd u 0 a0 (fX0_reachesTarget a0 x3 y11 u)) fun y12 u13 =>
if y12 = (0 : Int32) then (
k (x3 + (1 : Int32)) u13) else
ob (rR u13 0 5 a0) fun b14 =>
ob (ldJ u13 b14 x3) fun y15 =>
some (Sum.inr (y15 ||| (jlsl (1 : Int64) y11), u13))
def fX0_openWay (a0 : Nat) (x1 : Int64) (u0 : UH) : Option (Int64 × UH) :=
ob (rR u0 0 6 a0) fun b1 =>
ob (fJ7_fill_d0a16 b1 (0 : Int64) u0) fun u2 =>
ob (wI u2 0 7 a0 (0 : Int32)) fun u3 =>
ob (it2 (fX0_openWay_B15 a0 ) FUEL (0 : Int32) u3) fun q8 =>
oe (it2 (fX0_openWay_B50 a0 x1 ) FUEL (0 : Int32) q8) (fun q16 =>
some ((0 : Int64), q16)) (fun x => some x)
-- HeaderSpaceNetwork$Cuts.isOn
def rmX0_isOn : Room := { frames := 0, cells := 0, slots := 0, locals := 0 }
def fX0_isOn (x0 : Int64) (x2 : Int32) (u0 : UH) : Option Int32 :=
if (jlur x0 x2) &&& (1 : Int64) = (0 : Int64) then (
some (0 : Int32)) else
some (1 : Int32)
-- HeaderSpaceNetwork$Cuts.cutByOne
def rmX0_cutByOne : Room := { frames := 4, cells := 0, slots := 0, locals := 101 }
def fX0_cutByOne_32 (k : Int32 → UH → Option (UH ⊕ (Int32 × UH))) (a0 : Nat) (x1 : Int64) (x3 : Int32) (s0 : Int64) (s1 : Int32) (s2 : Nat) (u : UH) : Option (UH ⊕ (Int32 × UH)) :=
ob (stJ u s2 s1 s0) fun u3 =>
ob (rR u3 0 2 a0) fun b4 =>
ob (ldJ u3 b4 x3) fun y5 =>
if y5 = (0 : Int64) then (
ob (rR u3 0 1 a0) fun b6 =>
ob (stI u3 b6 (0 : Int32) x3) fun u7 =>
some (Sum.inr ((1 : Int32), u7))) else
k (x3 + (1 : Int32)) u3
def fX0_cutByOne_B2 (a0 : Nat) (x1 : Int64)  (k : Int32 → UH → Option (UH ⊕ (Int32 × UH))) (x3 : Int32) (u : UH) : Option (UH ⊕ (Int32 × UH)) :=
if (36 : Int32) ≤ x3 then (
some (Sum.inl u)) else
ob (rR u 0 2 a0) fun b1 =>
ob (fX0_isOn x1 x3 u) fun y2 =>
if y2 = (0 : Int32) then (
fX0_cutByOne_32 k a0 x1 x3 x1 x3 b1 u) else
ob2 (kd u 0 a0 (fX0_openWay a0 (jlsl (1 : Int64) x3) u)) fun y8 u9 =>
fX0_cutByOne_32 k a0 x1 x3 y8 x3 b1 u9
def fX0_cutByOne (a0 : Nat) (x1 : Int64) (u0 : UH) : Option (Int32 × UH) :=
oe (it2 (fX0_cutByOne_B2 a0 x1 ) FUEL (0 : Int32) u0) (fun q10 =>
some ((0 : Int32), q10)) (fun x => some x)
-- HeaderSpaceNetwork$Cuts.knownWay
def rmX0_knownWay : Room := { frames := 1, cells := 0, slots := 0, locals := 22 }
def fX0_knownWay (a0 : Nat) (x1 : Int32) (x2 : Int32) (u0 : UH) : Option Int64 :=
ob (rR u0 0 2 a0) fun b1 =>
ob (ldJ u0 b1 x1) fun y2 =>
ob (fX0_isOn y2 x2 u0) fun y3 =>
if y3 = (0 : Int32) then (
ob (rR u0 0 2 a0) fun b9 =>
ob (ldJ u0 b9 x1) fun y10 =>
some y10) else
ob (rR u0 0 2 a0) fun b4 =>
ob (ldJ u0 b4 x2) fun y5 =>
ob (fX0_isOn y5 x1 u0) fun y6 =>
if y6 = (0 : Int32) then (
ob (rR u0 0 2 a0) fun b7 =>
ob (ldJ u0 b7 x2) fun y8 =>
some y8) else
some (0 : Int64)
-- HeaderSpaceNetwork$Cuts.cutByTwo
def rmX0_cutByTwo : Room := { frames := 4, cells := 0, slots := 0, locals := 101 }
def fX0_cutByTwo_43 (k : Int32 → UH → Option (UH ⊕ (Int32 × UH))) (a0 : Nat) (x1 : Int32) (x2 : Int32) (x3 : Int64) (u : UH) : Option (UH ⊕ (Int32 × UH)) :=
if x3 = (0 : Int64) then (
ob (rR u 0 1 a0) fun b5 =>
ob (stI u b5 (0 : Int32) x1) fun u6 =>
ob (rR u6 0 1 a0) fun b7 =>
ob (stI u6 b7 (1 : Int32) x2) fun u8 =>
some (Sum.inr ((1 : Int32), u8))) else
ob (rR u 0 3 a0) fun b3 =>
ob (stJ u b3 ((x1 * (36 : Int32)) + x2) x3) fun u4 =>
k (x2 + (1 : Int32)) u4
def fX0_cutByTwo_B12 (a0 : Nat) (x1 : Int32)  (k : Int32 → UH → Option (UH ⊕ (Int32 × UH))) (x2 : Int32) (u : UH) : Option (UH ⊕ (Int32 × UH)) :=
if (36 : Int32) ≤ x2 then (
some (Sum.inl u)) else
ob (kd u 0 a0 (fX0_knownWay a0 x1 x2 u)) fun y2 =>
if y2 = (0 : Int64) then (
ob2 (kd u 0 a0 (fX0_openWay a0 ((jlsl (1 : Int64) x1) ||| (jlsl (1 : Int64) x2)) u)) fun y9 u10 =>
fX0_cutByTwo_43 k a0 x1 x2 y9 u10) else
fX0_cutByTwo_43 k a0 x1 x2 y2 u
def fX0_cutByTwo_B2 (a0 : Nat)  (k : Int32 → UH → Option (UH ⊕ (Int32 × UH))) (x1 : Int32) (u : UH) : Option (UH ⊕ (Int32 × UH)) :=
if (36 : Int32) ≤ x1 then (
some (Sum.inl u)) else
lt (x1 + (1 : Int32)) fun y1 =>
oe (it2 (fX0_cutByTwo_B12 a0 x1 ) FUEL y1 u) (fun q11 =>
k (x1 + (1 : Int32)) q11) (fun x => some (Sum.inr x))
def fX0_cutByTwo (a0 : Nat) (u0 : UH) : Option (Int32 × UH) :=
oe (it2 (fX0_cutByTwo_B2 a0 ) FUEL (0 : Int32) u0) (fun q13 =>
some ((0 : Int32), q13)) (fun x => some x)
-- HeaderSpaceNetwork$Cuts.isWorthTrying
def rmX0_isWorthTrying : Room := { frames := 1, cells := 0, slots := 0, locals := 22 }
def fX0_isWorthTrying (a0 : Nat) (x1 : Int32) (x2 : Int32) (x3 : Int32) (u0 : UH) : Option Int32 :=
ob (rR u0 0 3 a0) fun b1 =>
ob (ldJ u0 b1 ((x1 * (36 : Int32)) + x2)) fun y2 =>
ob (fX0_isOn y2 x3 u0) fun y3 =>
if y3 = (0 : Int32) then (
some (0 : Int32)) else
ob (rR u0 0 3 a0) fun b4 =>
ob (ldJ u0 b4 ((x1 * (36 : Int32)) + x3)) fun y5 =>
ob (fX0_isOn y5 x2 u0) fun y6 =>
if y6 = (0 : Int32) then (
some (0 : Int32)) else
ob (rR u0 0 3 a0) fun b7 =>
ob (ldJ u0 b7 ((x2 * (36 : Int32)) + x3)) fun y8 =>
ob (fX0_isOn y8 x1 u0) fun y9 =>
if y9 = (0 : Int32) then (
some (0 : Int32)) else
some (1 : Int32)
-- HeaderSpaceNetwork$Cuts.cutByThree
def rmX0_cutByThree : Room := { frames := 4, cells := 0, slots := 0, locals := 101 }
def fX0_cutByThree_B35 (a0 : Nat) (x1 : Int32) (x2 : Int32) (x3 : Int64)  (k : Int32 → UH → Option (UH ⊕ (Int32 × UH))) (x5 : Int32) (u : UH) : Option (UH ⊕ (Int32 × UH)) :=
if (36 : Int32) ≤ x5 then (
some (Sum.inl u)) else
if jlur x3 x5 = (0 : Int64) then (
some (Sum.inl u)) else
ob (kd u 0 a0 (fX0_isWorthTrying a0 x1 x2 x5 u)) fun y5 =>
if y5 = (0 : Int32) then (
k (x5 + (1 : Int32)) u) else
ob2 (kd u 0 a0 (fX0_openWay a0 (((jlsl (1 : Int64) x1) ||| (jlsl (1 : Int64) x2)) ||| (jlsl (1 : Int64) x5)) u)) fun y6 u7 =>
if y6 = (0 : Int64) then (
ob (rR u7 0 1 a0) fun b8 =>
ob (stI u7 b8 (0 : Int32) x1) fun u9 =>
ob (rR u9 0 1 a0) fun b10 =>
ob (stI u9 b10 (1 : Int32) x2) fun u11 =>
ob (rR u11 0 1 a0) fun b12 =>
ob (stI u11 b12 (2 : Int32) x5) fun u13 =>
some (Sum.inr ((1 : Int32), u13))) else
k (x5 + (1 : Int32)) u7
def fX0_cutByThree_B12 (a0 : Nat) (x1 : Int32)  (k : Int32 → UH → Option (UH ⊕ (Int32 × UH))) (x2 : Int32) (u : UH) : Option (UH ⊕ (Int32 × UH)) :=
if (36 : Int32) ≤ x2 then (
some (Sum.inl u)) else
ob (rR u 0 3 a0) fun b2 =>
ob (ldJ u b2 ((x1 * (36 : Int32)) + x2)) fun y3 =>
lt (x2 + (1 : Int32)) fun y4 =>
oe (it2 (fX0_cutByThree_B35 a0 x1 x2 y3 ) FUEL y4 u) (fun q14 =>
k (x2 + (1 : Int32)) q14) (fun x => some (Sum.inr x))
def fX0_cutByThree_B2 (a0 : Nat)  (k : Int32 → UH → Option (UH ⊕ (Int32 × UH))) (x1 : Int32) (u : UH) : Option (UH ⊕ (Int32 × UH)) :=
if (36 : Int32) ≤ x1 then (
some (Sum.inl u)) else
lt (x1 + (1 : Int32)) fun y1 =>
oe (it2 (fX0_cutByThree_B12 a0 x1 ) FUEL y1 u) (fun q16 =>
k (x1 + (1 : Int32)) q16) (fun x => some (Sum.inr x))
def fX0_cutByThree (a0 : Nat) (u0 : UH) : Option (Int32 × UH) :=
oe (it2 (fX0_cutByThree_B2 a0 ) FUEL (0 : Int32) u0) (fun q18 =>
some ((0 : Int32), q18)) (fun x => some x)
-- HeaderSpaceNetwork$Cuts.smallest
def rmX0_smallest : Room := { frames := 5, cells := 0, slots := 0, locals := 126 }
def fX0_smallest (a0 : Nat) (x1 : Int32) (x2 : Int64) (x4 : Int32) (u0 : UH) : Option (Int32 × UH) :=
ob (wI u0 0 8 a0 x1) fun u1 =>
ob (wJ u1 0 9 a0 x2) fun u2 =>
ob (wI u2 0 10 a0 x4) fun u3 =>
ob2 (kd u3 0 a0 (fX0_openWay a0 (0 : Int64) u3)) fun y4 u5 =>
if y4 = (0 : Int64) then (
some ((0 : Int32), u5)) else
ob2 (kd u5 0 a0 (fX0_cutByOne a0 y4 u5)) fun y6 u7 =>
if y6 = (0 : Int32) then (
ob2 (kd u7 0 a0 (fX0_cutByTwo a0 u7)) fun y8 u9 =>
if y8 = (0 : Int32) then (
ob2 (kd u9 0 a0 (fX0_cutByThree a0 u9)) fun y10 u11 =>
if y10 = (0 : Int32) then (
some ((-6 : Int32), u11)) else
some ((3 : Int32), u11)) else
some ((2 : Int32), u9)) else
some ((1 : Int32), u7)
-- HeaderSpaceNetwork.cutSize
def rmX11_cutSize : Room := { frames := 6, cells := 0, slots := 0, locals := 152 }
def fX11_cutSize (a0 : Nat) (x1 : Int32) (x2 : Int32) (u0 : UH) : Option (Int32 × UH) :=
ob (fX11_isPlace x1 x2 u0) fun y1 =>
if y1 = (0 : Int32) then (
some ((-1 : Int32), u0)) else
ob (rR u0 11 5 a0) fun b2 =>
ob (rI u0 11 10 a0) fun y3 =>
ob (rJ u0 11 11 a0) fun y4 =>
ob (fX11_placeOf x1 x2 u0) fun y5 =>
ob2 (kd u0 0 b2 (fX0_smallest b2 y3 y4 y5 u0)) fun y6 u7 =>
some (y6, u7)
-- HeaderSpaceNetwork.cutRule
def rmX11_cutRule : Room := { frames := 6, cells := 0, slots := 0, locals := 152 }
def fX11_cutRule (a0 : Nat) (x1 : Int32) (x2 : Int32) (x3 : Int32) (u0 : UH) : Option (Int32 × UH) :=
ob (fX11_isPlace x1 x2 u0) fun y1 =>
if y1 = (0 : Int32) then (
some ((-1 : Int32), u0)) else
if (0 : Int32) ≤ x3 then (
ob (rR u0 11 5 a0) fun b2 =>
ob (rI u0 11 10 a0) fun y3 =>
ob (rJ u0 11 11 a0) fun y4 =>
ob (fX11_placeOf x1 x2 u0) fun y5 =>
ob2 (kd u0 0 b2 (fX0_smallest b2 y3 y4 y5 u0)) fun y6 u7 =>
if y6 ≤ x3 then (
some ((-6 : Int32), u7)) else
if x3 < (3 : Int32) then (
ob (rR u7 11 5 a0) fun b8 =>
ob (rR u7 0 1 b8) fun b9 =>
ob (ldI u7 20 b9 x3) fun y10 =>
some (((10 : Int32) * (y10 / (6 : Int32))) + (jrem y10 (6 : Int32)), u7)) else
some ((-6 : Int32), u7)) else
some ((-3 : Int32), u0)
-- HeaderSpaceNetwork.addPolicy
def rmX11_addPolicy : Room := { frames := 2, cells := 0, slots := 0, locals := 41 }
def fX11_addPolicy (a0 : Nat) (x1 : Int32) (x2 : Int32) (x3 : Int32) (x4 : Int32) (x5 : Int32) (u0 : UH) : Option (Int32 × UH) :=
ob (fX11_isPlace x2 x3 u0) fun y1 =>
if y1 = (0 : Int32) then (
some ((-1 : Int32), u0)) else
ob (fX11_isPlace x4 x5 u0) fun y2 =>
if y2 = (0 : Int32) then (
some ((-1 : Int32), u0)) else
ob (rI u0 11 9 a0) fun y3 =>
if y3 < (8 : Int32) then (
ob (rR u0 11 8 a0) fun b4 =>
ob (rI u0 11 9 a0) fun y5 =>
ob (ldR u0 24 b4 y5) fun b6 =>
ob (wZ u0 5 0 b6 x1) fun u7 =>
ob (fX11_placeOf x2 x3 u7) fun y8 =>
ob (wI u7 5 1 b6 y8) fun u9 =>
ob (fX11_placeOf x4 x5 u9) fun y10 =>
ob (wI u9 5 2 b6 y10) fun u11 =>
ob (rR u11 11 0 a0) fun b12 =>
ob (kd u11 4 b12 (fX4_allHeaders b12 u11)) fun y13 =>
ob (wJ u11 5 3 b6 y13) fun u14 =>
ob (rI u14 11 9 a0) fun y15 =>
ob (wI u14 11 9 a0 (y15 + (1 : Int32))) fun u16 =>
ob (rI u16 11 9 a0) fun y17 =>
some (y17 - (1 : Int32), u16)) else
some ((-5 : Int32), u0)
-- HeaderSpaceNetwork.isPolicy
def rmX11_isPolicy : Room := { frames := 0, cells := 0, slots := 0, locals := 0 }
def fX11_isPolicy (a0 : Nat) (x1 : Int32) (u0 : UH) : Option Int32 :=
if x1 < (0 : Int32) then (
some (0 : Int32)) else
ob (rI u0 11 9 a0) fun y1 =>
if y1 ≤ x1 then (
some (0 : Int32)) else
some (1 : Int32)
-- HeaderSpaceNetwork.setPolicyCube
def rmX11_setPolicyCube : Room := { frames := 2, cells := 0, slots := 0, locals := 43 }
def fX11_setPolicyCube (a0 : Nat) (x1 : Int32) (x2 : Int32) (x3 : Int32) (u0 : UH) : Option (Int32 × UH) :=
ob (kd u0 11 a0 (fX11_isPolicy a0 x1 u0)) fun y1 =>
if y1 = (0 : Int32) then (
some ((-3 : Int32), u0)) else
ob (rR u0 11 0 a0) fun b2 =>
ob (kd u0 4 b2 (fX4_isCube b2 x2 x3 u0)) fun y3 =>
if y3 = (0 : Int32) then (
some ((-3 : Int32), u0)) else
ob (rR u0 11 0 a0) fun b4 =>
ob (kd u0 4 b4 (fX4_allHeaders b4 u0)) fun y5 =>
ob (fX11_cubeHeaders x2 x3 u0) fun y6 =>
lt (y5 &&& y6) fun y7 =>
ob (rR u0 11 8 a0) fun b8 =>
ob (ldR u0 24 b8 x1) fun b9 =>
ob (wJ u0 5 3 b9 y7) fun u10 =>
ob (fJ13_bitCount_95d88 y7 u10) fun y11 =>
some (y11, u10)
-- HeaderSpaceNetwork.against
def rmX11_against : Room := { frames := 5, cells := 0, slots := 0, locals := 128 }
def fX11_against (a0 : Nat) (a1 : Nat) (u0 : UH) : Option (Int64 × UH) :=
ob (rR u0 11 3 a0) fun b1 =>
ob (rI u0 5 2 a1) fun y2 =>
ob (kd u0 1 b1 (fX1_find b1 y2 u0)) fun u3 =>
ob (rR u3 11 3 a0) fun b4 =>
ob (rR u3 1 1 b4) fun b5 =>
ob (rI u3 5 1 a1) fun y6 =>
ob (ldJ u3 b5 y6) fun y7 =>
ob (rJ u3 5 3 a1) fun y8 =>
ob (rI u3 5 0 a1) fun y9 =>
if y9 = (0 : Int32) then (
some (y8 &&& y7, u3)) else
some (y8 &&& (y7 ^^^ (-1 : Int64)), u3)
-- HeaderSpaceNetwork.counterexamples
def rmX11_counterexamples : Room := { frames := 6, cells := 0, slots := 0, locals := 151 }
def fX11_counterexamples (a0 : Nat) (x1 : Int32) (u0 : UH) : Option (Int64 × UH) :=
ob (kd u0 11 a0 (fX11_isPolicy a0 x1 u0)) fun y1 =>
if y1 = (0 : Int32) then (
some ((-9223372036854775808 : Int64), u0)) else
ob (rR u0 11 8 a0) fun b2 =>
ob (ldR u0 24 b2 x1) fun b3 =>
ob2 (kd u0 11 a0 (fX11_against a0 b3 u0)) fun y4 u5 =>
some (y4, u5)
-- HeaderSpaceNetwork.violated
def rmX11_violated : Room := { frames := 6, cells := 0, slots := 0, locals := 151 }
def fX11_violated_B4 (a0 : Nat)  (k : Int32 → Int32 → UH → Option (Int32 × UH)) (x1 : Int32) (x2 : Int32) (u : UH) : Option (Int32 × UH) :=
ob (rI u 11 9 a0) fun y1 =>
if y1 ≤ x2 then (
some (x1, u)) else
ob (rR u 11 8 a0) fun b2 =>
ob (ldR u 24 b2 x2) fun b3 =>
ob2 (kd u 11 a0 (fX11_against a0 b3 u)) fun y4 u5 =>
if y4 = (0 : Int64) then (
k x1 (x2 + (1 : Int32)) u5) else
lt (x1 ||| (jsl (1 : Int32) x2)) fun y6 =>
k y6 (x2 + (1 : Int32)) u5
def fX11_violated (a0 : Nat) (u0 : UH) : Option (Int32 × UH) :=
ob (it3 (fX11_violated_B4 a0 ) FUEL (0 : Int32) (0 : Int32) u0) fun q7 =>
some (q7.1, q7.2)
-- HeaderSpaceNetwork.clearPolicies
def rmX11_clearPolicies : Room := { frames := 0, cells := 0, slots := 0, locals := 0 }
def fX11_clearPolicies (a0 : Nat) (u0 : UH) : Option (Int32 × UH) :=
ob (rI u0 11 9 a0) fun y1 =>
ob (wI u0 11 9 a0 (0 : Int32)) fun u2 =>
some (y1, u2)
-- HeaderSpaceNetwork.type
def rmX11_type : Room := { frames := 0, cells := 0, slots := 0, locals := 0 }
def fX11_type (a0 : Nat) (x1 : Int32) (u0 : UH) : Option (Int32 × UH) :=
ob (rR u0 11 6 a0) fun b1 =>
ob (rI u0 9 1 b1) fun y2 =>
if y2 < (40 : Int32) then (
ob (rR u0 11 6 a0) fun b3 =>
ob (rR u0 9 0 b3) fun b4 =>
ob (rR u0 11 6 a0) fun b5 =>
ob (rI u0 9 1 b5) fun y6 =>
ob (stC u0 b4 y6 x1) fun u7 =>
ob (rR u7 11 6 a0) fun b8 =>
ob (rI u7 9 1 b8) fun y9 =>
ob (wI u7 9 1 b8 (y9 + (1 : Int32))) fun u10 =>
ob (rR u10 11 6 a0) fun b11 =>
ob (rI u10 9 1 b11) fun y12 =>
some (y12, u10)) else
some ((-5 : Int32), u0)
-- HeaderSpaceNetwork.clearText
def rmX11_clearText : Room := { frames := 0, cells := 0, slots := 0, locals := 0 }
def fX11_clearText (a0 : Nat) (u0 : UH) : Option (Int32 × UH) :=
ob (rR u0 11 6 a0) fun b1 =>
ob (rI u0 9 1 b1) fun y2 =>
ob (rR u0 11 6 a0) fun b3 =>
ob (wI u0 9 1 b3 (0 : Int32)) fun u4 =>
some (y2, u4)
-- HeaderSpaceNetwork$Text.accepts
def rmX9_accepts : Room := { frames := 0, cells := 0, slots := 0, locals := 0 }
def fX9_accepts (a0 : Nat) (x1 : Int32) (u0 : UH) : Option (Int32 × UH) :=
ob (rI u0 9 2 a0) fun y1 =>
ob (rI u0 9 1 a0) fun y2 =>
if y2 ≤ y1 then (
some ((0 : Int32), u0)) else
ob (rR u0 9 0 a0) fun b3 =>
ob (rI u0 9 2 a0) fun y4 =>
ob (ldI u0 22 b3 y4) fun y5 =>
if y5 = x1 then (
ob (rI u0 9 2 a0) fun y6 =>
ob (wI u0 9 2 a0 (y6 + (1 : Int32))) fun u7 =>
some ((1 : Int32), u7)) else
some ((0 : Int32), u0)
-- HeaderSpaceNetwork$Text.readDigits
def rmX9_readDigits : Room := { frames := 1, cells := 0, slots := 0, locals := 21 }
def fX9_readDigits_B4 (a0 : Nat)  (k : Int32 → Int32 → UH → Option (Int32 × UH)) (x1 : Int32) (x2 : Int32) (u : UH) : Option (Int32 × UH) :=
if (4 : Int32) ≤ x2 then (
some (x1, u)) else
ob2 (kd u 9 a0 (fX9_accepts a0 (jc ((48 : Int32) + x2)) u)) fun y1 u2 =>
if y1 = (0 : Int32) then (
k x1 (x2 + (1 : Int32)) u2) else
lt (x1 ||| (jsl (1 : Int32) x2)) fun y3 =>
k y3 (x2 + (1 : Int32)) u2
def fX9_readDigits (a0 : Nat) (u0 : UH) : Option (Int32 × UH) :=
ob (it3 (fX9_readDigits_B4 a0 ) FUEL (0 : Int32) (0 : Int32) u0) fun q4 =>
some (q4.1, q4.2)
-- HeaderSpaceNetwork$Text.readsPorts
def rmX9_readsPorts : Room := { frames := 2, cells := 0, slots := 0, locals := 43 }
def fX9_readsPorts_19  (a0 : Nat) (s0 : Int32) (s1 : Nat) (u : UH) : Option (Int32 × UH) :=
ob (wI u 9 3 s1 s0) fun u5 =>
ob (rI u5 9 3 a0) fun y6 =>
if y6 = (0 : Int32) then (
some ((0 : Int32), u5)) else
some ((1 : Int32), u5)
def fX9_readsPorts (a0 : Nat) (u0 : UH) : Option (Int32 × UH) :=
ob2 (kd u0 9 a0 (fX9_accepts a0 (42 : Int32) u0)) fun y1 u2 =>
if y1 = (0 : Int32) then (
ob2 (kd u2 9 a0 (fX9_readDigits a0 u2)) fun y3 u4 =>
fX9_readsPorts_19  a0 y3 a0 u4) else
fX9_readsPorts_19  a0 (15 : Int32) a0 u2
-- HeaderSpaceNetwork$Text.readsPattern
def rmX9_readsPattern : Room := { frames := 1, cells := 0, slots := 0, locals := 21 }
def fX9_readsPattern_B14 (a0 : Nat)  (k : Int32 → UH → Option (UH ⊕ (Int32 × UH))) (x2 : Int32) (u : UH) : Option (UH ⊕ (Int32 × UH)) :=
if x2 < (0 : Int32) then (
some (Sum.inl u)) else
ob2 (kd u 9 a0 (fX9_accepts a0 (49 : Int32) u)) fun y4 u5 =>
if y4 = (0 : Int32) then (
ob2 (kd u5 9 a0 (fX9_accepts a0 (48 : Int32) u5)) fun y6 u7 =>
if y6 = (0 : Int32) then (
ob2 (kd u7 9 a0 (fX9_accepts a0 (42 : Int32) u7)) fun y8 u9 =>
if y8 = (0 : Int32) then (
some (Sum.inr ((0 : Int32), u9))) else
k (x2 + (-1 : Int32)) u9) else
ob (rI u7 9 5 a0) fun y10 =>
ob (wI u7 9 5 a0 (y10 ||| (jsl (1 : Int32) x2))) fun u11 =>
k (x2 + (-1 : Int32)) u11) else
ob (rI u5 9 5 a0) fun y12 =>
ob (wI u5 9 5 a0 (y12 ||| (jsl (1 : Int32) x2))) fun u13 =>
ob (rI u13 9 6 a0) fun y14 =>
ob (wI u13 9 6 a0 (y14 ||| (jsl (1 : Int32) x2))) fun u15 =>
k (x2 + (-1 : Int32)) u15
def fX9_readsPattern (a0 : Nat) (x1 : Int32) (u0 : UH) : Option (Int32 × UH) :=
ob (wI u0 9 5 a0 (0 : Int32)) fun u1 =>
ob (wI u1 9 6 a0 (0 : Int32)) fun u2 =>
lt (x1 - (1 : Int32)) fun y3 =>
oe (it2 (fX9_readsPattern_B14 a0 ) FUEL y3 u2) (fun q16 =>
some ((1 : Int32), q16)) (fun x => some x)
-- HeaderSpaceNetwork$Text.readsOutputs
def rmX9_readsOutputs : Room := { frames := 2, cells := 0, slots := 0, locals := 43 }
def fX9_readsOutputs (a0 : Nat) (u0 : UH) : Option (Int32 × UH) :=
ob2 (kd u0 9 a0 (fX9_readDigits a0 u0)) fun y1 u2 =>
ob (wI u2 9 4 a0 y1) fun u3 =>
ob (rI u3 9 4 a0) fun y4 =>
if y4 = (0 : Int32) then (
some ((0 : Int32), u3)) else
some ((1 : Int32), u3)
-- HeaderSpaceNetwork$Text.readsRewriting
def rmX9_readsRewriting : Room := { frames := 2, cells := 0, slots := 0, locals := 43 }
def fX9_readsRewriting_45  (a0 : Nat) (x2 : Int32) (x3 : Int32) (s0 : Int32) (u : UH) : Option (Int32 × UH) :=
ob (rI u 9 5 a0) fun y7 =>
ob (wI u 9 7 a0 y7) fun u8 =>
ob (rI u8 9 6 a0) fun y9 =>
ob (wI u8 9 8 a0 y9) fun u10 =>
ob (wI u10 9 5 a0 x2) fun u11 =>
ob (wI u11 9 6 a0 x3) fun u12 =>
bz s0 (some (s0, u12))
def fX9_readsRewriting_44  (a0 : Nat) (x2 : Int32) (x3 : Int32) (u : UH) : Option (Int32 × UH) :=
fX9_readsRewriting_45  a0 x2 x3 (0 : Int32) u
def fX9_readsRewriting (a0 : Nat) (x1 : Int32) (u0 : UH) : Option (Int32 × UH) :=
ob (rI u0 9 2 a0) fun y1 =>
ob (rI u0 9 1 a0) fun y2 =>
if y1 = y2 then (
some ((1 : Int32), u0)) else
ob (rI u0 9 5 a0) fun y3 =>
ob (rI u0 9 6 a0) fun y4 =>
ob2 (kd u0 9 a0 (fX9_accepts a0 (61 : Int32) u0)) fun y5 u6 =>
if y5 = (0 : Int32) then (
fX9_readsRewriting_44  a0 y3 y4 u6) else
ob2 (kd u6 9 a0 (fX9_readsPattern a0 x1 u6)) fun y13 u14 =>
if y13 = (0 : Int32) then (
fX9_readsRewriting_44  a0 y3 y4 u14) else
fX9_readsRewriting_45  a0 y3 y4 (1 : Int32) u14
-- HeaderSpaceNetwork$Text.isRule
def rmX9_isRule : Room := { frames := 3, cells := 0, slots := 0, locals := 67 }
def fX9_isRule (a0 : Nat) (x1 : Int32) (u0 : UH) : Option (Int32 × UH) :=
ob (wI u0 9 2 a0 (0 : Int32)) fun u1 =>
ob (wI u1 9 4 a0 (0 : Int32)) fun u2 =>
ob (wI u2 9 7 a0 (0 : Int32)) fun u3 =>
ob (wI u3 9 8 a0 (0 : Int32)) fun u4 =>
ob2 (kd u4 9 a0 (fX9_readsPorts a0 u4)) fun y5 u6 =>
if y5 = (0 : Int32) then (
some ((0 : Int32), u6)) else
ob2 (kd u6 9 a0 (fX9_accepts a0 (58 : Int32) u6)) fun y7 u8 =>
if y7 = (0 : Int32) then (
some ((0 : Int32), u8)) else
ob2 (kd u8 9 a0 (fX9_readsPattern a0 x1 u8)) fun y9 u10 =>
if y9 = (0 : Int32) then (
some ((0 : Int32), u10)) else
ob2 (kd u10 9 a0 (fX9_accepts a0 (33 : Int32) u10)) fun y11 u12 =>
if y11 = (0 : Int32) then (
ob2 (kd u12 9 a0 (fX9_accepts a0 (62 : Int32) u12)) fun y13 u14 =>
if y13 = (0 : Int32) then (
some ((0 : Int32), u14)) else
ob2 (kd u14 9 a0 (fX9_readsOutputs a0 u14)) fun y15 u16 =>
if y15 = (0 : Int32) then (
some ((0 : Int32), u16)) else
ob2 (kd u16 9 a0 (fX9_readsRewriting a0 x1 u16)) fun y17 u18 =>
if y17 = (0 : Int32) then (
some ((0 : Int32), u18)) else
ob (rI u18 9 2 a0) fun y19 =>
ob (rI u18 9 1 a0) fun y20 =>
if y19 = y20 then (
some ((1 : Int32), u18)) else
some ((0 : Int32), u18)) else
ob (rI u12 9 2 a0) fun y21 =>
ob (rI u12 9 1 a0) fun y22 =>
if y21 = y22 then (
some ((1 : Int32), u12)) else
some ((0 : Int32), u12)
-- HeaderSpaceNetwork$Text.readOne
def rmX9_readOne : Room := { frames := 2, cells := 1, slots := 8, locals := 51 }
def fX9_readOne (a0 : Nat) (u0 : UH) : Option (Nat × UH) :=
nwO u0 6 fun b1 u2 =>
ob (rI u2 9 3 a0) fun y3 =>
ob (rI u2 9 5 a0) fun y4 =>
ob (rI u2 9 6 a0) fun y5 =>
ob (rI u2 9 4 a0) fun y6 =>
ob (rI u2 9 7 a0) fun y7 =>
ob (rI u2 9 8 a0) fun y8 =>
ob (fX6_init b1 y3 y4 y5 y6 y7 y8 (1 : Int32) u2) fun u9 =>
some (b1, u9)
-- HeaderSpaceNetwork.readRule
def rmX11_readRule : Room := { frames := 4, cells := 1, slots := 8, locals := 88 }
def fX11_readRule (a0 : Nat) (x1 : Int32) (u0 : UH) : Option (Int32 × UH) :=
ob (fX11_isBox x1 u0) fun y1 =>
if y1 = (0 : Int32) then (
some ((-1 : Int32), u0)) else
ob (rR u0 11 6 a0) fun b2 =>
ob (rR u0 11 0 a0) fun b3 =>
ob (rI u0 4 0 b3) fun y4 =>
ob2 (kd u0 9 b2 (fX9_isRule b2 y4 u0)) fun y5 u6 =>
if y5 = (0 : Int32) then (
ob (rR u6 11 6 a0) fun b16 =>
ob (rI u6 9 2 b16) fun y17 =>
some ((-100 : Int32) - y17, u6)) else
ob (rR u6 11 0 a0) fun b7 =>
ob (rR u6 4 3 b7) fun b8 =>
ob (ldR u6 26 b8 x1) fun b9 =>
ob (rI u6 7 1 b9) fun y10 =>
ob (rR u6 11 6 a0) fun b11 =>
ob2 (kd u6 9 b11 (fX9_readOne b11 u6)) fun b12 u13 =>
ob2 (kd u13 11 a0 (fX11_insertRule a0 x1 y10 b12 u13)) fun y14 u15 =>
some (y14, u15)
-- HeaderSpaceNetwork$RuleWriter.put
def rmX8_put : Room := { frames := 0, cells := 0, slots := 0, locals := 0 }
def fX8_put (a0 : Nat) (x1 : Int32) (u0 : UH) : Option UH :=
ob (rI u0 8 1 a0) fun y1 =>
if (40 : Int32) ≤ y1 then (
some u0) else
ob (rR u0 8 0 a0) fun b2 =>
ob (rI u0 8 1 a0) fun y3 =>
ob (stC u0 b2 y3 x1) fun u4 =>
ob (rI u4 8 1 a0) fun y5 =>
ob (wI u4 8 1 a0 (y5 + (1 : Int32))) fun u6 =>
some u6
-- HeaderSpaceNetwork$RuleWriter.putDigits
def rmX8_putDigits : Room := { frames := 1, cells := 0, slots := 0, locals := 21 }
def fX8_putDigits_B2 (a0 : Nat) (x1 : Int32)  (k : Int32 → UH → Option UH) (x2 : Int32) (u : UH) : Option UH :=
if (4 : Int32) ≤ x2 then (
some u) else
ob (fX11_hasPort x1 x2 u) fun y1 =>
if y1 = (0 : Int32) then (
k (x2 + (1 : Int32)) u) else
ob (kd u 8 a0 (fX8_put a0 (jc ((48 : Int32) + x2)) u)) fun u2 =>
k (x2 + (1 : Int32)) u2
def fX8_putDigits (a0 : Nat) (x1 : Int32) (u0 : UH) : Option UH :=
ob (it2 (fX8_putDigits_B2 a0 x1 ) FUEL (0 : Int32) u0) fun q3 =>
some q3
-- HeaderSpaceNetwork$RuleWriter.putPattern
def rmX8_putPattern : Room := { frames := 1, cells := 0, slots := 0, locals := 21 }
def fX8_putPattern_45 (k : Int32 → UH → Option UH) (a0 : Nat) (x1 : Int32) (x2 : Int32) (x4 : Int32) (s0 : Int32) (s1 : Nat) (u : UH) : Option UH :=
ob (kd u 8 s1 (fX8_put s1 s0 u)) fun u2 =>
k (x4 + (-1 : Int32)) u2
def fX8_putPattern_B5 (a0 : Nat) (x1 : Int32) (x2 : Int32)  (k : Int32 → UH → Option UH) (x4 : Int32) (u : UH) : Option UH :=
if x4 < (0 : Int32) then (
some u) else
if (jsr x1 x4) &&& (1 : Int32) = (0 : Int32) then (
ob (kd u 8 a0 (fX8_put a0 (42 : Int32) u)) fun u3 =>
k (x4 + (-1 : Int32)) u3) else
if (jsr x2 x4) &&& (1 : Int32) = (0 : Int32) then (
fX8_putPattern_45 k a0 x1 x2 x4 (48 : Int32) a0 u) else
fX8_putPattern_45 k a0 x1 x2 x4 (49 : Int32) a0 u
def fX8_putPattern (a0 : Nat) (x1 : Int32) (x2 : Int32) (x3 : Int32) (u0 : UH) : Option UH :=
lt (x3 - (1 : Int32)) fun y1 =>
ob (it2 (fX8_putPattern_B5 a0 x1 x2 ) FUEL y1 u0) fun q4 =>
some q4
-- HeaderSpaceNetwork$RuleWriter.write
def rmX8_write : Room := { frames := 2, cells := 0, slots := 0, locals := 45 }
def fX8_write_31  (a0 : Nat) (a1 : Nat) (x2 : Int32) (u : UH) : Option UH :=
ob (kd u 8 a0 (fX8_put a0 (58 : Int32) u)) fun u5 =>
ob (rI u5 6 1 a1) fun y6 =>
ob (rI u5 6 2 a1) fun y7 =>
ob (kd u5 8 a0 (fX8_putPattern a0 y6 y7 x2 u5)) fun u8 =>
ob (rI u8 6 3 a1) fun y9 =>
if y9 = (0 : Int32) then (
ob (kd u8 8 a0 (fX8_put a0 (33 : Int32) u8)) fun u18 =>
some u18) else
ob (kd u8 8 a0 (fX8_put a0 (62 : Int32) u8)) fun u10 =>
ob (rI u10 6 3 a1) fun y11 =>
ob (kd u10 8 a0 (fX8_putDigits a0 y11 u10)) fun u12 =>
ob (rI u12 6 4 a1) fun y13 =>
if y13 = (0 : Int32) then (
some u12) else
ob (kd u12 8 a0 (fX8_put a0 (61 : Int32) u12)) fun u14 =>
ob (rI u14 6 4 a1) fun y15 =>
ob (rI u14 6 5 a1) fun y16 =>
ob (kd u14 8 a0 (fX8_putPattern a0 y15 y16 x2 u14)) fun u17 =>
some u17
def fX8_write (a0 : Nat) (a1 : Nat) (x2 : Int32) (u0 : UH) : Option UH :=
ob (wI u0 8 1 a0 (0 : Int32)) fun u1 =>
ob (rI u1 6 0 a1) fun y2 =>
if y2 = (15 : Int32) then (
ob (kd u1 8 a0 (fX8_put a0 (42 : Int32) u1)) fun u19 =>
fX8_write_31  a0 a1 x2 u19) else
ob (rI u1 6 0 a1) fun y3 =>
ob (kd u1 8 a0 (fX8_putDigits a0 y3 u1)) fun u4 =>
fX8_write_31  a0 a1 x2 u4
-- HeaderSpaceNetwork.ruleText
def rmX11_ruleText : Room := { frames := 3, cells := 0, slots := 0, locals := 67 }
def fX11_ruleText (a0 : Nat) (x1 : Int32) (x2 : Int32) (x3 : Int32) (u0 : UH) : Option (Int32 × UH) :=
ob (kd u0 11 a0 (fX11_ruleError a0 x1 x2 u0)) fun y1 =>
if y1 = (0 : Int32) then (
if (0 : Int32) ≤ x3 then (
ob (rR u0 11 7 a0) fun b2 =>
ob (rR u0 11 0 a0) fun b3 =>
ob (rR u0 4 3 b3) fun b4 =>
ob (ldR u0 26 b4 x1) fun b5 =>
ob (rR u0 7 0 b5) fun b6 =>
ob (ldR u0 25 b6 x2) fun b7 =>
ob (rR u0 11 0 a0) fun b8 =>
ob (rI u0 4 0 b8) fun y9 =>
ob (kd u0 8 b2 (fX8_write b2 b7 y9 u0)) fun u10 =>
ob (rR u10 11 7 a0) fun b11 =>
ob (rI u10 8 1 b11) fun y12 =>
if y12 ≤ x3 then (
some ((-6 : Int32), u10)) else
ob (rR u10 11 7 a0) fun b13 =>
ob (rR u10 8 0 b13) fun b14 =>
ob (ldI u10 22 b14 x3) fun y15 =>
some (y15, u10)) else
some ((-3 : Int32), u0)) else
some (y1, u0)
-- HeaderSpaceNetworkModel.begin
def rmX12_begin : Room := { frames := 0, cells := 0, slots := 0, locals := 0 }
def fX12_begin_B2 (a0 : Nat)  (k : Int32 → UH → Option UH) (x1 : Int32) (u : UH) : Option UH :=
if (24 : Int32) ≤ x1 then (
some u) else
ob (rR u 12 1 a0) fun b1 =>
ob (stI u b1 x1 (-1 : Int32)) fun u2 =>
k (x1 + (1 : Int32)) u2
def fX12_begin_B28 (a0 : Nat)  (k : Int32 → UH → Option UH) (x1 : Int32) (u : UH) : Option UH :=
if (6 : Int32) ≤ x1 then (
some u) else
ob (rR u 12 3 a0) fun b6 =>
ob (stI u b6 ((252 : Int32) + x1) (0 : Int32)) fun u7 =>
k (x1 + (1 : Int32)) u7
def fX12_begin (a0 : Nat) (u0 : UH) : Option UH :=
ob (it2 (fX12_begin_B2 a0 ) FUEL (0 : Int32) u0) fun q3 =>
ob (wI q3 12 2 a0 (0 : Int32)) fun u5 =>
ob (it2 (fX12_begin_B28 a0 ) FUEL (0 : Int32) u5) fun q8 =>
ob (wI q8 12 4 a0 (0 : Int32)) fun u10 =>
ob (wI u10 12 5 a0 (0 : Int32)) fun u11 =>
ob (wI u11 12 6 a0 (0 : Int32)) fun u12 =>
ob (wI u12 12 19 a0 (0 : Int32)) fun u13 =>
ob (wI u13 12 7 a0 (0 : Int32)) fun u14 =>
some u14
-- HeaderSpaceNetworkModel.<init>
def rmX12_init : Room := { frames := 1, cells := 18, slots := 4388, locals := 21 }
def fX12_init (a0 : Nat) (u0 : UH) : Option UH :=
nwA u0 20 24 fun b1 u2 =>
ob (wR u2 12 1 a0 b1) fun u3 =>
nwA u3 20 258 fun b4 u5 =>
ob (wR u5 12 3 a0 b4) fun u6 =>
nwA u6 20 3096 fun b7 u8 =>
ob (wR u8 12 8 a0 b7) fun u9 =>
nwA u9 20 7 fun b10 u11 =>
ob (wR u11 12 9 a0 b10) fun u12 =>
nwA u12 21 24 fun b13 u14 =>
ob (wR u14 12 10 a0 b13) fun u15 =>
nwA u15 21 24 fun b16 u17 =>
ob (wR u17 12 11 a0 b16) fun u18 =>
nwA u18 21 24 fun b19 u20 =>
ob (wR u20 12 12 a0 b19) fun u21 =>
nwA u21 21 24 fun b22 u23 =>
ob (wR u23 12 13 a0 b22) fun u24 =>
nwA u24 20 768 fun b25 u26 =>
ob (wR u26 12 14 a0 b25) fun u27 =>
nwA u27 21 24 fun b28 u29 =>
ob (wR u29 12 17 a0 b28) fun u30 =>
nwA u30 20 3 fun b31 u32 =>
ob (wR u32 12 18 a0 b31) fun u33 =>
nwA u33 23 8 fun b34 u35 =>
ob (wR u35 12 20 a0 b34) fun u36 =>
nwA u36 20 8 fun b37 u38 =>
ob (wR u38 12 21 a0 b37) fun u39 =>
nwA u39 20 8 fun b40 u41 =>
ob (wR u41 12 22 a0 b40) fun u42 =>
nwA u42 20 8 fun b43 u44 =>
ob (wR u44 12 23 a0 b43) fun u45 =>
nwA u45 20 8 fun b46 u47 =>
ob (wR u47 12 24 a0 b46) fun u48 =>
nwA u48 22 40 fun b49 u50 =>
ob (wR u50 12 26 a0 b49) fun u51 =>
nwA u51 20 32 fun b52 u53 =>
ob (wR u53 12 32 a0 b52) fun u54 =>
ob (wI u54 12 0 a0 (4 : Int32)) fun u55 =>
ob (kd u55 12 a0 (fX12_begin a0 u55)) fun u56 =>
some u56
-- HeaderSpaceNetworkModel.in
def rmX12_in : Room := { frames := 0, cells := 0, slots := 0, locals := 0 }
def fX12_in (x0 : Int32) (x1 : Int32) (x2 : Int32) (u0 : UH) : Option Int32 :=
if x0 < x1 then (
some (0 : Int32)) else
if x2 < x0 then (
some (0 : Int32)) else
some (1 : Int32)
-- HeaderSpaceNetworkModel.lost
def rmX12_lost : Room := { frames := 0, cells := 0, slots := 0, locals := 0 }
def fX12_lost  (u0 : UH) : Option Int64 :=
some (-9223372036854775808 : Int64)
-- HeaderSpaceNetworkModel.reset
def rmX12_reset : Room := { frames := 1, cells := 0, slots := 0, locals := 22 }
def fX12_reset (a0 : Nat) (x1 : Int32) (u0 : UH) : Option (Int32 × UH) :=
ob (fX12_in x1 (1 : Int32) (5 : Int32) u0) fun y1 =>
if y1 = (0 : Int32) then (
some ((-3 : Int32), u0)) else
ob (rI u0 12 0 a0) fun y2 =>
ob (wI u0 12 0 a0 x1) fun u3 =>
ob (kd u3 12 a0 (fX12_begin a0 u3)) fun u4 =>
some (y2, u4)
-- HeaderSpaceNetworkModel.headers
def rmX12_headers : Room := { frames := 0, cells := 0, slots := 0, locals := 0 }
def fX12_headers (a0 : Nat) (u0 : UH) : Option Int32 :=
ob (rI u0 12 0 a0) fun y1 =>
some (jsl (1 : Int32) y1)
-- HeaderSpaceNetworkModel.noHeader
def rmX12_noHeader : Room := { frames := 1, cells := 0, slots := 0, locals := 22 }
def fX12_noHeader (a0 : Nat) (x1 : Int32) (u0 : UH) : Option Int32 :=
ob (kd u0 12 a0 (fX12_headers a0 u0)) fun y1 =>
ob (fX12_in x1 (0 : Int32) (y1 - (1 : Int32)) u0) fun y2 =>
if y2 = (0 : Int32) then (
some (1 : Int32)) else
some (0 : Int32)
-- HeaderSpaceNetworkModel.noBox
def rmX12_noBox : Room := { frames := 1, cells := 0, slots := 0, locals := 22 }
def fX12_noBox (x0 : Int32) (u0 : UH) : Option Int32 :=
ob (fX12_in x0 (0 : Int32) (5 : Int32) u0) fun y1 =>
if y1 = (0 : Int32) then (
some (1 : Int32)) else
some (0 : Int32)
-- HeaderSpaceNetworkModel.noPlace
def rmX12_noPlace : Room := { frames := 2, cells := 0, slots := 0, locals := 42 }
def fX12_noPlace (x0 : Int32) (x1 : Int32) (u0 : UH) : Option Int32 :=
ob (fX12_noBox x0 u0) fun y1 =>
if y1 = (0 : Int32) then (
ob (fX12_in x1 (0 : Int32) (3 : Int32) u0) fun y2 =>
if y2 = (0 : Int32) then (
some (1 : Int32)) else
some (0 : Int32)) else
some (1 : Int32)
-- HeaderSpaceNetworkModel.connect
def rmX12_connect : Room := { frames := 3, cells := 0, slots := 0, locals := 63 }
def fX12_connect (a0 : Nat) (x1 : Int32) (x2 : Int32) (x3 : Int32) (x4 : Int32) (u0 : UH) : Option (Int32 × UH) :=
ob (fX12_noPlace x1 x2 u0) fun y1 =>
if y1 = (0 : Int32) then (
ob (fX12_noPlace x3 x4 u0) fun y2 =>
if y2 = (0 : Int32) then (
lt (((4 : Int32) * x1) + x2) fun y3 =>
lt (((4 : Int32) * x3) + x4) fun y4 =>
if y3 = y4 then (
some ((-4 : Int32), u0)) else
ob (rR u0 12 1 a0) fun b5 =>
ob (ldI u0 20 b5 y3) fun y6 =>
if (0 : Int32) ≤ y6 then (
some ((-4 : Int32), u0)) else
ob (rR u0 12 1 a0) fun b7 =>
ob (ldI u0 20 b7 y4) fun y8 =>
if y8 < (0 : Int32) then (
ob (rR u0 12 1 a0) fun b9 =>
ob (stI u0 b9 y3 y4) fun u10 =>
ob (rR u10 12 1 a0) fun b11 =>
ob (stI u10 b11 y4 y3) fun u12 =>
ob (rI u12 12 2 a0) fun y13 =>
ob (wI u12 12 2 a0 (y13 + (1 : Int32))) fun u14 =>
ob (rI u14 12 2 a0) fun y15 =>
some (y15, u14)) else
some ((-4 : Int32), u0)) else
some ((-1 : Int32), u0)) else
some ((-1 : Int32), u0)
-- HeaderSpaceNetworkModel.disconnect
def rmX12_disconnect : Room := { frames := 3, cells := 0, slots := 0, locals := 63 }
def fX12_disconnect (a0 : Nat) (x1 : Int32) (x2 : Int32) (u0 : UH) : Option (Int32 × UH) :=
ob (fX12_noPlace x1 x2 u0) fun y1 =>
if y1 = (0 : Int32) then (
lt (((4 : Int32) * x1) + x2) fun y2 =>
ob (rR u0 12 1 a0) fun b3 =>
ob (ldI u0 20 b3 y2) fun y4 =>
if (0 : Int32) ≤ y4 then (
ob (rR u0 12 1 a0) fun b5 =>
ob (rR u0 12 1 a0) fun b6 =>
ob (ldI u0 20 b6 y2) fun y7 =>
ob (stI u0 b5 y7 (-1 : Int32)) fun u8 =>
ob (rR u8 12 1 a0) fun b9 =>
ob (stI u8 b9 y2 (-1 : Int32)) fun u10 =>
ob (rI u10 12 2 a0) fun y11 =>
ob (wI u10 12 2 a0 (y11 - (1 : Int32))) fun u12 =>
ob (rI u12 12 2 a0) fun y13 =>
some (y13, u12)) else
some ((-6 : Int32), u0)) else
some ((-1 : Int32), u0)
-- HeaderSpaceNetworkModel.other
def rmX12_other : Room := { frames := 3, cells := 0, slots := 0, locals := 63 }
def fX12_other (a0 : Nat) (x1 : Int32) (x2 : Int32) (u0 : UH) : Option Int32 :=
ob (fX12_noPlace x1 x2 u0) fun y1 =>
if y1 = (0 : Int32) then (
ob (rR u0 12 1 a0) fun b2 =>
ob (ldI u0 20 b2 (((4 : Int32) * x1) + x2)) fun y3 =>
if (0 : Int32) ≤ y3 then (
some (((10 : Int32) * (y3 / (4 : Int32))) + (jrem y3 (4 : Int32)))) else
some (-6 : Int32)) else
some (-1 : Int32)
-- HeaderSpaceNetworkModel.many
def rmX12_many : Room := { frames := 0, cells := 0, slots := 0, locals := 0 }
def fX12_many (a0 : Nat) (x1 : Int32) (u0 : UH) : Option Int32 :=
ob (rR u0 12 3 a0) fun b1 =>
ob (ldI u0 20 b1 ((252 : Int32) + x1)) fun y2 =>
some y2
-- HeaderSpaceNetworkModel.of
def rmX12_of : Room := { frames := 0, cells := 0, slots := 0, locals := 0 }
def fX12_of (a0 : Nat) (x1 : Int32) (x2 : Int32) (x3 : Int32) (u0 : UH) : Option Int32 :=
ob (rR u0 12 3 a0) fun b1 =>
ob (ldI u0 20 b1 (((7 : Int32) * (((6 : Int32) * x1) + x2)) + x3)) fun y2 =>
some y2
-- HeaderSpaceNetworkModel.put
def rmX12_put : Room := { frames := 0, cells := 0, slots := 0, locals := 0 }
def fX12_put (a0 : Nat) (x1 : Int32) (x2 : Int32) (x3 : Int32) (x4 : Int32) (u0 : UH) : Option UH :=
ob (rR u0 12 3 a0) fun b1 =>
ob (stI u0 b1 (((7 : Int32) * (((6 : Int32) * x1) + x2)) + x3) x4) fun u2 =>
some u2
-- HeaderSpaceNetworkModel.noRule
def rmX12_noRule : Room := { frames := 1, cells := 0, slots := 0, locals := 22 }
def fX12_noRule (a0 : Nat) (x1 : Int32) (x2 : Int32) (u0 : UH) : Option Int32 :=
ob (kd u0 12 a0 (fX12_many a0 x1 u0)) fun y1 =>
ob (fX12_in x2 (0 : Int32) (y1 - (1 : Int32)) u0) fun y2 =>
if y2 = (0 : Int32) then (
some (1 : Int32)) else
some (0 : Int32)
-- HeaderSpaceNetworkModel.keep
def rmX12_keep : Room := { frames := 0, cells := 0, slots := 0, locals := 0 }
def fX12_keep_B57 (a0 : Nat)  (k : Int32 → UH → Option UH) (x1 : Int32) (u : UH) : Option UH :=
if (258 : Int32) ≤ x1 then (
some u) else
ob (rR u 12 8 a0) fun b2 =>
ob (rI u 12 7 a0) fun y3 =>
ob (rR u 12 3 a0) fun b4 =>
ob (ldI u 20 b4 x1) fun y5 =>
ob (stI u b2 (((258 : Int32) * y3) + x1) y5) fun u6 =>
k (x1 + (1 : Int32)) u6
def fX12_keep_55  (a0 : Nat) (u : UH) : Option UH :=
ob (it2 (fX12_keep_B57 a0 ) FUEL (0 : Int32) u) fun q7 =>
ob (rI q7 12 7 a0) fun y9 =>
ob (wI q7 12 7 a0 (y9 + (1 : Int32))) fun u10 =>
some u10
def fX12_keep_B21 (a0 : Nat)  (k : Int32 → UH → Option UH) (x1 : Int32) (u : UH) : Option UH :=
ob (rI u 12 7 a0) fun y13 =>
if (258 : Int32) * y13 ≤ x1 then (
some u) else
ob (rR u 12 8 a0) fun b14 =>
ob (rR u 12 8 a0) fun b15 =>
ob (ldI u 20 b15 (x1 + (258 : Int32))) fun y16 =>
ob (stI u b14 x1 y16) fun u17 =>
k (x1 + (1 : Int32)) u17
def fX12_keep (a0 : Nat) (u0 : UH) : Option UH :=
ob (rI u0 12 7 a0) fun y1 =>
if y1 = (12 : Int32) then (
ob (rI u0 12 7 a0) fun y11 =>
ob (wI u0 12 7 a0 (y11 - (1 : Int32))) fun u12 =>
ob (it2 (fX12_keep_B21 a0 ) FUEL (0 : Int32) u12) fun q18 =>
fX12_keep_55  a0 q18) else
fX12_keep_55  a0 u0
-- HeaderSpaceNetworkModel.undo
def rmX12_undo : Room := { frames := 0, cells := 0, slots := 0, locals := 0 }
def fX12_undo_B22 (a0 : Nat)  (k : Int32 → UH → Option UH) (x1 : Int32) (u : UH) : Option UH :=
if (258 : Int32) ≤ x1 then (
some u) else
ob (rR u 12 3 a0) fun b4 =>
ob (rR u 12 8 a0) fun b5 =>
ob (rI u 12 7 a0) fun y6 =>
ob (ldI u 20 b5 (((258 : Int32) * y6) + x1)) fun y7 =>
ob (stI u b4 x1 y7) fun u8 =>
k (x1 + (1 : Int32)) u8
def fX12_undo (a0 : Nat) (u0 : UH) : Option (Int32 × UH) :=
ob (rI u0 12 7 a0) fun y1 =>
if y1 = (0 : Int32) then (
some ((-6 : Int32), u0)) else
ob (rI u0 12 7 a0) fun y2 =>
ob (wI u0 12 7 a0 (y2 - (1 : Int32))) fun u3 =>
ob (it2 (fX12_undo_B22 a0 ) FUEL (0 : Int32) u3) fun q9 =>
ob (rI q9 12 7 a0) fun y11 =>
some (y11, q9)
-- HeaderSpaceNetworkModel.open
def rmX12_open : Room := { frames := 1, cells := 0, slots := 0, locals := 24 }
def fX12_open_B14 (a0 : Nat) (x1 : Int32) (x3 : Int32)  (k : Int32 → UH → Option UH) (x4 : Int32) (u : UH) : Option UH :=
if (7 : Int32) ≤ x4 then (
some u) else
ob (kd u 12 a0 (fX12_of a0 x1 (x3 - (1 : Int32)) x4 u)) fun y2 =>
ob (kd u 12 a0 (fX12_put a0 x1 x3 x4 y2 u)) fun u3 =>
k (x4 + (1 : Int32)) u3
def fX12_open_B6 (a0 : Nat) (x1 : Int32) (x2 : Int32)  (k : Int32 → UH → Option UH) (x3 : Int32) (u : UH) : Option UH :=
if x3 ≤ x2 then (
some u) else
ob (it2 (fX12_open_B14 a0 x1 x3 ) FUEL (0 : Int32) u) fun q4 =>
k (x3 + (-1 : Int32)) q4
def fX12_open (a0 : Nat) (x1 : Int32) (x2 : Int32) (u0 : UH) : Option UH :=
ob (kd u0 12 a0 (fX12_many a0 x1 u0)) fun y1 =>
ob (it2 (fX12_open_B6 a0 x1 x2 ) FUEL y1 u0) fun q6 =>
ob (rR q6 12 3 a0) fun b8 =>
ob (ldI q6 20 b8 ((252 : Int32) + x1)) fun y9 =>
ob (stI q6 b8 ((252 : Int32) + x1) (y9 + (1 : Int32))) fun u10 =>
some u10
-- HeaderSpaceNetworkModel.close
def rmX12_close : Room := { frames := 1, cells := 0, slots := 0, locals := 24 }
def fX12_close_B28 (a0 : Nat) (x1 : Int32) (x3 : Int32)  (k : Int32 → UH → Option UH) (x4 : Int32) (u : UH) : Option UH :=
if (7 : Int32) ≤ x4 then (
some u) else
ob (kd u 12 a0 (fX12_of a0 x1 (x3 + (1 : Int32)) x4 u)) fun y5 =>
ob (kd u 12 a0 (fX12_put a0 x1 x3 x4 y5 u)) fun u6 =>
k (x4 + (1 : Int32)) u6
def fX12_close_B16 (a0 : Nat) (x1 : Int32)  (k : Int32 → UH → Option UH) (x3 : Int32) (u : UH) : Option UH :=
ob (kd u 12 a0 (fX12_many a0 x1 u)) fun y4 =>
if y4 ≤ x3 then (
some u) else
ob (it2 (fX12_close_B28 a0 x1 x3 ) FUEL (0 : Int32) u) fun q7 =>
k (x3 + (1 : Int32)) q7
def fX12_close (a0 : Nat) (x1 : Int32) (x2 : Int32) (u0 : UH) : Option UH :=
ob (rR u0 12 3 a0) fun b1 =>
ob (ldI u0 20 b1 ((252 : Int32) + x1)) fun y2 =>
ob (stI u0 b1 ((252 : Int32) + x1) (y2 - (1 : Int32))) fun u3 =>
ob (it2 (fX12_close_B16 a0 x1 ) FUEL x2 u3) fun q9 =>
some q9
-- HeaderSpaceNetworkModel.insert
def rmX12_insert : Room := { frames := 2, cells := 0, slots := 0, locals := 48 }
def fX12_insert (a0 : Nat) (x1 : Int32) (x2 : Int32) (x3 : Int32) (x4 : Int32) (x5 : Int32) (x6 : Int32) (u0 : UH) : Option (Int32 × UH) :=
ob (fX12_noBox x1 u0) fun y1 =>
if y1 = (0 : Int32) then (
ob (kd u0 12 a0 (fX12_many a0 x1 u0)) fun y2 =>
ob (fX12_in x2 (0 : Int32) y2 u0) fun y3 =>
if y3 = (0 : Int32) then (
some ((-3 : Int32), u0)) else
ob (fX12_in x3 (1 : Int32) (15 : Int32) u0) fun y4 =>
if y4 = (0 : Int32) then (
some ((-3 : Int32), u0)) else
ob (kd u0 12 a0 (fX12_noHeader a0 x4 u0)) fun y5 =>
if y5 = (0 : Int32) then (
ob (kd u0 12 a0 (fX12_noHeader a0 x5 u0)) fun y6 =>
if y6 = (0 : Int32) then (
ob (fX12_in x6 (0 : Int32) (15 : Int32) u0) fun y7 =>
if y7 = (0 : Int32) then (
some ((-3 : Int32), u0)) else
ob (kd u0 12 a0 (fX12_many a0 x1 u0)) fun y8 =>
if y8 = (6 : Int32) then (
some ((-5 : Int32), u0)) else
ob (kd u0 12 a0 (fX12_keep a0 u0)) fun u9 =>
ob (kd u9 12 a0 (fX12_open a0 x1 x2 u9)) fun u10 =>
ob (kd u10 12 a0 (fX12_put a0 x1 x2 (0 : Int32) x3 u10)) fun u11 =>
ob (kd u11 12 a0 (fX12_put a0 x1 x2 (1 : Int32) x4 u11)) fun u12 =>
ob (kd u12 12 a0 (fX12_put a0 x1 x2 (2 : Int32) (x5 &&& x4) u12)) fun u13 =>
ob (kd u13 12 a0 (fX12_put a0 x1 x2 (3 : Int32) x6 u13)) fun u14 =>
ob (kd u14 12 a0 (fX12_put a0 x1 x2 (4 : Int32) (0 : Int32) u14)) fun u15 =>
ob (kd u15 12 a0 (fX12_put a0 x1 x2 (5 : Int32) (0 : Int32) u15)) fun u16 =>
ob (kd u16 12 a0 (fX12_put a0 x1 x2 (6 : Int32) (1 : Int32) u16)) fun u17 =>
ob (kd u17 12 a0 (fX12_many a0 x1 u17)) fun y18 =>
some (y18, u17)) else
some ((-3 : Int32), u0)) else
some ((-3 : Int32), u0)) else
some ((-1 : Int32), u0)
-- HeaderSpaceNetworkModel.insertDrop
def rmX12_insertDrop : Room := { frames := 3, cells := 0, slots := 0, locals := 74 }
def fX12_insertDrop (a0 : Nat) (x1 : Int32) (x2 : Int32) (x3 : Int32) (x4 : Int32) (x5 : Int32) (u0 : UH) : Option (Int32 × UH) :=
ob2 (kd u0 12 a0 (fX12_insert a0 x1 x2 x3 x4 x5 (0 : Int32) u0)) fun y1 u2 =>
some (y1, u2)
-- HeaderSpaceNetworkModel.insertForward
def rmX12_insertForward : Room := { frames := 3, cells := 0, slots := 0, locals := 74 }
def fX12_insertForward_20  (s0 : Int32) (s1 : Int32) (s2 : Int32) (s3 : Int32) (s4 : Int32) (s5 : Int32) (s6 : Nat) (u : UH) : Option (Int32 × UH) :=
ob2 (kd u 12 s6 (fX12_insert s6 s5 s4 s3 s2 s1 s0 u)) fun y1 u2 =>
some (y1, u2)
def fX12_insertForward (a0 : Nat) (x1 : Int32) (x2 : Int32) (x3 : Int32) (x4 : Int32) (x5 : Int32) (x6 : Int32) (u0 : UH) : Option (Int32 × UH) :=
if x6 = (0 : Int32) then (
fX12_insertForward_20  (99 : Int32) x5 x4 x3 x2 x1 a0 u0) else
fX12_insertForward_20  x6 x5 x4 x3 x2 x1 a0 u0
-- HeaderSpaceNetworkModel.ruleBarred
def rmX12_ruleBarred : Room := { frames := 2, cells := 0, slots := 0, locals := 44 }
def fX12_ruleBarred (a0 : Nat) (x1 : Int32) (x2 : Int32) (u0 : UH) : Option Int32 :=
ob (fX12_noBox x1 u0) fun y1 =>
if y1 = (0 : Int32) then (
ob (kd u0 12 a0 (fX12_noRule a0 x1 x2 u0)) fun y2 =>
if y2 = (0 : Int32) then (
some (0 : Int32)) else
some (-2 : Int32)) else
some (-1 : Int32)
-- HeaderSpaceNetworkModel.setRewriting
def rmX12_setRewriting : Room := { frames := 3, cells := 0, slots := 0, locals := 66 }
def fX12_setRewriting_83  (a0 : Nat) (x1 : Int32) (x2 : Int32) (x3 : Int32) (x4 : Int32) (s0 : Int32) (u : UH) : Option (Int32 × UH) :=
ob (kd u 12 a0 (fX12_put a0 x1 x2 (4 : Int32) x3 u)) fun u7 =>
ob (kd u7 12 a0 (fX12_put a0 x1 x2 (5 : Int32) (x4 &&& x3) u7)) fun u8 =>
some (s0, u8)
def fX12_setRewriting_78  (a0 : Nat) (x1 : Int32) (x2 : Int32) (x3 : Int32) (x4 : Int32) (u : UH) : Option (Int32 × UH) :=
fX12_setRewriting_83  a0 x1 x2 x3 x4 (1 : Int32) u
def fX12_setRewriting (a0 : Nat) (x1 : Int32) (x2 : Int32) (x3 : Int32) (x4 : Int32) (u0 : UH) : Option (Int32 × UH) :=
ob (kd u0 12 a0 (fX12_ruleBarred a0 x1 x2 u0)) fun y1 =>
if (0 : Int32) ≤ y1 then (
ob (kd u0 12 a0 (fX12_noHeader a0 x3 u0)) fun y2 =>
if y2 = (0 : Int32) then (
ob (kd u0 12 a0 (fX12_noHeader a0 x4 u0)) fun y3 =>
if y3 = (0 : Int32) then (
ob (kd u0 12 a0 (fX12_of a0 x1 x2 (3 : Int32) u0)) fun y4 =>
if y4 = (0 : Int32) then (
some ((-4 : Int32), u0)) else
ob (kd u0 12 a0 (fX12_keep a0 u0)) fun u5 =>
ob (kd u5 12 a0 (fX12_of a0 x1 x2 (4 : Int32) u5)) fun y6 =>
if y6 = x3 then (
ob (kd u5 12 a0 (fX12_of a0 x1 x2 (5 : Int32) u5)) fun y9 =>
if y9 = x4 &&& x3 then (
fX12_setRewriting_83  a0 x1 x2 x3 x4 (0 : Int32) u5) else
fX12_setRewriting_78  a0 x1 x2 x3 x4 u5) else
fX12_setRewriting_78  a0 x1 x2 x3 x4 u5) else
some ((-3 : Int32), u0)) else
some ((-3 : Int32), u0)) else
some (y1, u0)
-- HeaderSpaceNetworkModel.removeRule
def rmX12_removeRule : Room := { frames := 3, cells := 0, slots := 0, locals := 66 }
def fX12_removeRule (a0 : Nat) (x1 : Int32) (x2 : Int32) (u0 : UH) : Option (Int32 × UH) :=
ob (kd u0 12 a0 (fX12_ruleBarred a0 x1 x2 u0)) fun y1 =>
if (0 : Int32) ≤ y1 then (
ob (kd u0 12 a0 (fX12_keep a0 u0)) fun u2 =>
ob (kd u2 12 a0 (fX12_close a0 x1 x2 u2)) fun u3 =>
ob (kd u3 12 a0 (fX12_many a0 x1 u3)) fun y4 =>
some (y4, u3)) else
some (y1, u0)
-- HeaderSpaceNetworkModel.moveRule
def rmX12_moveRule : Room := { frames := 3, cells := 0, slots := 0, locals := 66 }
def fX12_moveRule_B35 (a0 : Nat) (x1 : Int32) (x2 : Int32)  (k : Int32 → UH → Option UH) (x5 : Int32) (u : UH) : Option UH :=
if (7 : Int32) ≤ x5 then (
some u) else
ob (rR u 12 9 a0) fun b4 =>
ob (kd u 12 a0 (fX12_of a0 x1 x2 x5 u)) fun y5 =>
ob (stI u b4 x5 y5) fun u6 =>
k (x5 + (1 : Int32)) u6
def fX12_moveRule_B78 (a0 : Nat) (x1 : Int32) (x3 : Int32)  (k : Int32 → UH → Option UH) (x5 : Int32) (u : UH) : Option UH :=
if (7 : Int32) ≤ x5 then (
some u) else
ob (rR u 12 9 a0) fun b11 =>
ob (ldI u 20 b11 x5) fun y12 =>
ob (kd u 12 a0 (fX12_put a0 x1 x3 x5 y12 u)) fun u13 =>
k (x5 + (1 : Int32)) u13
def fX12_moveRule (a0 : Nat) (x1 : Int32) (x2 : Int32) (x3 : Int32) (u0 : UH) : Option (Int32 × UH) :=
ob (kd u0 12 a0 (fX12_ruleBarred a0 x1 x2 u0)) fun y1 =>
if (0 : Int32) ≤ y1 then (
ob (kd u0 12 a0 (fX12_noRule a0 x1 x3 u0)) fun y2 =>
if y2 = (0 : Int32) then (
ob (kd u0 12 a0 (fX12_keep a0 u0)) fun u3 =>
ob (it2 (fX12_moveRule_B35 a0 x1 x2 ) FUEL (0 : Int32) u3) fun q7 =>
ob (kd q7 12 a0 (fX12_close a0 x1 x2 q7)) fun u9 =>
ob (kd u9 12 a0 (fX12_open a0 x1 x3 u9)) fun u10 =>
ob (it2 (fX12_moveRule_B78 a0 x1 x3 ) FUEL (0 : Int32) u10) fun q14 =>
if x2 = x3 then (
some ((0 : Int32), q14)) else
some ((1 : Int32), q14)) else
some ((-2 : Int32), u0)) else
some (y1, u0)
-- HeaderSpaceNetworkModel.switchRule
def rmX12_switchRule : Room := { frames := 3, cells := 0, slots := 0, locals := 66 }
def fX12_switchRule_49  (a0 : Nat) (x1 : Int32) (x2 : Int32) (x5 : Int32) (s0 : Int32) (u : UH) : Option (Int32 × UH) :=
ob (kd u 12 a0 (fX12_put a0 x1 x2 (6 : Int32) x5 u)) fun u4 =>
some (s0, u4)
def fX12_switchRule_29  (a0 : Nat) (x1 : Int32) (x2 : Int32) (s0 : Int32) (u : UH) : Option (Int32 × UH) :=
ob (kd u 12 a0 (fX12_of a0 x1 x2 (6 : Int32) u)) fun y3 =>
if y3 = s0 then (
fX12_switchRule_49  a0 x1 x2 s0 (0 : Int32) u) else
fX12_switchRule_49  a0 x1 x2 s0 (1 : Int32) u
def fX12_switchRule (a0 : Nat) (x1 : Int32) (x2 : Int32) (x3 : Int32) (u0 : UH) : Option (Int32 × UH) :=
ob (kd u0 12 a0 (fX12_ruleBarred a0 x1 x2 u0)) fun y1 =>
if (0 : Int32) ≤ y1 then (
ob (kd u0 12 a0 (fX12_keep a0 u0)) fun u2 =>
if x3 = (0 : Int32) then (
fX12_switchRule_29  a0 x1 x2 (0 : Int32) u2) else
fX12_switchRule_29  a0 x1 x2 (1 : Int32) u2) else
some (y1, u0)
-- HeaderSpaceNetworkModel.rule
def rmX12_rule : Room := { frames := 3, cells := 0, slots := 0, locals := 66 }
def fX12_rule (a0 : Nat) (x1 : Int32) (x2 : Int32) (x3 : Int32) (u0 : UH) : Option Int32 :=
ob (kd u0 12 a0 (fX12_ruleBarred a0 x1 x2 u0)) fun y1 =>
if (0 : Int32) ≤ y1 then (
ob (fX12_in x3 (0 : Int32) (6 : Int32) u0) fun y2 =>
if y2 = (0 : Int32) then (
some (-3 : Int32)) else
ob (kd u0 12 a0 (fX12_of a0 x1 x2 x3 u0)) fun y3 =>
some y3) else
some y1
-- HeaderSpaceNetworkModel.count
def rmX12_count : Room := { frames := 1, cells := 0, slots := 0, locals := 21 }
def fX12_count_B4 (a0 : Nat) (u0 : UH) (k : Int32 → Int32 → Option Int32) (x2 : Int32) (x3 : Int32)  : Option Int32 :=
if (6 : Int32) ≤ x3 then (
some x2) else
ob (kd u0 12 a0 (fX12_many a0 x3 u0)) fun y1 =>
lt (x2 + y1) fun y2 =>
k y2 (x3 + (1 : Int32))
def fX12_count (a0 : Nat) (x1 : Int32) (u0 : UH) : Option Int32 :=
ob (it2 (fX12_count_B4 a0 u0) FUEL (0 : Int32) (0 : Int32)) fun q3 =>
if x1 = nI 0 then (
ob (rI u0 12 0 a0) fun y5 =>
some y5) else
if x1 = nI 1 then (
ob (rI u0 12 2 a0) fun y6 =>
some y6) else
if x1 = nI 2 then (
some q3) else
if x1 = nI 3 then (
ob (rI u0 12 19 a0) fun y7 =>
some y7) else
if x1 = nI 4 then (
ob (rI u0 12 7 a0) fun y8 =>
some y8) else
some (-3 : Int32)
-- HeaderSpaceNetworkModel.matches
def rmX12_matches : Room := { frames := 1, cells := 0, slots := 0, locals := 23 }
def fX12_matches (a0 : Nat) (x1 : Int32) (x2 : Int32) (x3 : Int32) (x4 : Int32) (u0 : UH) : Option Int32 :=
ob (kd u0 12 a0 (fX12_of a0 x1 x2 (6 : Int32) u0)) fun y1 =>
if y1 = (1 : Int32) then (
ob (kd u0 12 a0 (fX12_of a0 x1 x2 (0 : Int32) u0)) fun y2 =>
if (jsr y2 x3) &&& (1 : Int32) = (1 : Int32) then (
ob (kd u0 12 a0 (fX12_of a0 x1 x2 (1 : Int32) u0)) fun y3 =>
ob (kd u0 12 a0 (fX12_of a0 x1 x2 (2 : Int32) u0)) fun y4 =>
if x4 &&& y3 = y4 then (
some (1 : Int32)) else
some (0 : Int32)) else
some (0 : Int32)) else
some (0 : Int32)
-- HeaderSpaceNetworkModel.handler
def rmX12_handler : Room := { frames := 2, cells := 0, slots := 0, locals := 47 }
def fX12_handler_B3 (a0 : Nat) (x1 : Int32) (x2 : Int32) (x3 : Int32) (u0 : UH) (k : Int32 → Option (Unit ⊕ Int32)) (x4 : Int32)  : Option (Unit ⊕ Int32) :=
ob (kd u0 12 a0 (fX12_many a0 x1 u0)) fun y1 =>
if y1 ≤ x4 then (
some (Sum.inl ())) else
ob (kd u0 12 a0 (fX12_matches a0 x1 x4 x2 x3 u0)) fun y2 =>
if y2 = (0 : Int32) then (
k (x4 + (1 : Int32))) else
some (Sum.inr x4)
def fX12_handler (a0 : Nat) (x1 : Int32) (x2 : Int32) (x3 : Int32) (u0 : UH) : Option Int32 :=
oe (it1 (fX12_handler_B3 a0 x1 x2 x3 u0) FUEL (0 : Int32)) (fun _ =>
some (-1 : Int32)) (fun x => some x)
-- HeaderSpaceNetworkModel.shadowed
def rmX12_shadowed : Room := { frames := 3, cells := 0, slots := 0, locals := 71 }
def fX12_shadowed_B13 (a0 : Nat) (x1 : Int32) (u0 : UH) (k : Int32 → Int32 → Option Int32) (x2 : Int32) (x3 : Int32)  : Option Int32 :=
ob (kd u0 12 a0 (fX12_many a0 x1 u0)) fun y2 =>
if y2 ≤ x3 then (
some x2) else
ob (kd u0 12 a0 (fX12_of a0 x1 x3 (6 : Int32) u0)) fun y3 =>
lt (x2 ||| (jsl y3 x3)) fun y4 =>
k y4 (x3 + (1 : Int32))
def fX12_shadowed_B51 (a0 : Nat) (x1 : Int32) (x3 : Int32) (u0 : UH) (k : Int32 → Int32 → Option Int32) (x2 : Int32) (x4 : Int32)  : Option Int32 :=
ob (kd u0 12 a0 (fX12_headers a0 u0)) fun y7 =>
if y7 ≤ x4 then (
some x2) else
ob (kd u0 12 a0 (fX12_handler a0 x1 x3 x4 u0)) fun y8 =>
if (0 : Int32) ≤ y8 then (
lt (x2 &&& ((jsl (1 : Int32) y8) ^^^ (-1 : Int32))) fun y9 =>
k y9 (x4 + (1 : Int32))) else
lt (x2 &&& (-1 : Int32)) fun y10 =>
k y10 (x4 + (1 : Int32))
def fX12_shadowed_B43 (a0 : Nat) (x1 : Int32) (u0 : UH) (k : Int32 → Int32 → Option Int32) (x2 : Int32) (x3 : Int32)  : Option Int32 :=
if (4 : Int32) ≤ x3 then (
some x2) else
ob (it2 (fX12_shadowed_B51 a0 x1 x3 u0) FUEL x2 (0 : Int32)) fun q11 =>
k q11 (x3 + (1 : Int32))
def fX12_shadowed (a0 : Nat) (x1 : Int32) (u0 : UH) : Option Int32 :=
ob (fX12_noBox x1 u0) fun y1 =>
if y1 = (0 : Int32) then (
ob (it2 (fX12_shadowed_B13 a0 x1 u0) FUEL (0 : Int32) (0 : Int32)) fun q5 =>
ob (it2 (fX12_shadowed_B43 a0 x1 u0) FUEL q5 (0 : Int32)) fun q13 =>
some q13) else
some (-1 : Int32)
-- HeaderSpaceNetworkModel.isInjected
def rmX12_isInjected : Room := { frames := 2, cells := 0, slots := 0, locals := 43 }
def fX12_isInjected (a0 : Nat) (x1 : Int32) (u0 : UH) : Option Int32 :=
ob (kd u0 12 a0 (fX12_noHeader a0 x1 u0)) fun y1 =>
if y1 = (0 : Int32) then (
ob (rI u0 12 5 a0) fun y2 =>
ob (rI u0 12 6 a0) fun y3 =>
if x1 &&& y2 = y3 then (
some (1 : Int32)) else
some (0 : Int32)) else
some (0 : Int32)
-- HeaderSpaceNetworkModel.injected
def rmX12_injected : Room := { frames := 3, cells := 0, slots := 0, locals := 64 }
def fX12_injected_B4 (a0 : Nat) (u0 : UH) (k : Int64 → Int32 → Option Int64) (x1 : Int64) (x3 : Int32)  : Option Int64 :=
ob (kd u0 12 a0 (fX12_headers a0 u0)) fun y1 =>
if y1 ≤ x3 then (
some x1) else
ob (kd u0 12 a0 (fX12_isInjected a0 x3 u0)) fun y2 =>
if y2 = (0 : Int32) then (
lt (x1 ||| (0 : Int64)) fun y3 =>
k y3 (x3 + (1 : Int32))) else
lt (x1 ||| (jlsl (1 : Int64) x3)) fun y4 =>
k y4 (x3 + (1 : Int32))
def fX12_injected (a0 : Nat) (u0 : UH) : Option Int64 :=
ob (it2 (fX12_injected_B4 a0 u0) FUEL (0 : Int64) (0 : Int32)) fun q5 =>
some q5
-- HeaderSpaceNetworkModel.rewritten
def rmX12_rewritten : Room := { frames := 1, cells := 0, slots := 0, locals := 23 }
def fX12_rewritten (a0 : Nat) (x1 : Int32) (x2 : Int32) (x3 : Int32) (u0 : UH) : Option Int32 :=
ob (kd u0 12 a0 (fX12_of a0 x1 x2 (4 : Int32) u0)) fun y1 =>
ob (kd u0 12 a0 (fX12_of a0 x1 x2 (5 : Int32) u0)) fun y2 =>
some ((x3 &&& (y1 ^^^ (-1 : Int32))) ||| y2)
-- HeaderSpaceNetworkModel.goOn
def rmX12_goOn : Room := { frames := 3, cells := 0, slots := 0, locals := 71 }
def fX12_goOn_B36 (a0 : Nat) (x3 : Int32) (x4 : Int32) (x5 : Int64)  (k : Int32 → UH → Option UH) (x7 : Int32) (u : UH) : Option UH :=
if (4 : Int32) ≤ x7 then (
some u) else
ob (kd u 12 a0 (fX12_of a0 x3 x4 (3 : Int32) u)) fun y5 =>
if (jsr y5 x7) &&& (1 : Int32) = (1 : Int32) then (
lt (((4 : Int32) * x3) + x7) fun y6 =>
ob (rR u 12 1 a0) fun b7 =>
ob (ldI u 20 b7 y6) fun y8 =>
if (0 : Int32) ≤ y8 then (
ob (rR u 12 10 a0) fun b9 =>
ob (rR u 12 1 a0) fun b10 =>
ob (ldI u 20 b10 y6) fun y11 =>
ob (ldJ u b9 y11) fun y12 =>
ob (stJ u b9 y11 (y12 ||| x5)) fun u13 =>
k (x7 + (1 : Int32)) u13) else
ob (rR u 12 12 a0) fun b14 =>
ob (ldJ u b14 y6) fun y15 =>
ob (stJ u b14 y6 (y15 ||| x5)) fun u16 =>
k (x7 + (1 : Int32)) u16) else
k (x7 + (1 : Int32)) u
def fX12_goOn (a0 : Nat) (x1 : Int32) (x2 : Int32) (u0 : UH) : Option UH :=
lt (x1 / (4 : Int32)) fun y1 =>
ob (kd u0 12 a0 (fX12_handler a0 y1 (jrem x1 (4 : Int32)) x2 u0)) fun y2 =>
if (0 : Int32) ≤ y2 then (
ob (kd u0 12 a0 (fX12_rewritten a0 y1 y2 x2 u0)) fun y3 =>
lt (jlsl (1 : Int64) y3) fun y4 =>
ob (it2 (fX12_goOn_B36 a0 y1 y2 y4 ) FUEL (0 : Int32) u0) fun q17 =>
some q17) else
some u0
-- HeaderSpaceNetworkModel.spread
def rmX12_spread : Room := { frames := 4, cells := 0, slots := 0, locals := 99 }
def fX12_spread_B3 (a0 : Nat)  (k : Int32 → UH → Option UH) (x4 : Int32) (u : UH) : Option UH :=
if (24 : Int32) ≤ x4 then (
some u) else
ob (rR u 12 10 a0) fun b1 =>
ob (stJ u b1 x4 (0 : Int64)) fun u2 =>
ob (rR u2 12 11 a0) fun b3 =>
ob (stJ u2 b3 x4 (0 : Int64)) fun u4 =>
ob (rR u4 12 12 a0) fun b5 =>
ob (stJ u4 b5 x4 (0 : Int64)) fun u6 =>
k (x4 + (1 : Int32)) u6
def fX12_spread_B123 (a0 : Nat) (x5 : Int32) (x6 : Int64)  (k : Int32 → UH → Option UH) (x8 : Int32) (u : UH) : Option UH :=
ob (kd u 12 a0 (fX12_headers a0 u)) fun y19 =>
if y19 ≤ x8 then (
some u) else
if x6 = (0 : Int64) then (
some u) else
if (jlsr x6 x8) &&& (1 : Int64) = (1 : Int64) then (
ob (kd u 12 a0 (fX12_goOn a0 x5 x8 u)) fun u20 =>
k (x8 + (1 : Int32)) u20) else
k (x8 + (1 : Int32)) u
def fX12_spread_118 (k : Int32 → Int32 → UH → Option (Int32 × UH)) (a0 : Nat) (x5 : Int32) (x6 : Int64) (s0 : Int32) (u : UH) : Option (Int32 × UH) :=
ob (it2 (fX12_spread_B123 a0 x5 x6 ) FUEL (0 : Int32) u) fun q21 =>
k s0 (x5 + (1 : Int32)) q21
def fX12_spread_113 (k : Int32 → Int32 → UH → Option (Int32 × UH)) (a0 : Nat) (x5 : Int32) (x6 : Int64) (u : UH) : Option (Int32 × UH) :=
fX12_spread_118 k a0 x5 x6 (1 : Int32) u
def fX12_spread_B61 (a0 : Nat)  (k : Int32 → Int32 → UH → Option (Int32 × UH)) (x4 : Int32) (x5 : Int32) (u : UH) : Option (Int32 × UH) :=
if (24 : Int32) ≤ x5 then (
some (x4, u)) else
ob (rR u 12 10 a0) fun b11 =>
ob (ldJ u b11 x5) fun y12 =>
ob (rR u 12 11 a0) fun b13 =>
ob (ldJ u b13 x5) fun y14 =>
lt (y12 &&& (y14 ^^^ (-1 : Int64))) fun y15 =>
ob (rR u 12 11 a0) fun b16 =>
ob (ldJ u b16 x5) fun y17 =>
ob (stJ u b16 x5 (y17 ||| y15)) fun u18 =>
if x4 = (0 : Int32) then (
if y15 = (0 : Int64) then (
fX12_spread_118 k a0 x5 y15 (0 : Int32) u18) else
fX12_spread_113 k a0 x5 y15 u18) else
fX12_spread_113 k a0 x5 y15 u18
def fX12_spread_B50 (a0 : Nat)  (k : Int32 → UH → Option UH) (x4 : Int32) (u : UH) : Option UH :=
if x4 = (0 : Int32) then (
some u) else
ob (it3 (fX12_spread_B61 a0 ) FUEL (0 : Int32) (0 : Int32) u) fun q23 =>
k q23.1 q23.2
def fX12_spread (a0 : Nat) (x1 : Int32) (x2 : Int64) (u0 : UH) : Option UH :=
ob (it2 (fX12_spread_B3 a0 ) FUEL (0 : Int32) u0) fun q7 =>
ob (rR q7 12 10 a0) fun b9 =>
ob (stJ q7 b9 x1 x2) fun u10 =>
ob (it2 (fX12_spread_B50 a0 ) FUEL (1 : Int32) u10) fun q26 =>
some q26
-- HeaderSpaceNetworkModel.spreadAll
def rmX12_spreadAll : Room := { frames := 5, cells := 0, slots := 0, locals := 127 }
def fX12_spreadAll (a0 : Nat) (u0 : UH) : Option UH :=
ob (rI u0 12 4 a0) fun y1 =>
ob (kd u0 12 a0 (fX12_injected a0 u0)) fun y2 =>
ob (kd u0 12 a0 (fX12_spread a0 y1 y2 u0)) fun u3 =>
some u3
-- HeaderSpaceNetworkModel.size
def rmX12_size : Room := { frames := 0, cells := 0, slots := 0, locals := 0 }
def fX12_size_B4  (u0 : UH) (k : Int32 → Int64 → Option Int32) (x2 : Int32) (x3 : Int64)  : Option Int32 :=
if x3 = (0 : Int64) then (
some x2) else
lt (x3 &&& (x3 - (1 : Int64))) fun y1 =>
k (x2 + (1 : Int32)) y1
def fX12_size (x0 : Int64) (u0 : UH) : Option Int32 :=
ob (it2 (fX12_size_B4  u0) FUEL (0 : Int32) x0) fun q2 =>
some q2
-- HeaderSpaceNetworkModel.inject
def rmX12_inject : Room := { frames := 4, cells := 0, slots := 0, locals := 87 }
def fX12_inject (a0 : Nat) (x1 : Int32) (x2 : Int32) (x3 : Int32) (x4 : Int32) (u0 : UH) : Option (Int32 × UH) :=
ob (fX12_noPlace x1 x2 u0) fun y1 =>
if y1 = (0 : Int32) then (
ob (kd u0 12 a0 (fX12_noHeader a0 x3 u0)) fun y2 =>
if y2 = (0 : Int32) then (
ob (kd u0 12 a0 (fX12_noHeader a0 x4 u0)) fun y3 =>
if y3 = (0 : Int32) then (
ob (wI u0 12 4 a0 (((4 : Int32) * x1) + x2)) fun u4 =>
ob (wI u4 12 5 a0 x3) fun u5 =>
ob (wI u5 12 6 a0 (x4 &&& x3)) fun u6 =>
ob (kd u6 12 a0 (fX12_injected a0 u6)) fun y7 =>
ob (fX12_size y7 u6) fun y8 =>
some (y8, u6)) else
some ((-3 : Int32), u0)) else
some ((-3 : Int32), u0)) else
some ((-1 : Int32), u0)
-- HeaderSpaceNetworkModel.arriving
def rmX12_arriving : Room := { frames := 6, cells := 0, slots := 0, locals := 147 }
def fX12_arriving (a0 : Nat) (x1 : Int32) (x2 : Int32) (u0 : UH) : Option (Int64 × UH) :=
ob (fX12_noPlace x1 x2 u0) fun y1 =>
if y1 = (0 : Int32) then (
ob (kd u0 12 a0 (fX12_spreadAll a0 u0)) fun u2 =>
ob (rR u2 12 10 a0) fun b3 =>
ob (ldJ u2 b3 (((4 : Int32) * x1) + x2)) fun y4 =>
some (y4, u2)) else
ob (fX12_lost  u0) fun y5 =>
some (y5, u0)
-- HeaderSpaceNetworkModel.delivered
def rmX12_delivered : Room := { frames := 6, cells := 0, slots := 0, locals := 147 }
def fX12_delivered (a0 : Nat) (x1 : Int32) (x2 : Int32) (u0 : UH) : Option (Int64 × UH) :=
ob (fX12_noPlace x1 x2 u0) fun y1 =>
if y1 = (0 : Int32) then (
ob (kd u0 12 a0 (fX12_spreadAll a0 u0)) fun u2 =>
ob (rR u2 12 12 a0) fun b3 =>
ob (ldJ u2 b3 (((4 : Int32) * x1) + x2)) fun y4 =>
some (y4, u2)) else
ob (fX12_lost  u0) fun y5 =>
some (y5, u0)
-- HeaderSpaceNetworkModel.handledBy
def rmX12_handledBy : Room := { frames := 3, cells := 0, slots := 0, locals := 71 }
def fX12_handledBy_B14 (a0 : Nat) (x1 : Int32) (x2 : Int32) (x4 : Int32) (u0 : UH) (k : Int32 → Int32 → Option Int32) (x3 : Int32) (x5 : Int32)  : Option Int32 :=
ob (kd u0 12 a0 (fX12_headers a0 u0)) fun y1 =>
if y1 ≤ x5 then (
some x3) else
ob (rR u0 12 10 a0) fun b2 =>
ob (ldJ u0 b2 (((4 : Int32) * x1) + x4)) fun y3 =>
if (jlsr y3 x5) &&& (1 : Int64) = (1 : Int64) then (
ob (kd u0 12 a0 (fX12_handler a0 x1 x4 x5 u0)) fun y5 =>
if y5 = x2 then (
lt (x3 + (1 : Int32)) fun y7 =>
k y7 (x5 + (1 : Int32))) else
lt (x3 + (0 : Int32)) fun y6 =>
k y6 (x5 + (1 : Int32))) else
lt (x3 + (0 : Int32)) fun y4 =>
k y4 (x5 + (1 : Int32))
def fX12_handledBy_B5 (a0 : Nat) (x1 : Int32) (x2 : Int32) (u0 : UH) (k : Int32 → Int32 → Option Int32) (x3 : Int32) (x4 : Int32)  : Option Int32 :=
if (4 : Int32) ≤ x4 then (
some x3) else
ob (it2 (fX12_handledBy_B14 a0 x1 x2 x4 u0) FUEL x3 (0 : Int32)) fun q8 =>
k q8 (x4 + (1 : Int32))
def fX12_handledBy (a0 : Nat) (x1 : Int32) (x2 : Int32) (u0 : UH) : Option Int32 :=
ob (it2 (fX12_handledBy_B5 a0 x1 x2 u0) FUEL (0 : Int32) (0 : Int32)) fun q10 =>
some q10
-- HeaderSpaceNetworkModel.arrivals
def rmX12_arrivals : Room := { frames := 6, cells := 0, slots := 0, locals := 147 }
def fX12_arrivals_80 (k : Int32 → Int32 → Option Int32) (a0 : Nat) (x1 : Int32) (x2 : Int32) (x5 : Int32) (s0 : Int32) (u : UH) : Option Int32 :=
ob (kd u 12 a0 (fX12_handledBy a0 x1 x5 u)) fun y6 =>
lt (s0 + y6) fun y7 =>
k y7 (x5 + (1 : Int32))
def fX12_arrivals_B53 (a0 : Nat) (x1 : Int32) (x2 : Int32) (u : UH) (k : Int32 → Int32 → Option Int32) (x4 : Int32) (x5 : Int32)  : Option Int32 :=
ob (kd u 12 a0 (fX12_many a0 x1 u)) fun y5 =>
if y5 ≤ x5 then (
some x4) else
if x2 = (0 : Int32) then (
fX12_arrivals_80 k a0 x1 x2 x5 x4 u) else
ob (kd u 12 a0 (fX12_of a0 x1 x5 (3 : Int32) u)) fun y8 =>
if y8 = (0 : Int32) then (
fX12_arrivals_80 k a0 x1 x2 x5 x4 u) else
lt (x4 + (0 : Int32)) fun y9 =>
k y9 (x5 + (1 : Int32))
def fX12_arrivals_48  (a0 : Nat) (x1 : Int32) (x2 : Int32) (s0 : Int32) (u : UH) : Option (Int32 × UH) :=
ob (it2 (fX12_arrivals_B53 a0 x1 x2 u) FUEL s0 (0 : Int32)) fun q10 =>
some (q10, u)
def fX12_arrivals (a0 : Nat) (x1 : Int32) (x2 : Int32) (u0 : UH) : Option (Int32 × UH) :=
ob (fX12_noBox x1 u0) fun y1 =>
if y1 = (0 : Int32) then (
ob (fX12_in x2 (0 : Int32) (2 : Int32) u0) fun y2 =>
if y2 = (0 : Int32) then (
some ((-3 : Int32), u0)) else
ob (kd u0 12 a0 (fX12_spreadAll a0 u0)) fun u3 =>
ob (kd u3 12 a0 (fX12_handledBy a0 x1 (-1 : Int32) u3)) fun y4 =>
if x2 = (2 : Int32) then (
some (y4, u3)) else
if x2 = (0 : Int32) then (
fX12_arrivals_48  a0 x1 x2 y4 u3) else
fX12_arrivals_48  a0 x1 x2 (0 : Int32) u3) else
some ((-1 : Int32), u0)
-- HeaderSpaceNetworkModel.hits
def rmX12_hits : Room := { frames := 6, cells := 0, slots := 0, locals := 147 }
def fX12_hits (a0 : Nat) (x1 : Int32) (x2 : Int32) (u0 : UH) : Option (Int32 × UH) :=
ob (kd u0 12 a0 (fX12_ruleBarred a0 x1 x2 u0)) fun y1 =>
if (0 : Int32) ≤ y1 then (
ob (kd u0 12 a0 (fX12_spreadAll a0 u0)) fun u2 =>
ob (kd u2 12 a0 (fX12_handledBy a0 x1 x2 u2)) fun y3 =>
some (y3, u2)) else
some (y1, u0)
-- HeaderSpaceNetworkModel.cubeOf
def rmX12_cubeOf : Room := { frames := 1, cells := 0, slots := 0, locals := 20 }
def fX12_cubeOf_B5 (a0 : Nat) (x1 : Int32) (x2 : Int32) (u0 : UH) (k : Int64 → Int32 → Option Int64) (x3 : Int64) (x5 : Int32)  : Option Int64 :=
ob (kd u0 12 a0 (fX12_headers a0 u0)) fun y1 =>
if y1 ≤ x5 then (
some x3) else
if x5 &&& x1 = x2 &&& x1 then (
lt (x3 ||| (jlsl (1 : Int64) x5)) fun y3 =>
k y3 (x5 + (1 : Int32))) else
lt (x3 ||| (0 : Int64)) fun y2 =>
k y2 (x5 + (1 : Int32))
def fX12_cubeOf (a0 : Nat) (x1 : Int32) (x2 : Int32) (u0 : UH) : Option Int64 :=
ob (it2 (fX12_cubeOf_B5 a0 x1 x2 u0) FUEL (0 : Int64) (0 : Int32)) fun q4 =>
some q4
-- HeaderSpaceNetworkModel.cube
def rmX12_cube : Room := { frames := 6, cells := 0, slots := 0, locals := 147 }
def fX12_cube_B60 (x7 : Int64) (u : UH) (k : Int32 → Option Int32) (x10 : Int32)  : Option Int32 :=
if (jlsr x7 x10) &&& (1 : Int64) = (0 : Int64) then (
k (x10 + (1 : Int32))) else
some x10
def fX12_cube_B89 (a0 : Nat) (x5 : Int64) (x10 : Int32) (u : UH) (k : Int32 → Int32 → Option Int32) (x11 : Int32) (x12 : Int32)  : Option Int32 :=
ob (rI u 12 0 a0) fun y10 =>
if y10 ≤ x12 then (
some x11) else
ob (kd u 12 a0 (fX12_cubeOf a0 (x11 &&& ((jsl (1 : Int32) x12) ^^^ (-1 : Int32))) x10 u)) fun y11 =>
if y11 &&& (x5 ^^^ (-1 : Int64)) = (0 : Int64) then (
lt (x11 &&& ((jsl (1 : Int32) x12) ^^^ (-1 : Int32))) fun y12 =>
k y12 (x12 + (1 : Int32))) else
k x11 (x12 + (1 : Int32))
def fX12_cube_B50 (a0 : Nat) (x3 : Int32) (x4 : Int32) (x5 : Int64) (u : UH) (k : Int64 → Int32 → Option (Unit ⊕ (Int32 × UH))) (x7 : Int64) (x9 : Int32)  : Option (Unit ⊕ (Int32 × UH)) :=
if x7 = (0 : Int64) then (
some (Sum.inl ())) else
ob (it1 (fX12_cube_B60 x7 u) FUEL (0 : Int32)) fun q6 =>
ob (kd u 12 a0 (fX12_headers a0 u)) fun y8 =>
lt (y8 - (1 : Int32)) fun y9 =>
ob (it2 (fX12_cube_B89 a0 x5 q6 u) FUEL y9 (0 : Int32)) fun q13 =>
if x9 = x3 then (
if x4 = (0 : Int32) then (
some (Sum.inr (q13, u))) else
some (Sum.inr (q6 &&& q13, u))) else
ob (kd u 12 a0 (fX12_cubeOf a0 q13 q6 u)) fun y15 =>
lt (x7 &&& (y15 ^^^ (-1 : Int64))) fun y16 =>
k y16 (x9 + (1 : Int32))
def fX12_cube (a0 : Nat) (x1 : Int32) (x2 : Int32) (x3 : Int32) (x4 : Int32) (u0 : UH) : Option (Int32 × UH) :=
ob (fX12_noPlace x1 x2 u0) fun y1 =>
if y1 = (0 : Int32) then (
if x3 < (0 : Int32) then (
some ((-3 : Int32), u0)) else
ob (fX12_in x4 (0 : Int32) (1 : Int32) u0) fun y2 =>
if y2 = (0 : Int32) then (
some ((-3 : Int32), u0)) else
ob (kd u0 12 a0 (fX12_spreadAll a0 u0)) fun u3 =>
ob (rR u3 12 10 a0) fun b4 =>
ob (ldJ u3 b4 (((4 : Int32) * x1) + x2)) fun y5 =>
oe (it2 (fX12_cube_B50 a0 x3 x4 y5 u3) FUEL y5 (0 : Int32)) (fun _ =>
some ((-6 : Int32), u3)) (fun x => some x)) else
some ((-1 : Int32), u0)
-- HeaderSpaceNetworkModel.origin
def rmX12_origin : Room := { frames := 5, cells := 0, slots := 0, locals := 127 }
def fX12_origin_B24 (a0 : Nat) (x1 : Int32) (x2 : Int32) (x3 : Int32)  (k : Int32 → UH → Option (UH ⊕ (Int32 × UH))) (x4 : Int32) (u : UH) : Option (UH ⊕ (Int32 × UH)) :=
ob (kd u 12 a0 (fX12_headers a0 u)) fun y3 =>
if y3 ≤ x4 then (
some (Sum.inl u)) else
ob (kd u 12 a0 (fX12_isInjected a0 x4 u)) fun y4 =>
if y4 = (0 : Int32) then (
k (x4 + (1 : Int32)) u) else
ob (rI u 12 4 a0) fun y5 =>
ob (kd u 12 a0 (fX12_spread a0 y5 (jlsl (1 : Int64) x4) u)) fun u6 =>
ob (rR u6 12 10 a0) fun b7 =>
ob (ldJ u6 b7 (((4 : Int32) * x1) + x2)) fun y8 =>
if (jlsr y8 x3) &&& (1 : Int64) = (1 : Int64) then (
some (Sum.inr (x4, u6))) else
k (x4 + (1 : Int32)) u6
def fX12_origin (a0 : Nat) (x1 : Int32) (x2 : Int32) (x3 : Int32) (u0 : UH) : Option (Int32 × UH) :=
ob (fX12_noPlace x1 x2 u0) fun y1 =>
if y1 = (0 : Int32) then (
ob (kd u0 12 a0 (fX12_noHeader a0 x3 u0)) fun y2 =>
if y2 = (0 : Int32) then (
oe (it2 (fX12_origin_B24 a0 x1 x2 x3 ) FUEL (0 : Int32) u0) (fun q9 =>
some ((-6 : Int32), q9)) (fun x => some x)) else
some ((-3 : Int32), u0)) else
some ((-1 : Int32), u0)
-- HeaderSpaceNetworkModel.distance
def rmX12_distance : Room := { frames := 4, cells := 0, slots := 0, locals := 99 }
def fX12_distance_B24 (a0 : Nat)  (k : Int32 → UH → Option UH) (x4 : Int32) (u : UH) : Option UH :=
if (24 : Int32) ≤ x4 then (
some u) else
ob (rR u 12 10 a0) fun b3 =>
ob (stJ u b3 x4 (0 : Int64)) fun u4 =>
ob (rR u4 12 11 a0) fun b5 =>
ob (stJ u4 b5 x4 (0 : Int64)) fun u6 =>
k (x4 + (1 : Int32)) u6
def fX12_distance_B100 (a0 : Nat)  (k : Int32 → Int32 → UH → Option (Int32 × UH)) (x4 : Int32) (x6 : Int32) (u : UH) : Option (Int32 × UH) :=
if (24 : Int32) ≤ x6 then (
some (x4, u)) else
ob (rR u 12 13 a0) fun b14 =>
ob (rR u 12 10 a0) fun b15 =>
ob (ldJ u b15 x6) fun y16 =>
ob (rR u 12 11 a0) fun b17 =>
ob (ldJ u b17 x6) fun y18 =>
ob (stJ u b14 x6 (y16 &&& (y18 ^^^ (-1 : Int64)))) fun u19 =>
ob (rR u19 12 11 a0) fun b20 =>
ob (ldJ u19 b20 x6) fun y21 =>
ob (rR u19 12 13 a0) fun b22 =>
ob (ldJ u19 b22 x6) fun y23 =>
ob (stJ u19 b20 x6 (y21 ||| y23)) fun u24 =>
if x4 = (0 : Int32) then (
ob (rR u24 12 13 a0) fun b25 =>
ob (ldJ u24 b25 x6) fun y26 =>
if y26 = (0 : Int64) then (
k (0 : Int32) (x6 + (1 : Int32)) u24) else
k (1 : Int32) (x6 + (1 : Int32)) u24) else
k (1 : Int32) (x6 + (1 : Int32)) u24
def fX12_distance_B193 (a0 : Nat) (x6 : Int32)  (k : Int32 → UH → Option UH) (x7 : Int32) (u : UH) : Option UH :=
ob (kd u 12 a0 (fX12_headers a0 u)) fun y30 =>
if y30 ≤ x7 then (
some u) else
ob (rR u 12 13 a0) fun b31 =>
ob (ldJ u b31 x6) fun y32 =>
if (jlsr y32 x7) &&& (1 : Int64) = (1 : Int64) then (
ob (kd u 12 a0 (fX12_goOn a0 x6 x7 u)) fun u33 =>
k (x7 + (1 : Int32)) u33) else
k (x7 + (1 : Int32)) u
def fX12_distance_B183 (a0 : Nat)  (k : Int32 → UH → Option UH) (x6 : Int32) (u : UH) : Option UH :=
if (24 : Int32) ≤ x6 then (
some u) else
ob (it2 (fX12_distance_B193 a0 x6 ) FUEL (0 : Int32) u) fun q34 =>
k (x6 + (1 : Int32)) q34
def fX12_distance_B71 (a0 : Nat) (x2 : Int32) (x3 : Int32)  (k : Int32 → Int32 → UH → Option (UH ⊕ (Int32 × UH))) (x4 : Int32) (x5 : Int32) (u : UH) : Option (UH ⊕ (Int32 × UH)) :=
if x4 = (0 : Int32) then (
some (Sum.inl u)) else
ob (rR u 12 10 a0) fun b12 =>
ob (ldJ u b12 (((4 : Int32) * x2) + x3)) fun y13 =>
if y13 = (0 : Int64) then (
ob (it3 (fX12_distance_B100 a0 ) FUEL (0 : Int32) (0 : Int32) u) fun q27 =>
ob (it2 (fX12_distance_B183 a0 ) FUEL (0 : Int32) q27.2) fun q36 =>
k q27.1 (x5 + (1 : Int32)) q36) else
some (Sum.inr (x5, u))
def fX12_distance (a0 : Nat) (x1 : Int32) (x2 : Int32) (x3 : Int32) (u0 : UH) : Option (Int32 × UH) :=
ob (kd u0 12 a0 (fX12_isInjected a0 x1 u0)) fun y1 =>
if y1 = (0 : Int32) then (
some ((-3 : Int32), u0)) else
ob (fX12_noPlace x2 x3 u0) fun y2 =>
if y2 = (0 : Int32) then (
ob (it2 (fX12_distance_B24 a0 ) FUEL (0 : Int32) u0) fun q7 =>
ob (rR q7 12 10 a0) fun b9 =>
ob (rI q7 12 4 a0) fun y10 =>
ob (stJ q7 b9 y10 (jlsl (1 : Int64) x1)) fun u11 =>
oe (it3 (fX12_distance_B71 a0 x2 x3 ) FUEL (1 : Int32) (0 : Int32) u11) (fun q38 =>
some ((-6 : Int32), q38)) (fun x => some x)) else
some ((-1 : Int32), u0)
-- HeaderSpaceNetworkModel.wasThere
def rmX12_wasThere : Room := { frames := 0, cells := 0, slots := 0, locals := 0 }
def fX12_wasThere_B2 (a0 : Nat) (x1 : Int32) (u0 : UH) (k : Int32 → Option (Unit ⊕ Int32)) (x2 : Int32)  : Option (Unit ⊕ Int32) :=
ob (rI u0 12 15 a0) fun y1 =>
if y1 ≤ x2 then (
some (Sum.inl ())) else
ob (rR u0 12 14 a0) fun b2 =>
ob (ldI u0 20 b2 x2) fun y3 =>
if y3 = x1 then (
some (Sum.inr (1 : Int32))) else
k (x2 + (1 : Int32))
def fX12_wasThere (a0 : Nat) (x1 : Int32) (u0 : UH) : Option Int32 :=
oe (it1 (fX12_wasThere_B2 a0 x1 u0) FUEL (0 : Int32)) (fun _ =>
some (0 : Int32)) (fun x => some x)
-- HeaderSpaceNetworkModel.follow
def rmX12_follow : Room := { frames := 3, cells := 0, slots := 0, locals := 71 }
def fX12_follow_B116 (x7 : Int32) (u : UH) (k : Int32 → Option Int32) (x8 : Int32)  : Option Int32 :=
if (jsr x7 x8) &&& (1 : Int32) = (0 : Int32) then (
k (x8 + (1 : Int32))) else
some x8
def fX12_follow_165 (k : Int32 → Int32 → Int32 → UH → Option UH) (a0 : Nat) (x2 : Int32) (x3 : Int32) (s0 : Int32) (s1 : Nat) (u : UH) : Option UH :=
ob (wI u 12 16 s1 s0) fun u17 =>
if x2 < (0 : Int32) then (
k x2 x3 (0 : Int32) u17) else
ob (kd u17 12 a0 (fX12_wasThere a0 (((32 : Int32) * x2) + x3) u17)) fun y18 =>
if y18 = (0 : Int32) then (
k x2 x3 (1 : Int32) u17) else
k x2 x3 (0 : Int32) u17
def fX12_follow_105 (k : Int32 → Int32 → Int32 → UH → Option UH) (a0 : Nat) (x2 : Int32) (x3 : Int32) (x4 : Int32) (x5 : Int32) (x6 : Int32) (x7 : Int32) (s0 : Int32) (s1 : Nat) (u : UH) : Option UH :=
ob (wI u 12 16 s1 s0) fun u11 =>
if x4 = (0 : Int32) then (
k x2 x3 x4 u11) else
ob (it1 (fX12_follow_B116 x7 u11) FUEL (0 : Int32)) fun q12 =>
ob (kd u11 12 a0 (fX12_rewritten a0 x5 x6 x3 u11)) fun y14 =>
ob (rR u11 12 1 a0) fun b15 =>
ob (ldI u11 20 b15 (((4 : Int32) * x5) + q12)) fun y16 =>
if (0 : Int32) ≤ y16 then (
fX12_follow_165 k a0 y16 y14 (3 : Int32) a0 u11) else
fX12_follow_165 k a0 y16 y14 (0 : Int32) a0 u11
def fX12_follow_92 (k : Int32 → Int32 → Int32 → UH → Option UH) (a0 : Nat) (x2 : Int32) (x3 : Int32) (x5 : Int32) (x6 : Int32) (x7 : Int32) (s0 : Int32) (u : UH) : Option UH :=
if (0 : Int32) ≤ x6 then (
fX12_follow_105 k a0 x2 x3 s0 x5 x6 x7 (1 : Int32) a0 u) else
fX12_follow_105 k a0 x2 x3 s0 x5 x6 x7 (2 : Int32) a0 u
def fX12_follow_80 (k : Int32 → Int32 → Int32 → UH → Option UH) (a0 : Nat) (x2 : Int32) (x3 : Int32) (x5 : Int32) (x6 : Int32) (s0 : Int32) (u : UH) : Option UH :=
if s0 = (0 : Int32) then (
fX12_follow_92 k a0 x2 x3 x5 x6 s0 (0 : Int32) u) else
fX12_follow_92 k a0 x2 x3 x5 x6 s0 (1 : Int32) u
def fX12_follow_B15 (a0 : Nat)  (k : Int32 → Int32 → Int32 → UH → Option UH) (x2 : Int32) (x3 : Int32) (x4 : Int32) (u : UH) : Option UH :=
if x4 = (0 : Int32) then (
some u) else
ob (rR u 12 14 a0) fun b3 =>
ob (rI u 12 15 a0) fun y4 =>
ob (stI u b3 y4 (((32 : Int32) * x2) + x3)) fun u5 =>
ob (rI u5 12 15 a0) fun y6 =>
ob (wI u5 12 15 a0 (y6 + (1 : Int32))) fun u7 =>
lt (x2 / (4 : Int32)) fun y8 =>
ob (kd u7 12 a0 (fX12_handler a0 y8 (jrem x2 (4 : Int32)) x3 u7)) fun y9 =>
if (0 : Int32) ≤ y9 then (
ob (kd u7 12 a0 (fX12_of a0 y8 y9 (3 : Int32) u7)) fun y10 =>
fX12_follow_80 k a0 x2 x3 y8 y9 y10 u7) else
fX12_follow_80 k a0 x2 x3 y8 y9 (0 : Int32) u7
def fX12_follow (a0 : Nat) (x1 : Int32) (u0 : UH) : Option UH :=
ob (wI u0 12 15 a0 (0 : Int32)) fun u1 =>
ob (rI u1 12 4 a0) fun y2 =>
ob (it4 (fX12_follow_B15 a0 ) FUEL y2 x1 (1 : Int32) u1) fun q19 =>
some q19
-- HeaderSpaceNetworkModel.trace
def rmX12_trace : Room := { frames := 4, cells := 0, slots := 0, locals := 99 }
def fX12_trace (a0 : Nat) (x1 : Int32) (x2 : Int32) (u0 : UH) : Option (Int32 × UH) :=
ob (kd u0 12 a0 (fX12_isInjected a0 x1 u0)) fun y1 =>
if y1 = (0 : Int32) then (
some ((-3 : Int32), u0)) else
if (0 : Int32) ≤ x2 then (
ob (kd u0 12 a0 (fX12_follow a0 x1 u0)) fun u2 =>
ob (rI u2 12 15 a0) fun y3 =>
if x2 < y3 then (
ob (rR u2 12 14 a0) fun b4 =>
ob (ldI u2 20 b4 x2) fun y5 =>
lt (y5 / (32 : Int32)) fun y6 =>
ob (rR u2 12 14 a0) fun b7 =>
ob (ldI u2 20 b7 x2) fun y8 =>
some ((((1000 : Int32) * (y6 / (4 : Int32))) + ((100 : Int32) * (jrem y6 (4 : Int32)))) + (jrem y8 (32 : Int32)), u2)) else
some ((-6 : Int32), u2)) else
some ((-3 : Int32), u0)
-- HeaderSpaceNetworkModel.traceEnd
def rmX12_traceEnd : Room := { frames := 4, cells := 0, slots := 0, locals := 99 }
def fX12_traceEnd (a0 : Nat) (x1 : Int32) (u0 : UH) : Option (Int32 × UH) :=
ob (kd u0 12 a0 (fX12_isInjected a0 x1 u0)) fun y1 =>
if y1 = (0 : Int32) then (
some ((-3 : Int32), u0)) else
ob (kd u0 12 a0 (fX12_follow a0 x1 u0)) fun u2 =>
ob (rI u2 12 16 a0) fun y3 =>
some (y3, u2)
-- HeaderSpaceNetworkModel.isSafe
def rmX12_isSafe : Room := { frames := 3, cells := 0, slots := 0, locals := 71 }
def fX12_isSafe_72 (k : Int32 → Int32 → Option Int32) (a0 : Nat) (x2 : Int32) (x3 : Int32) (x4 : Int32) (x5 : Int32) (x6 : Int32) (x7 : Int32) (s0 : Int32) (u0 : UH) : Option Int32 :=
if x5 = (0 : Int32) then (
k (0 : Int32) (x6 + (1 : Int32))) else
if s0 = (0 : Int32) then (
k (1 : Int32) (x6 + (1 : Int32))) else
ob (rR u0 12 17 a0) fun b6 =>
ob (ldJ u0 b6 x7) fun y7 =>
ob (kd u0 12 a0 (fX12_rewritten a0 x3 x4 x2 u0)) fun y8 =>
if (jlsr y7 y8) &&& (1 : Int64) = (1 : Int64) then (
k (1 : Int32) (x6 + (1 : Int32))) else
k (0 : Int32) (x6 + (1 : Int32))
def fX12_isSafe_71 (k : Int32 → Int32 → Option Int32) (a0 : Nat) (x2 : Int32) (x3 : Int32) (x4 : Int32) (x5 : Int32) (x6 : Int32) (x7 : Int32) (u0 : UH) : Option Int32 :=
fX12_isSafe_72 k a0 x2 x3 x4 x5 x6 x7 (0 : Int32) u0
def fX12_isSafe_B21 (a0 : Nat) (x2 : Int32) (x3 : Int32) (x4 : Int32) (u0 : UH) (k : Int32 → Int32 → Option Int32) (x5 : Int32) (x6 : Int32)  : Option Int32 :=
if (4 : Int32) ≤ x6 then (
some x5) else
if x4 < (0 : Int32) then (
some x5) else
ob (rR u0 12 1 a0) fun b3 =>
ob (ldI u0 20 b3 (((4 : Int32) * x3) + x6)) fun y4 =>
ob (kd u0 12 a0 (fX12_of a0 x3 x4 (3 : Int32) u0)) fun y5 =>
if (jsr y5 x6) &&& (1 : Int32) = (1 : Int32) then (
if y4 < (0 : Int32) then (
fX12_isSafe_71 k a0 x2 x3 x4 x5 x6 y4 u0) else
fX12_isSafe_72 k a0 x2 x3 x4 x5 x6 y4 (1 : Int32) u0) else
fX12_isSafe_71 k a0 x2 x3 x4 x5 x6 y4 u0
def fX12_isSafe (a0 : Nat) (x1 : Int32) (x2 : Int32) (u0 : UH) : Option Int32 :=
lt (x1 / (4 : Int32)) fun y1 =>
ob (kd u0 12 a0 (fX12_handler a0 y1 (jrem x1 (4 : Int32)) x2 u0)) fun y2 =>
ob (it2 (fX12_isSafe_B21 a0 x2 y1 y2 u0) FUEL (1 : Int32) (0 : Int32)) fun q9 =>
bz q9 (some q9)
-- HeaderSpaceNetworkModel.loops
def rmX12_loops : Room := { frames := 4, cells := 0, slots := 0, locals := 99 }
def fX12_loops_B2 (a0 : Nat)  (k : Int32 → UH → Option UH) (x1 : Int32) (u : UH) : Option UH :=
if (24 : Int32) ≤ x1 then (
some u) else
ob (rR u 12 17 a0) fun b1 =>
ob (stJ u b1 x1 (0 : Int64)) fun u2 =>
k (x1 + (1 : Int32)) u2
def fX12_loops_B39 (a0 : Nat) (x2 : Int32)  (k : Int32 → Int32 → UH → Option (Int32 × UH)) (x1 : Int32) (x3 : Int32) (u : UH) : Option (Int32 × UH) :=
ob (kd u 12 a0 (fX12_headers a0 u)) fun y5 =>
if y5 ≤ x3 then (
some (x1, u)) else
ob (rR u 12 17 a0) fun b6 =>
ob (ldJ u b6 x2) fun y7 =>
if (jlsr y7 x3) &&& (1 : Int64) = (0 : Int64) then (
ob (kd u 12 a0 (fX12_isSafe a0 x2 x3 u)) fun y8 =>
if y8 = (0 : Int32) then (
k x1 (x3 + (1 : Int32)) u) else
ob (rR u 12 17 a0) fun b9 =>
ob (ldJ u b9 x2) fun y10 =>
ob (stJ u b9 x2 (y10 ||| (jlsl (1 : Int64) x3))) fun u11 =>
k (1 : Int32) (x3 + (1 : Int32)) u11) else
k x1 (x3 + (1 : Int32)) u
def fX12_loops_B31 (a0 : Nat)  (k : Int32 → Int32 → UH → Option (Int32 × UH)) (x1 : Int32) (x2 : Int32) (u : UH) : Option (Int32 × UH) :=
if (24 : Int32) ≤ x2 then (
some (x1, u)) else
ob (it3 (fX12_loops_B39 a0 x2 ) FUEL x1 (0 : Int32) u) fun q12 =>
k q12.1 (x2 + (1 : Int32)) q12.2
def fX12_loops_B23 (a0 : Nat)  (k : Int32 → UH → Option UH) (x1 : Int32) (u : UH) : Option UH :=
if x1 = (0 : Int32) then (
some u) else
ob (it3 (fX12_loops_B31 a0 ) FUEL (0 : Int32) (0 : Int32) u) fun q15 =>
k q15.1 q15.2
def fX12_loops (a0 : Nat) (u0 : UH) : Option (Int64 × UH) :=
ob (it2 (fX12_loops_B2 a0 ) FUEL (0 : Int32) u0) fun q3 =>
ob (it2 (fX12_loops_B23 a0 ) FUEL (1 : Int32) q3) fun q18 =>
ob (kd q18 12 a0 (fX12_injected a0 q18)) fun y20 =>
ob (rR q18 12 17 a0) fun b21 =>
ob (rI q18 12 4 a0) fun y22 =>
ob (ldJ q18 b21 y22) fun y23 =>
some (y20 &&& (y23 ^^^ (-1 : Int64)), q18)
-- HeaderSpaceNetworkModel.isOn
def rmX12_isOn : Room := { frames := 1, cells := 0, slots := 0, locals := 23 }
def fX12_isOn (a0 : Nat) (x1 : Int32) (u0 : UH) : Option Int32 :=
ob (kd u0 12 a0 (fX12_many a0 (x1 / (6 : Int32)) u0)) fun y1 =>
if y1 ≤ jrem x1 (6 : Int32) then (
some (0 : Int32)) else
ob (kd u0 12 a0 (fX12_of a0 (x1 / (6 : Int32)) (jrem x1 (6 : Int32)) (6 : Int32) u0)) fun y2 =>
if y2 = (1 : Int32) then (
some (1 : Int32)) else
some (0 : Int32)
-- HeaderSpaceNetworkModel.turn
def rmX12_turn : Room := { frames := 1, cells := 0, slots := 0, locals := 24 }
def fX12_turn (a0 : Nat) (x1 : Int32) (x2 : Int32) (u0 : UH) : Option UH :=
ob (kd u0 12 a0 (fX12_put a0 (x1 / (6 : Int32)) (jrem x1 (6 : Int32)) (6 : Int32) x2 u0)) fun u1 =>
some u1
-- HeaderSpaceNetworkModel.isStopped
def rmX12_isStopped : Room := { frames := 6, cells := 0, slots := 0, locals := 147 }
def fX12_isStopped (a0 : Nat) (x1 : Int32) (u0 : UH) : Option (Int32 × UH) :=
ob (kd u0 12 a0 (fX12_spreadAll a0 u0)) fun u1 =>
ob (rR u1 12 12 a0) fun b2 =>
ob (ldJ u1 b2 x1) fun y3 =>
if y3 = (0 : Int64) then (
some ((1 : Int32), u1)) else
some ((0 : Int32), u1)
-- HeaderSpaceNetworkModel.findCut
def rmX12_findCut : Room := { frames := 7, cells := 0, slots := 0, locals := 168 }
def fX12_findCut_B2 (a0 : Nat) (x2 : Int32)  (k : Int32 → UH → Option UH) (x3 : Int32) (u : UH) : Option UH :=
if x2 ≤ x3 then (
some u) else
ob (rR u 12 18 a0) fun b1 =>
ob (stI u b1 x3 (-1 : Int32)) fun u2 =>
k (x3 + (1 : Int32)) u2
def fX12_findCut_B110 (a0 : Nat) (x3 : Int32)  (k : UH → Option UH)  (u : UH) : Option UH :=
ob (rR u 12 18 a0) fun b14 =>
ob (ldI u 20 b14 x3) fun y15 =>
if (36 : Int32) ≤ y15 then (
some u) else
ob (rR u 12 18 a0) fun b16 =>
ob (ldI u 20 b16 x3) fun y17 =>
ob (kd u 12 a0 (fX12_isOn a0 y17 u)) fun y18 =>
if y18 = (0 : Int32) then (
ob (rR u 12 18 a0) fun b19 =>
ob (ldI u 20 b19 x3) fun y20 =>
ob (stI u b19 x3 (y20 + (1 : Int32))) fun u21 =>
k u21) else
some u
def fX12_findCut_202 (k : Int32 → Int32 → UH → Option (Int32 × UH)) (a0 : Nat) (x1 : Int32) (x2 : Int32) (x3 : Int32) (s0 : Int32) (u : UH) : Option (Int32 × UH) :=
if x2 - (1 : Int32) ≤ x3 then (
lt (x3 + (0 : Int32)) fun y29 =>
k y29 s0 u) else
lt (x3 + (1 : Int32)) fun y30 =>
k y30 s0 u
def fX12_findCut_201 (k : Int32 → Int32 → UH → Option (Int32 × UH)) (a0 : Nat) (x1 : Int32) (x2 : Int32) (x3 : Int32) (u : UH) : Option (Int32 × UH) :=
fX12_findCut_202 k a0 x1 x2 x3 (0 : Int32) u
def fX12_findCut_147 (k : Int32 → Int32 → UH → Option (Int32 × UH)) (a0 : Nat) (x1 : Int32) (x2 : Int32) (x3 : Int32) (x4 : Int32) (u : UH) : Option (Int32 × UH) :=
ob (rR u 12 18 a0) fun b24 =>
ob (ldI u 20 b24 x3) fun y25 =>
if y25 = (36 : Int32) then (
ob (rR u 12 18 a0) fun b33 =>
ob (stI u b33 x3 (-1 : Int32)) fun u34 =>
k (x3 + (-1 : Int32)) x4 u34) else
ob (rR u 12 18 a0) fun b26 =>
ob (ldI u 20 b26 x3) fun y27 =>
ob (kd u 12 a0 (fX12_turn a0 y27 (0 : Int32) u)) fun u28 =>
if x3 = x2 - (1 : Int32) then (
ob2 (kd u28 12 a0 (fX12_isStopped a0 x1 u28)) fun y31 u32 =>
if y31 = (0 : Int32) then (
fX12_findCut_201 k a0 x1 x2 x3 u32) else
fX12_findCut_202 k a0 x1 x2 x3 (1 : Int32) u32) else
fX12_findCut_201 k a0 x1 x2 x3 u28
def fX12_findCut_100 (k : Int32 → Int32 → UH → Option (Int32 × UH)) (a0 : Nat) (x1 : Int32) (x2 : Int32) (x3 : Int32) (x4 : Int32) (u : UH) : Option (Int32 × UH) :=
ob (rR u 12 18 a0) fun b11 =>
ob (ldI u 20 b11 x3) fun y12 =>
ob (stI u b11 x3 (y12 + (1 : Int32))) fun u13 =>
ob (it1 (fX12_findCut_B110 a0 x3 ) FUEL u13) fun q22 =>
fX12_findCut_147 k a0 x1 x2 x3 x4 q22
def fX12_findCut_99 (k : Int32 → Int32 → UH → Option (Int32 × UH)) (a0 : Nat) (x1 : Int32) (x2 : Int32) (x3 : Int32) (x4 : Int32) (s0 : Int32) (s1 : Int32) (s2 : Nat) (u : UH) : Option (Int32 × UH) :=
ob (stI u s2 s1 s0) fun u10 =>
fX12_findCut_100 k a0 x1 x2 x3 x4 u10
def fX12_findCut_B41 (a0 : Nat) (x1 : Int32) (x2 : Int32)  (k : Int32 → Int32 → UH → Option (Int32 × UH)) (x3 : Int32) (x4 : Int32) (u : UH) : Option (Int32 × UH) :=
if x3 < (0 : Int32) then (
some (x4, u)) else
if x2 ≤ x3 then (
some (x4, u)) else
if x4 = (0 : Int32) then (
ob (rR u 12 18 a0) fun b5 =>
ob (ldI u 20 b5 x3) fun y6 =>
if y6 < (0 : Int32) then (
ob (rR u 12 18 a0) fun b7 =>
if x3 = (0 : Int32) then (
fX12_findCut_99 k a0 x1 x2 x3 x4 (-1 : Int32) x3 b7 u) else
ob (rR u 12 18 a0) fun b8 =>
ob (ldI u 20 b8 (x3 - (1 : Int32))) fun y9 =>
fX12_findCut_99 k a0 x1 x2 x3 x4 y9 x3 b7 u) else
ob (rR u 12 18 a0) fun b35 =>
ob (ldI u 20 b35 x3) fun y36 =>
ob (kd u 12 a0 (fX12_turn a0 y36 (1 : Int32) u)) fun u37 =>
fX12_findCut_100 k a0 x1 x2 x3 x4 u37) else
some (x4, u)
def fX12_findCut_B225 (a0 : Nat) (x2 : Int32)  (k : Int32 → UH → Option UH) (x5 : Int32) (u : UH) : Option UH :=
if x2 ≤ x5 then (
some u) else
ob (rR u 12 18 a0) fun b41 =>
ob (ldI u 20 b41 x5) fun y42 =>
if y42 < (0 : Int32) then (
k (x5 + (1 : Int32)) u) else
ob (rR u 12 18 a0) fun b43 =>
ob (ldI u 20 b43 x5) fun y44 =>
ob (kd u 12 a0 (fX12_turn a0 y44 (1 : Int32) u)) fun u45 =>
k (x5 + (1 : Int32)) u45
def fX12_findCut_222  (a0 : Nat) (x2 : Int32) (x4 : Int32) (u : UH) : Option (Int32 × UH) :=
ob (it2 (fX12_findCut_B225 a0 x2 ) FUEL (0 : Int32) u) fun q46 =>
bz x4 (some (x4, q46))
def fX12_findCut_39  (a0 : Nat) (x1 : Int32) (x2 : Int32) (x3 : Int32) (s0 : Int32) (u : UH) : Option (Int32 × UH) :=
ob (it3 (fX12_findCut_B41 a0 x1 x2 ) FUEL x3 s0 u) fun q38 =>
fX12_findCut_222  a0 x2 q38.1 q38.2
def fX12_findCut_38  (a0 : Nat) (x1 : Int32) (x2 : Int32) (x3 : Int32) (u : UH) : Option (Int32 × UH) :=
fX12_findCut_39  a0 x1 x2 x3 (0 : Int32) u
def fX12_findCut (a0 : Nat) (x1 : Int32) (x2 : Int32) (u0 : UH) : Option (Int32 × UH) :=
ob (it2 (fX12_findCut_B2 a0 x2 ) FUEL (0 : Int32) u0) fun q3 =>
if x2 = (0 : Int32) then (
ob2 (kd q3 12 a0 (fX12_isStopped a0 x1 q3)) fun y48 u49 =>
if y48 = (0 : Int32) then (
fX12_findCut_38  a0 x1 x2 (0 : Int32) u49) else
fX12_findCut_39  a0 x1 x2 (0 : Int32) (1 : Int32) u49) else
fX12_findCut_38  a0 x1 x2 (0 : Int32) q3
-- HeaderSpaceNetworkModel.findSize
def rmX12_findSize : Room := { frames := 8, cells := 0, slots := 0, locals := 193 }
def fX12_findSize_B2 (a0 : Nat) (x1 : Int32)  (k : Int32 → UH → Option (UH ⊕ (Int32 × UH))) (x2 : Int32) (u : UH) : Option (UH ⊕ (Int32 × UH)) :=
if (4 : Int32) ≤ x2 then (
some (Sum.inl u)) else
ob2 (kd u 12 a0 (fX12_findCut a0 x1 x2 u)) fun y1 u2 =>
if y1 = (0 : Int32) then (
k (x2 + (1 : Int32)) u2) else
some (Sum.inr (x2, u2))
def fX12_findSize (a0 : Nat) (x1 : Int32) (u0 : UH) : Option (Int32 × UH) :=
oe (it2 (fX12_findSize_B2 a0 x1 ) FUEL (0 : Int32) u0) (fun q3 =>
some ((-6 : Int32), q3)) (fun x => some x)
-- HeaderSpaceNetworkModel.cutSize
def rmX12_cutSize : Room := { frames := 9, cells := 0, slots := 0, locals := 215 }
def fX12_cutSize (a0 : Nat) (x1 : Int32) (x2 : Int32) (u0 : UH) : Option (Int32 × UH) :=
ob (fX12_noPlace x1 x2 u0) fun y1 =>
if y1 = (0 : Int32) then (
ob2 (kd u0 12 a0 (fX12_findSize a0 (((4 : Int32) * x1) + x2) u0)) fun y2 u3 =>
some (y2, u3)) else
some ((-1 : Int32), u0)
-- HeaderSpaceNetworkModel.cutRule
def rmX12_cutRule : Room := { frames := 9, cells := 0, slots := 0, locals := 215 }
def fX12_cutRule (a0 : Nat) (x1 : Int32) (x2 : Int32) (x3 : Int32) (u0 : UH) : Option (Int32 × UH) :=
ob (fX12_noPlace x1 x2 u0) fun y1 =>
if y1 = (0 : Int32) then (
if (0 : Int32) ≤ x3 then (
ob2 (kd u0 12 a0 (fX12_findSize a0 (((4 : Int32) * x1) + x2) u0)) fun y2 u3 =>
if y2 ≤ x3 then (
some ((-6 : Int32), u3)) else
ob (rR u3 12 18 a0) fun b4 =>
ob (ldI u3 20 b4 x3) fun y5 =>
ob (rR u3 12 18 a0) fun b6 =>
ob (ldI u3 20 b6 x3) fun y7 =>
some (((10 : Int32) * (y5 / (6 : Int32))) + (jrem y7 (6 : Int32)), u3)) else
some ((-3 : Int32), u0)) else
some ((-1 : Int32), u0)
-- HeaderSpaceNetworkModel.addPolicy
def rmX12_addPolicy : Room := { frames := 3, cells := 0, slots := 0, locals := 63 }
def fX12_addPolicy (a0 : Nat) (x1 : Int32) (x2 : Int32) (x3 : Int32) (x4 : Int32) (x5 : Int32) (u0 : UH) : Option (Int32 × UH) :=
ob (fX12_noPlace x2 x3 u0) fun y1 =>
if y1 = (0 : Int32) then (
ob (fX12_noPlace x4 x5 u0) fun y2 =>
if y2 = (0 : Int32) then (
ob (rI u0 12 19 a0) fun y3 =>
if y3 = (8 : Int32) then (
some ((-5 : Int32), u0)) else
ob (rR u0 12 20 a0) fun b4 =>
ob (rI u0 12 19 a0) fun y5 =>
ob (stZ u0 b4 y5 x1) fun u6 =>
ob (rR u6 12 21 a0) fun b7 =>
ob (rI u6 12 19 a0) fun y8 =>
ob (stI u6 b7 y8 (((4 : Int32) * x2) + x3)) fun u9 =>
ob (rR u9 12 22 a0) fun b10 =>
ob (rI u9 12 19 a0) fun y11 =>
ob (stI u9 b10 y11 (((4 : Int32) * x4) + x5)) fun u12 =>
ob (rR u12 12 23 a0) fun b13 =>
ob (rI u12 12 19 a0) fun y14 =>
ob (stI u12 b13 y14 (0 : Int32)) fun u15 =>
ob (rR u15 12 24 a0) fun b16 =>
ob (rI u15 12 19 a0) fun y17 =>
ob (stI u15 b16 y17 (0 : Int32)) fun u18 =>
ob (rI u18 12 19 a0) fun y19 =>
ob (wI u18 12 19 a0 (y19 + (1 : Int32))) fun u20 =>
ob (rI u20 12 19 a0) fun y21 =>
some (y21 - (1 : Int32), u20)) else
some ((-1 : Int32), u0)) else
some ((-1 : Int32), u0)
-- HeaderSpaceNetworkModel.noPolicy
def rmX12_noPolicy : Room := { frames := 1, cells := 0, slots := 0, locals := 22 }
def fX12_noPolicy (a0 : Nat) (x1 : Int32) (u0 : UH) : Option Int32 :=
ob (rI u0 12 19 a0) fun y1 =>
ob (fX12_in x1 (0 : Int32) (y1 - (1 : Int32)) u0) fun y2 =>
if y2 = (0 : Int32) then (
some (1 : Int32)) else
some (0 : Int32)
-- HeaderSpaceNetworkModel.setPolicyCube
def rmX12_setPolicyCube : Room := { frames := 2, cells := 0, slots := 0, locals := 45 }
def fX12_setPolicyCube (a0 : Nat) (x1 : Int32) (x2 : Int32) (x3 : Int32) (u0 : UH) : Option (Int32 × UH) :=
ob (kd u0 12 a0 (fX12_noPolicy a0 x1 u0)) fun y1 =>
if y1 = (0 : Int32) then (
ob (kd u0 12 a0 (fX12_noHeader a0 x2 u0)) fun y2 =>
if y2 = (0 : Int32) then (
ob (kd u0 12 a0 (fX12_noHeader a0 x3 u0)) fun y3 =>
if y3 = (0 : Int32) then (
ob (rR u0 12 23 a0) fun b4 =>
ob (stI u0 b4 x1 x2) fun u5 =>
ob (rR u5 12 24 a0) fun b6 =>
ob (stI u5 b6 x1 (x3 &&& x2)) fun u7 =>
ob (kd u7 12 a0 (fX12_cubeOf a0 x2 x3 u7)) fun y8 =>
ob (fX12_size y8 u7) fun y9 =>
some (y9, u7)) else
some ((-3 : Int32), u0)) else
some ((-3 : Int32), u0)) else
some ((-3 : Int32), u0)
-- HeaderSpaceNetworkModel.against
def rmX12_against : Room := { frames := 5, cells := 0, slots := 0, locals := 127 }
def fX12_against_67 (k : Int64 → Int32 → UH → Option (Int64 × UH)) (a0 : Nat) (x1 : Int32) (x2 : Int64) (x4 : Int32) (s0 : Int32) (u : UH) : Option (Int64 × UH) :=
ob (rR u 12 20 a0) fun b13 =>
ob (ldI u 23 b13 x1) fun y14 =>
if s0 = y14 then (
lt (x2 ||| (0 : Int64)) fun y15 =>
k y15 (x4 + (1 : Int32)) u) else
lt (x2 ||| (jlsl (1 : Int64) x4)) fun y16 =>
k y16 (x4 + (1 : Int32)) u
def fX12_against_B5 (a0 : Nat) (x1 : Int32)  (k : Int64 → Int32 → UH → Option (Int64 × UH)) (x2 : Int64) (x4 : Int32) (u : UH) : Option (Int64 × UH) :=
ob (kd u 12 a0 (fX12_headers a0 u)) fun y1 =>
if y1 ≤ x4 then (
some (x2, u)) else
ob (rR u 12 23 a0) fun b2 =>
ob (ldI u 20 b2 x1) fun y3 =>
ob (rR u 12 24 a0) fun b4 =>
ob (ldI u 20 b4 x1) fun y5 =>
if x4 &&& y3 = y5 then (
ob (rR u 12 21 a0) fun b6 =>
ob (ldI u 20 b6 x1) fun y7 =>
ob (kd u 12 a0 (fX12_spread a0 y7 (jlsl (1 : Int64) x4) u)) fun u8 =>
ob (rR u8 12 12 a0) fun b9 =>
ob (rR u8 12 22 a0) fun b10 =>
ob (ldI u8 20 b10 x1) fun y11 =>
ob (ldJ u8 b9 y11) fun y12 =>
if y12 = (0 : Int64) then (
fX12_against_67 k a0 x1 x2 x4 (0 : Int32) u8) else
fX12_against_67 k a0 x1 x2 x4 (1 : Int32) u8) else
k x2 (x4 + (1 : Int32)) u
def fX12_against (a0 : Nat) (x1 : Int32) (u0 : UH) : Option (Int64 × UH) :=
ob (it3 (fX12_against_B5 a0 x1 ) FUEL (0 : Int64) (0 : Int32) u0) fun q17 =>
some (q17.1, q17.2)
-- HeaderSpaceNetworkModel.counterexamples
def rmX12_counterexamples : Room := { frames := 6, cells := 0, slots := 0, locals := 152 }
def fX12_counterexamples (a0 : Nat) (x1 : Int32) (u0 : UH) : Option (Int64 × UH) :=
ob (kd u0 12 a0 (fX12_noPolicy a0 x1 u0)) fun y1 =>
if y1 = (0 : Int32) then (
ob2 (kd u0 12 a0 (fX12_against a0 x1 u0)) fun y2 u3 =>
some (y2, u3)) else
ob (fX12_lost  u0) fun y4 =>
some (y4, u0)
-- HeaderSpaceNetworkModel.violated
def rmX12_violated : Room := { frames := 6, cells := 0, slots := 0, locals := 152 }
def fX12_violated_B4 (a0 : Nat)  (k : Int32 → Int32 → UH → Option (Int32 × UH)) (x1 : Int32) (x2 : Int32) (u : UH) : Option (Int32 × UH) :=
ob (rI u 12 19 a0) fun y1 =>
if y1 ≤ x2 then (
some (x1, u)) else
ob2 (kd u 12 a0 (fX12_against a0 x2 u)) fun y2 u3 =>
if y2 = (0 : Int64) then (
lt (x1 ||| (0 : Int32)) fun y4 =>
k y4 (x2 + (1 : Int32)) u3) else
lt (x1 ||| (jsl (1 : Int32) x2)) fun y5 =>
k y5 (x2 + (1 : Int32)) u3
def fX12_violated (a0 : Nat) (u0 : UH) : Option (Int32 × UH) :=
ob (it3 (fX12_violated_B4 a0 ) FUEL (0 : Int32) (0 : Int32) u0) fun q6 =>
some (q6.1, q6.2)
-- HeaderSpaceNetworkModel.clearPolicies
def rmX12_clearPolicies : Room := { frames := 0, cells := 0, slots := 0, locals := 0 }
def fX12_clearPolicies (a0 : Nat) (u0 : UH) : Option (Int32 × UH) :=
ob (rI u0 12 19 a0) fun y1 =>
ob (wI u0 12 19 a0 (0 : Int32)) fun u2 =>
some (y1, u2)
-- HeaderSpaceNetworkModel.type
def rmX12_type : Room := { frames := 0, cells := 0, slots := 0, locals := 0 }
def fX12_type (a0 : Nat) (x1 : Int32) (u0 : UH) : Option (Int32 × UH) :=
ob (rI u0 12 25 a0) fun y1 =>
if y1 = (40 : Int32) then (
some ((-5 : Int32), u0)) else
ob (rR u0 12 26 a0) fun b2 =>
ob (rI u0 12 25 a0) fun y3 =>
ob (stC u0 b2 y3 x1) fun u4 =>
ob (rI u4 12 25 a0) fun y5 =>
ob (wI u4 12 25 a0 (y5 + (1 : Int32))) fun u6 =>
ob (rI u6 12 25 a0) fun y7 =>
some (y7, u6)
-- HeaderSpaceNetworkModel.clearText
def rmX12_clearText : Room := { frames := 0, cells := 0, slots := 0, locals := 0 }
def fX12_clearText (a0 : Nat) (u0 : UH) : Option (Int32 × UH) :=
ob (rI u0 12 25 a0) fun y1 =>
ob (wI u0 12 25 a0 (0 : Int32)) fun u2 =>
some (y1, u2)
-- HeaderSpaceNetworkModel.isAt
def rmX12_isAt : Room := { frames := 0, cells := 0, slots := 0, locals := 0 }
def fX12_isAt (a0 : Nat) (x1 : Int32) (u0 : UH) : Option Int32 :=
ob (rI u0 12 27 a0) fun y1 =>
ob (rI u0 12 25 a0) fun y2 =>
if y2 ≤ y1 then (
some (0 : Int32)) else
ob (rR u0 12 26 a0) fun b3 =>
ob (rI u0 12 27 a0) fun y4 =>
ob (ldI u0 22 b3 y4) fun y5 =>
if y5 = x1 then (
some (1 : Int32)) else
some (0 : Int32)
-- HeaderSpaceNetworkModel.expect
def rmX12_expect : Room := { frames := 1, cells := 0, slots := 0, locals := 21 }
def fX12_expect_21  (a0 : Nat) (s0 : Int32) (s1 : Nat) (u : UH) : Option UH :=
ob (wZ u 12 28 s1 s0) fun u2 =>
ob (rI u2 12 27 a0) fun y3 =>
ob (rI u2 12 28 a0) fun y4 =>
if y4 = (0 : Int32) then (
ob (wI u2 12 27 a0 (y3 + (0 : Int32))) fun u5 =>
some u5) else
ob (wI u2 12 27 a0 (y3 + (1 : Int32))) fun u6 =>
some u6
def fX12_expect_20  (a0 : Nat) (s0 : Nat) (u : UH) : Option UH :=
fX12_expect_21  a0 (0 : Int32) s0 u
def fX12_expect (a0 : Nat) (x1 : Int32) (u0 : UH) : Option UH :=
ob (rI u0 12 28 a0) fun y1 =>
if y1 = (0 : Int32) then (
fX12_expect_20  a0 a0 u0) else
ob (kd u0 12 a0 (fX12_isAt a0 x1 u0)) fun y7 =>
if y7 = (0 : Int32) then (
fX12_expect_20  a0 a0 u0) else
fX12_expect_21  a0 (1 : Int32) a0 u0
-- HeaderSpaceNetworkModel.readPorts
def rmX12_readPorts : Room := { frames := 1, cells := 0, slots := 0, locals := 22 }
def fX12_readPorts_B2 (a0 : Nat)  (k : Int32 → UH → Option (Int32 × UH)) (x1 : Int32) (u : UH) : Option (Int32 × UH) :=
ob (rI u 12 28 a0) fun y1 =>
if y1 = (0 : Int32) then (
some (x1, u)) else
ob (rI u 12 27 a0) fun y2 =>
ob (rI u 12 25 a0) fun y3 =>
if y3 ≤ y2 then (
some (x1, u)) else
ob (rR u 12 26 a0) fun b4 =>
ob (rI u 12 27 a0) fun y5 =>
ob (ldI u 22 b4 y5) fun y6 =>
ob (fX12_in y6 (48 : Int32) (51 : Int32) u) fun y7 =>
if y7 = (0 : Int32) then (
some (x1, u)) else
ob (rR u 12 26 a0) fun b8 =>
ob (rI u 12 27 a0) fun y9 =>
ob (ldI u 22 b8 y9) fun y10 =>
if jsl (1 : Int32) (y10 - (48 : Int32)) ≤ x1 then (
some (x1, u)) else
ob (rR u 12 26 a0) fun b11 =>
ob (rI u 12 27 a0) fun y12 =>
ob (ldI u 22 b11 y12) fun y13 =>
lt (x1 ||| (jsl (1 : Int32) (y13 - (48 : Int32)))) fun y14 =>
ob (rI u 12 27 a0) fun y15 =>
ob (wI u 12 27 a0 (y15 + (1 : Int32))) fun u16 =>
k y14 u16
def fX12_readPorts_87  (a0 : Nat) (x1 : Int32) (u : UH) : Option (Int32 × UH) :=
ob (rI u 12 28 a0) fun y20 =>
if y20 = (0 : Int32) then (
ob (wZ u 12 28 a0 (0 : Int32)) fun u21 =>
some (x1, u21)) else
if x1 = (0 : Int32) then (
ob (wZ u 12 28 a0 (0 : Int32)) fun u22 =>
some (x1, u22)) else
ob (wZ u 12 28 a0 (1 : Int32)) fun u23 =>
some (x1, u23)
def fX12_readPorts (a0 : Nat) (u0 : UH) : Option (Int32 × UH) :=
ob (it2 (fX12_readPorts_B2 a0 ) FUEL (0 : Int32) u0) fun q17 =>
fX12_readPorts_87  a0 q17.1 q17.2
-- HeaderSpaceNetworkModel.readPattern
def rmX12_readPattern : Room := { frames := 1, cells := 0, slots := 0, locals := 21 }
def fX12_readPattern_124 (k : Int32 → UH → Option UH) (a0 : Nat) (x1 : Int32) (s0 : Int32) (s1 : Int32) (s2 : Nat) (u : UH) : Option UH :=
ob (wI u 12 30 s2 (s1 ||| s0)) fun u13 =>
ob (rI u13 12 27 a0) fun y14 =>
ob (rI u13 12 28 a0) fun y15 =>
if y15 = (0 : Int32) then (
ob (wI u13 12 27 a0 (y14 + (0 : Int32))) fun u16 =>
k (x1 + (-1 : Int32)) u16) else
ob (wI u13 12 27 a0 (y14 + (1 : Int32))) fun u17 =>
k (x1 + (-1 : Int32)) u17
def fX12_readPattern_123 (k : Int32 → UH → Option UH) (a0 : Nat) (x1 : Int32) (s0 : Int32) (s1 : Nat) (u : UH) : Option UH :=
fX12_readPattern_124 k a0 x1 (0 : Int32) s0 s1 u
def fX12_readPattern_92 (k : Int32 → UH → Option UH) (a0 : Nat) (x1 : Int32) (s0 : Int32) (s1 : Int32) (s2 : Nat) (u : UH) : Option UH :=
ob (wI u 12 29 s2 (s1 ||| s0)) fun u10 =>
ob (rI u10 12 30 a0) fun y11 =>
ob (rI u10 12 28 a0) fun y12 =>
if y12 = (0 : Int32) then (
fX12_readPattern_123 k a0 x1 y11 a0 u10) else
ob (kd u10 12 a0 (fX12_isAt a0 (49 : Int32) u10)) fun y18 =>
if y18 = (0 : Int32) then (
fX12_readPattern_123 k a0 x1 y11 a0 u10) else
fX12_readPattern_124 k a0 x1 (jsl (1 : Int32) x1) y11 a0 u10
def fX12_readPattern_91 (k : Int32 → UH → Option UH) (a0 : Nat) (x1 : Int32) (s0 : Int32) (s1 : Nat) (u : UH) : Option UH :=
fX12_readPattern_92 k a0 x1 (0 : Int32) s0 s1 u
def fX12_readPattern_61 (k : Int32 → UH → Option UH) (a0 : Nat) (x1 : Int32) (s0 : Int32) (s1 : Nat) (u : UH) : Option UH :=
ob (wZ u 12 28 s1 s0) fun u7 =>
ob (rI u7 12 29 a0) fun y8 =>
ob (rI u7 12 28 a0) fun y9 =>
if y9 = (0 : Int32) then (
fX12_readPattern_91 k a0 x1 y8 a0 u7) else
ob (kd u7 12 a0 (fX12_isAt a0 (42 : Int32) u7)) fun y19 =>
if y19 = (0 : Int32) then (
fX12_readPattern_92 k a0 x1 (jsl (1 : Int32) x1) y8 a0 u7) else
fX12_readPattern_91 k a0 x1 y8 a0 u7
def fX12_readPattern_56 (k : Int32 → UH → Option UH) (a0 : Nat) (x1 : Int32) (s0 : Nat) (u : UH) : Option UH :=
fX12_readPattern_61 k a0 x1 (1 : Int32) s0 u
def fX12_readPattern_B17 (a0 : Nat)  (k : Int32 → UH → Option UH) (x1 : Int32) (u : UH) : Option UH :=
if x1 < (0 : Int32) then (
some u) else
ob (rI u 12 28 a0) fun y5 =>
if y5 = (0 : Int32) then (
some u) else
ob (kd u 12 a0 (fX12_isAt a0 (48 : Int32) u)) fun y6 =>
if y6 = (0 : Int32) then (
ob (kd u 12 a0 (fX12_isAt a0 (49 : Int32) u)) fun y20 =>
if y20 = (0 : Int32) then (
ob (kd u 12 a0 (fX12_isAt a0 (42 : Int32) u)) fun y21 =>
if y21 = (0 : Int32) then (
fX12_readPattern_61 k a0 x1 (0 : Int32) a0 u) else
fX12_readPattern_56 k a0 x1 a0 u) else
fX12_readPattern_56 k a0 x1 a0 u) else
fX12_readPattern_56 k a0 x1 a0 u
def fX12_readPattern (a0 : Nat) (u0 : UH) : Option UH :=
ob (wI u0 12 29 a0 (0 : Int32)) fun u1 =>
ob (wI u1 12 30 a0 (0 : Int32)) fun u2 =>
ob (rI u2 12 0 a0) fun y3 =>
lt (y3 - (1 : Int32)) fun y4 =>
ob (it2 (fX12_readPattern_B17 a0 ) FUEL y4 u2) fun q22 =>
some q22
-- HeaderSpaceNetworkModel.readRule
def rmX12_readRule : Room := { frames := 3, cells := 0, slots := 0, locals := 74 }
def fX12_readRule_166  (a0 : Nat) (x1 : Int32) (x2 : Int32) (x3 : Int32) (x4 : Int32) (x5 : Int32) (u : UH) : Option (Int32 × UH) :=
ob (rI u 12 28 a0) fun y18 =>
if y18 = (0 : Int32) then (
ob (rI u 12 27 a0) fun y19 =>
some ((-100 : Int32) - y19, u)) else
ob (rI u 12 27 a0) fun y20 =>
ob (rI u 12 25 a0) fun y21 =>
if y21 ≤ y20 then (
ob (kd u 12 a0 (fX12_many a0 x1 u)) fun y22 =>
if y22 = (6 : Int32) then (
some ((-5 : Int32), u)) else
ob (kd u 12 a0 (fX12_many a0 x1 u)) fun y23 =>
ob2 (kd u 12 a0 (fX12_insert a0 x1 y23 x2 x3 x4 x5 u)) fun y24 u25 =>
ob (rI u25 12 29 a0) fun y26 =>
ob (kd u25 12 a0 (fX12_put a0 x1 y23 (4 : Int32) y26 u25)) fun u27 =>
ob (rI u27 12 30 a0) fun y28 =>
ob (kd u27 12 a0 (fX12_put a0 x1 y23 (5 : Int32) y28 u27)) fun u29 =>
some (y24, u29)) else
ob (rI u 12 27 a0) fun y30 =>
some ((-100 : Int32) - y30, u)
def fX12_readRule_104  (a0 : Nat) (x1 : Int32) (x2 : Int32) (x3 : Int32) (x4 : Int32) (x5 : Int32) (s0 : Int32) (u : UH) : Option (Int32 × UH) :=
if s0 = (0 : Int32) then (
ob (kd u 12 a0 (fX12_expect a0 (62 : Int32) u)) fun u14 =>
ob2 (kd u14 12 a0 (fX12_readPorts a0 u14)) fun y15 u16 =>
ob (rI u16 12 28 a0) fun y17 =>
if y17 = (0 : Int32) then (
fX12_readRule_166  a0 x1 x2 x3 x4 y15 u16) else
ob (kd u16 12 a0 (fX12_isAt a0 (61 : Int32) u16)) fun y31 =>
if y31 = (0 : Int32) then (
fX12_readRule_166  a0 x1 x2 x3 x4 y15 u16) else
ob (rI u16 12 27 a0) fun y32 =>
ob (wI u16 12 27 a0 (y32 + (1 : Int32))) fun u33 =>
ob (kd u33 12 a0 (fX12_readPattern a0 u33)) fun u34 =>
fX12_readRule_166  a0 x1 x2 x3 x4 y15 u34) else
ob (rI u 12 27 a0) fun y35 =>
ob (wI u 12 27 a0 (y35 + (1 : Int32))) fun u36 =>
fX12_readRule_166  a0 x1 x2 x3 x4 x5 u36
def fX12_readRule_103  (a0 : Nat) (x1 : Int32) (x2 : Int32) (x3 : Int32) (x4 : Int32) (x5 : Int32) (u : UH) : Option (Int32 × UH) :=
fX12_readRule_104  a0 x1 x2 x3 x4 x5 (0 : Int32) u
def fX12_readRule_49  (a0 : Nat) (x1 : Int32) (x2 : Int32) (u : UH) : Option (Int32 × UH) :=
ob (kd u 12 a0 (fX12_expect a0 (58 : Int32) u)) fun u7 =>
ob (kd u7 12 a0 (fX12_readPattern a0 u7)) fun u8 =>
ob (rI u8 12 29 a0) fun y9 =>
ob (rI u8 12 30 a0) fun y10 =>
ob (wI u8 12 29 a0 (0 : Int32)) fun u11 =>
ob (wI u11 12 30 a0 (0 : Int32)) fun u12 =>
ob (rI u12 12 28 a0) fun y13 =>
if y13 = (0 : Int32) then (
fX12_readRule_103  a0 x1 x2 y9 y10 (0 : Int32) u12) else
ob (kd u12 12 a0 (fX12_isAt a0 (33 : Int32) u12)) fun y37 =>
if y37 = (0 : Int32) then (
fX12_readRule_103  a0 x1 x2 y9 y10 (0 : Int32) u12) else
fX12_readRule_104  a0 x1 x2 y9 y10 (0 : Int32) (1 : Int32) u12
def fX12_readRule (a0 : Nat) (x1 : Int32) (u0 : UH) : Option (Int32 × UH) :=
ob (fX12_noBox x1 u0) fun y1 =>
if y1 = (0 : Int32) then (
ob (wI u0 12 27 a0 (0 : Int32)) fun u2 =>
ob (wZ u2 12 28 a0 (1 : Int32)) fun u3 =>
ob (kd u3 12 a0 (fX12_isAt a0 (42 : Int32) u3)) fun y4 =>
if y4 = (0 : Int32) then (
ob2 (kd u3 12 a0 (fX12_readPorts a0 u3)) fun y5 u6 =>
fX12_readRule_49  a0 x1 y5 u6) else
ob (rI u3 12 27 a0) fun y38 =>
ob (wI u3 12 27 a0 (y38 + (1 : Int32))) fun u39 =>
fX12_readRule_49  a0 x1 (15 : Int32) u39) else
some ((-1 : Int32), u0)
-- HeaderSpaceNetworkModel.write
def rmX12_write : Room := { frames := 0, cells := 0, slots := 0, locals := 0 }
def fX12_write (a0 : Nat) (x1 : Int32) (u0 : UH) : Option UH :=
ob (rR u0 12 32 a0) fun b1 =>
ob (rI u0 12 31 a0) fun y2 =>
ob (stI u0 b1 y2 x1) fun u3 =>
ob (rI u3 12 31 a0) fun y4 =>
ob (wI u3 12 31 a0 (y4 + (1 : Int32))) fun u5 =>
some u5
-- HeaderSpaceNetworkModel.writePorts
def rmX12_writePorts : Room := { frames := 1, cells := 0, slots := 0, locals := 21 }
def fX12_writePorts_B2 (a0 : Nat) (x1 : Int32)  (k : Int32 → UH → Option UH) (x2 : Int32) (u : UH) : Option UH :=
if (4 : Int32) ≤ x2 then (
some u) else
if (jsr x1 x2) &&& (1 : Int32) = (1 : Int32) then (
ob (kd u 12 a0 (fX12_write a0 ((48 : Int32) + x2) u)) fun u1 =>
k (x2 + (1 : Int32)) u1) else
k (x2 + (1 : Int32)) u
def fX12_writePorts (a0 : Nat) (x1 : Int32) (u0 : UH) : Option UH :=
ob (it2 (fX12_writePorts_B2 a0 x1 ) FUEL (0 : Int32) u0) fun q2 =>
some q2
-- HeaderSpaceNetworkModel.writePattern
def rmX12_writePattern : Room := { frames := 1, cells := 0, slots := 0, locals := 21 }
def fX12_writePattern_33 (k : Int32 → UH → Option UH) (a0 : Nat) (x1 : Int32) (x2 : Int32) (x3 : Int32) (s0 : Int32) (s1 : Nat) (u : UH) : Option UH :=
ob (kd u 12 s1 (fX12_write s1 s0 u)) fun u3 =>
k (x3 + (-1 : Int32)) u3
def fX12_writePattern_B7 (a0 : Nat) (x1 : Int32) (x2 : Int32)  (k : Int32 → UH → Option UH) (x3 : Int32) (u : UH) : Option UH :=
if x3 < (0 : Int32) then (
some u) else
if (jsr x1 x3) &&& (1 : Int32) = (0 : Int32) then (
fX12_writePattern_33 k a0 x1 x2 x3 (42 : Int32) a0 u) else
fX12_writePattern_33 k a0 x1 x2 x3 ((48 : Int32) + ((jsr x2 x3) &&& (1 : Int32))) a0 u
def fX12_writePattern (a0 : Nat) (x1 : Int32) (x2 : Int32) (u0 : UH) : Option UH :=
ob (rI u0 12 0 a0) fun y1 =>
lt (y1 - (1 : Int32)) fun y2 =>
ob (it2 (fX12_writePattern_B7 a0 x1 x2 ) FUEL y2 u0) fun q4 =>
some q4
-- HeaderSpaceNetworkModel.ruleText
def rmX12_ruleText : Room := { frames := 3, cells := 0, slots := 0, locals := 66 }
def fX12_ruleText_154  (a0 : Nat) (x3 : Int32) (u : UH) : Option (Int32 × UH) :=
ob (rI u 12 31 a0) fun y15 =>
if y15 ≤ x3 then (
some ((-6 : Int32), u)) else
ob (rR u 12 32 a0) fun b16 =>
ob (ldI u 20 b16 x3) fun y17 =>
some (y17, u)
def fX12_ruleText_120  (a0 : Nat) (x1 : Int32) (x2 : Int32) (x3 : Int32) (u : UH) : Option (Int32 × UH) :=
ob (kd u 12 a0 (fX12_of a0 x1 x2 (4 : Int32) u)) fun y14 =>
if y14 = (0 : Int32) then (
fX12_ruleText_154  a0 x3 u) else
ob (kd u 12 a0 (fX12_write a0 (61 : Int32) u)) fun u18 =>
ob (kd u18 12 a0 (fX12_of a0 x1 x2 (4 : Int32) u18)) fun y19 =>
ob (kd u18 12 a0 (fX12_of a0 x1 x2 (5 : Int32) u18)) fun y20 =>
ob (kd u18 12 a0 (fX12_writePattern a0 y19 y20 u18)) fun u21 =>
fX12_ruleText_154  a0 x3 u21
def fX12_ruleText_60  (a0 : Nat) (x1 : Int32) (x2 : Int32) (x3 : Int32) (u : UH) : Option (Int32 × UH) :=
ob (kd u 12 a0 (fX12_write a0 (58 : Int32) u)) fun u6 =>
ob (kd u6 12 a0 (fX12_of a0 x1 x2 (1 : Int32) u6)) fun y7 =>
ob (kd u6 12 a0 (fX12_of a0 x1 x2 (2 : Int32) u6)) fun y8 =>
ob (kd u6 12 a0 (fX12_writePattern a0 y7 y8 u6)) fun u9 =>
ob (kd u9 12 a0 (fX12_of a0 x1 x2 (3 : Int32) u9)) fun y10 =>
if y10 = (0 : Int32) then (
ob (kd u9 12 a0 (fX12_write a0 (33 : Int32) u9)) fun u22 =>
fX12_ruleText_120  a0 x1 x2 x3 u22) else
ob (kd u9 12 a0 (fX12_write a0 (62 : Int32) u9)) fun u11 =>
ob (kd u11 12 a0 (fX12_of a0 x1 x2 (3 : Int32) u11)) fun y12 =>
ob (kd u11 12 a0 (fX12_writePorts a0 y12 u11)) fun u13 =>
fX12_ruleText_120  a0 x1 x2 x3 u13
def fX12_ruleText (a0 : Nat) (x1 : Int32) (x2 : Int32) (x3 : Int32) (u0 : UH) : Option (Int32 × UH) :=
ob (kd u0 12 a0 (fX12_ruleBarred a0 x1 x2 u0)) fun y1 =>
if (0 : Int32) ≤ y1 then (
if (0 : Int32) ≤ x3 then (
ob (wI u0 12 31 a0 (0 : Int32)) fun u2 =>
ob (kd u2 12 a0 (fX12_of a0 x1 x2 (0 : Int32) u2)) fun y3 =>
if y3 = (15 : Int32) then (
ob (kd u2 12 a0 (fX12_write a0 (42 : Int32) u2)) fun u23 =>
fX12_ruleText_60  a0 x1 x2 x3 u23) else
ob (kd u2 12 a0 (fX12_of a0 x1 x2 (0 : Int32) u2)) fun y4 =>
ob (kd u2 12 a0 (fX12_writePorts a0 y4 u2)) fun u5 =>
fX12_ruleText_60  a0 x1 x2 x3 u5) else
some ((-3 : Int32), u0)) else
some (y1, u0)
