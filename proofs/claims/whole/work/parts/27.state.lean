/-! THE STATE of which both classes are pictures: bits, links, the number of links, rules, history (latest first), injection (place, care, value), policies (0 kind, 1 from, 2 to, 3 care, 4 value), text -/
abbrev TS : Type := Nat × LK × Int32 × RB × List RB × (Nat × Nat × Nat) × List RT × List Int32
def tB (T : TS) : Nat := T.1
def tL (T : TS) : LK := T.2.1
def tN (T : TS) : Int32 := T.2.2.1
def tR (T : TS) : RB := T.2.2.2.1
def tH (T : TS) : List RB := T.2.2.2.2.1
def tI (T : TS) : Nat × Nat × Nat := T.2.2.2.2.2.1
def tP (T : TS) : List RT := T.2.2.2.2.2.2.1
def tT (T : TS) : List Int32 := T.2.2.2.2.2.2.2
def IjW (b : Nat) (j : Nat × Nat × Nat) : Prop := j.1 < 24 ∧ j.2.1 < 2 ^ b ∧ j.2.2 < 2 ^ b ∧ j.2.2 &&& j.2.1 = j.2.2
def PoW (b : Nat) (p : RT) : Prop := (p 0 = 0 ∨ p 0 = 1) ∧ p 1 < 24 ∧ p 2 < 24 ∧ p 3 < 2 ^ b ∧ p 4 < 2 ^ b ∧ p 4 &&& p 3 = p 4
def WF (T : TS) : Prop := BW (tB T) ∧ LKW (tL T) ∧ RBW (tB T) (tR T) ∧ ((tH T).length ≤ 12 ∧ ∀ H, H ∈ tH T → RBW (tB T) H) ∧ IjW (tB T) (tI T) ∧ ((tP T).length ≤ 8 ∧ ∀ p, p ∈ tP T → PoW (tB T) p) ∧ (tT T).length ≤ 40
def setB (cur : RB) (box : Nat) (L : List RT) : RB := fun x => if x = box then L else cur x
/-! the reference's picture -/
def MPic (T : TS) (fi : Nat → Nat → Nat → Int32) (ai : Nat → Nat → Int32) : Prop :=
  fi 12 0 0 = nI (tB T) ∧ LkP (ai 1) (tL T) ∧ fi 12 2 0 = tN T ∧ NowP (ai 2) (tR T) ∧
  (fi 12 7 0 = nI (tH T).length ∧ ∀ (j : Nat) H, (tH T)[j]? = some H → NowP (fun x => ai 3 (258 * ((tH T).length - 1 - j) + x)) H) ∧
  (fi 12 4 0 = nI (tI T).1 ∧ fi 12 5 0 = nI (tI T).2.1 ∧ fi 12 6 0 = nI (tI T).2.2) ∧
  (fi 12 19 0 = nI (tP T).length ∧ ∀ (i : Nat) p, (tP T)[i]? = some p → ai 12 i = nI (p 0) ∧ ai 13 i = nI (p 1) ∧ ai 14 i = nI (p 2) ∧ ai 15 i = nI (p 3) ∧ ai 16 i = nI (p 4)) ∧
  (fi 12 25 0 = nI (tT T).length ∧ ∀ (i : Nat) c, (tT T)[i]? = some c → ai 17 i = c)
def MR (T : TS) (u : UH) : Prop := mst u ∧ MPic T (uI u) (uAI u)
/-! the class's picture -/
def slk (nx k : Nat) : Nat := (nx + 11 - k) % 12
def HisP (b : UH) (fi : Nat → Nat → Nat → Int32) (fj : Nat → Nat → Nat → Int64) (ai : Nat → Nat → Int32) (ar : Nat → Nat → Option Nat) (nx : Nat) : Nat → RB → List RB → Prop
  | _, _, [] => True
  | k, cur, H :: rest => (∃ box L, box < 6 ∧ ai 19 (slk nx k) = nI box ∧ LiP b fi fj ar (21 + 2 * slk nx k) L ∧ H = setB cur box L) ∧ HisP b fi fj ai ar nx (k + 1) H rest
def EntP (b : Nat) (j : Nat × Nat × Nat) (s : Int64) : Prop := ∀ h, h < 64 → tb s h = (decide (h < 2 ^ b) && decide (h &&& j.2.1 = j.2.2))
def PolP (b : Nat) (fi : Nat → Nat → Nat → Int32) (fj : Nat → Nat → Nat → Int64) (a : Nat) (p : RT) : Prop := fi 5 0 a = nI (p 0) ∧ fi 5 1 a = nI (p 1) ∧ fi 5 2 a = nI (p 2) ∧ ∀ h, h < 64 → tb (fj 5 3 a) h = (decide (h < 2 ^ b) && decide (h &&& p 3 = p 4))
def XPic (T : TS) (b : UH) (fi : Nat → Nat → Nat → Int32) (fj : Nat → Nat → Nat → Int64) (ai : Nat → Nat → Int32) (ar : Nat → Nat → Option Nat) : Prop :=
  xar ar ∧ fi 4 0 1 = nI (tB T) ∧ LkP (ai 2) (tL T) ∧ fi 4 1 1 = tN T ∧ (∀ box, box < 6 → LiP b fi fj ar (5 + 2 * box) (tR T box)) ∧
  (fi 3 2 17 = nI (tH T).length ∧ ∃ nx, nx < 12 ∧ fi 3 3 17 = nI nx ∧ HisP b fi fj ai ar nx 0 (tR T) (tH T)) ∧
  (fi 11 10 0 = nI (tI T).1 ∧ EntP (tB T) (tI T) (fj 11 11 0)) ∧
  (fi 11 9 0 = nI (tP T).length ∧ ∀ (i : Nat) p, (tP T)[i]? = some p → PolP (tB T) fi fj (65 + i) p) ∧
  (fi 9 1 60 = nI (tT T).length ∧ ∀ (i : Nat) c, (tT T)[i]? = some c → ai 61 i = c)
def xdom (b : UH) : Prop := (∀ a, uKd b a ≠ 0 → a < uSz b) ∧ 92 ≤ uSz b
def XR (T : TS) (u : UH) : Prop := xst u ∧ xdom u ∧ XPic T u (uI u) (uJ u) (uAI u) (uAR u)
def RR (T : TS) (x m : UH) : Prop := WF T ∧ XR T x ∧ MR T m
/-! what may change without harm -/
def xsI (fi fi' : Nat → Nat → Nat → Int32) : Prop := ∀ c k a, (c = 3 ∨ c = 4 ∨ c = 5 ∨ c = 6 ∨ c = 7 ∨ c = 11 ∨ (c = 9 ∧ k = 1)) → fi' c k a = fi c k a
def xsJ (fj fj' : Nat → Nat → Nat → Int64) : Prop := ∀ c k a, (c = 5 ∨ c = 6 ∨ c = 11) → fj' c k a = fj c k a
def xsA (ai ai' : Nat → Nat → Int32) : Prop := ∀ a, (a = 2 ∨ a = 19 ∨ a = 61) → ai' a = ai a
theorem xsI.refl {fi : Nat → Nat → Nat → Int32} : xsI fi fi := fun _ _ _ _ => rfl
theorem xsJ.refl {fj : Nat → Nat → Nat → Int64} : xsJ fj fj := fun _ _ _ _ => rfl
theorem xsA.refl {ai : Nat → Nat → Int32} : xsA ai ai := fun _ _ => rfl
theorem xsI.trans {f g h : Nat → Nat → Nat → Int32} (h1 : xsI f g) (h2 : xsI g h) : xsI f h := fun c k a hc => (h2 c k a hc).trans (h1 c k a hc)
theorem xsJ.trans {f g h : Nat → Nat → Nat → Int64} (h1 : xsJ f g) (h2 : xsJ g h) : xsJ f h := fun c k a hc => (h2 c k a hc).trans (h1 c k a hc)
theorem xsA.trans {f g h : Nat → Nat → Int32} (h1 : xsA f g) (h2 : xsA g h) : xsA f h := fun a hc => (h2 a hc).trans (h1 a hc)
section SC
variable {T : TS} {b : UH} {fi fi' : Nat → Nat → Nat → Int32} {fj fj' : Nat → Nat → Nat → Int64} {ai ai' : Nat → Nat → Int32} {ar : Nat → Nat → Option Nat} {la nx : Nat} {rs : List RT}
theorem RP.sc {ra : Nat} {r : RT} (h : RP b fi fj ra r) (h1 : xsI fi fi') (h2 : xsJ fj fj') : RP b fi' fj' ra r := ⟨h.1, fun f hf => by rw [h1 6 f ra (by omega)]; exact h.2.1 f hf, by rw [h2 6 7 ra (by omega)]; exact h.2.2⟩
theorem LiP.sc (h : LiP b fi fj ar la rs) (h1 : xsI fi fi') (h2 : xsJ fj fj') : LiP b fi' fj' ar la rs := ⟨by rw [h1 7 1 la (by omega)]; exact h.1, h.2.1, h.2.2.1, fun i r hr => by
  obtain ⟨ra, e1, e2⟩ := h.2.2.2 i r hr
  exact ⟨ra, e1, e2.sc h1 h2⟩⟩
theorem HisP.sc : ∀ {hist : List RB} {k : Nat} {cur : RB}, HisP b fi fj ai ar nx k cur hist → xsI fi fi' → xsJ fj fj' → xsA ai ai' → HisP b fi' fj' ai' ar nx k cur hist
  | [], _, _, _, _, _, _ => trivial
  | H :: rest, k, cur, h, h1, h2, h3 => by
    obtain ⟨⟨box, L, a1, a2, a3, a4⟩, h5⟩ := h
    exact ⟨⟨box, L, a1, by rw [h3 19 (by omega)]; exact a2, a3.sc h1 h2, a4⟩, HisP.sc h5 h1 h2 h3⟩
theorem PolP.sc {bits a : Nat} {p : RT} (h : PolP bits fi fj a p) (h1 : xsI fi fi') (h2 : xsJ fj fj') : PolP bits fi' fj' a p := ⟨by rw [h1 5 0 a (by omega)]; exact h.1, by rw [h1 5 1 a (by omega)]; exact h.2.1, by rw [h1 5 2 a (by omega)]; exact h.2.2.1, by rw [h2 5 3 a (by omega)]; exact h.2.2.2⟩
theorem XPic.sc (h : XPic T b fi fj ai ar) (h1 : xsI fi fi') (h2 : xsJ fj fj') (h3 : xsA ai ai') : XPic T b fi' fj' ai' ar := by
  obtain ⟨p1, p2, p3, p4, p5, ⟨p6, nx, p7, p8, p9⟩, ⟨p10, p11⟩, ⟨p12, p13⟩, p14, p15⟩ := h
  refine ⟨p1, by rw [h1 4 0 1 (by omega)]; exact p2, by rw [h3 2 (by omega)]; exact p3, by rw [h1 4 1 1 (by omega)]; exact p4, fun box hb => (p5 box hb).sc h1 h2, ⟨by rw [h1 3 2 17 (by omega)]; exact p6, nx, p7, by rw [h1 3 3 17 (by omega)]; exact p8, p9.sc h1 h2 h3⟩, ⟨by rw [h1 11 10 0 (by omega)]; exact p10, by rw [h2 11 11 0 (by omega)]; exact p11⟩, ⟨by rw [h1 11 9 0 (by omega)]; exact p12, fun i p hp => (p13 i p hp).sc h1 h2⟩, by rw [h1 9 1 60 (by omega)]; exact p14, fun i c hc => by rw [h3 61 (by omega)]; exact p15 i c hc⟩
end SC
def msI (fi fi' : Nat → Nat → Nat → Int32) : Prop := ∀ k, (k = 0 ∨ k = 2 ∨ k = 4 ∨ k = 5 ∨ k = 6 ∨ k = 7 ∨ k = 19 ∨ k = 25) → fi' 12 k 0 = fi 12 k 0
def msA (ai ai' : Nat → Nat → Int32) : Prop := ∀ a, (a = 1 ∨ a = 2 ∨ a = 3 ∨ a = 12 ∨ a = 13 ∨ a = 14 ∨ a = 15 ∨ a = 16 ∨ a = 17) → ai' a = ai a
theorem msI.refl {fi : Nat → Nat → Nat → Int32} : msI fi fi := fun _ _ => rfl
theorem msA.refl {ai : Nat → Nat → Int32} : msA ai ai := fun _ _ => rfl
theorem msI.trans {f g h : Nat → Nat → Nat → Int32} (h1 : msI f g) (h2 : msI g h) : msI f h := fun k hc => (h2 k hc).trans (h1 k hc)
theorem msA.trans {f g h : Nat → Nat → Int32} (h1 : msA f g) (h2 : msA g h) : msA f h := fun a hc => (h2 a hc).trans (h1 a hc)
theorem MPic.sc {T : TS} {fi fi' : Nat → Nat → Nat → Int32} {ai ai' : Nat → Nat → Int32} (h : MPic T fi ai) (h1 : msI fi fi') (h3 : msA ai ai') : MPic T fi' ai' := by
  obtain ⟨p1, p2, p3, p4, ⟨p5, p6⟩, ⟨p7, p8, p9⟩, ⟨p10, p11⟩, p12, p13⟩ := h
  unfold MPic
  rw [h1 0 (by omega), h1 2 (by omega), h1 4 (by omega), h1 5 (by omega), h1 6 (by omega), h1 7 (by omega), h1 19 (by omega), h1 25 (by omega), h3 1 (by omega), h3 2 (by omega), h3 3 (by omega), h3 12 (by omega), h3 13 (by omega), h3 14 (by omega), h3 15 (by omega), h3 16 (by omega), h3 17 (by omega)]
  exact ⟨p1, p2, p3, p4, ⟨p5, p6⟩, ⟨p7, p8, p9⟩, ⟨p10, p11⟩, p12, p13⟩
/-! one step of both -/
def SIM {α : Type} (T : TS) (fx fm : Option (α × UH)) : Prop := ∃ r x' m' T', fx = some (r, x') ∧ fm = some (r, m') ∧ RR T' x' m'
theorem sim {α : Type} {T T' : TS} {fx fm : Option (α × UH)} {r : α} (hw : WF T') (hx : wp fx (fun q => q.1 = r ∧ XR T' q.2)) (hm : wp fm (fun q => q.1 = r ∧ MR T' q.2)) : SIM T fx fm := by
  obtain ⟨⟨r1, x'⟩, h1, h2, h3⟩ := hx
  obtain ⟨⟨r2, m'⟩, h4, h5, h6⟩ := hm
  subst h2
  cases h5
  exact ⟨_, x', m', T', h1, h4, hw, h3, h6⟩
/-- of two that change nothing -/
def SIMP {α : Type} (fx fm : Option α) : Prop := ∃ r, fx = some r ∧ fm = some r
theorem simp2 {α : Type} {fx fm : Option α} {r : α} (hx : wp fx (fun q => q = r)) (hm : wp fm (fun q => q = r)) : SIMP fx fm := ⟨r, of_wp hx, of_wp hm⟩
