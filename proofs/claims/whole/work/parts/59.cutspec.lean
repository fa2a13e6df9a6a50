/-! CUTS. Slots: 6 * box + number. D: the slots that are switched off as well. -/
def rbo (rb : RB) (D : Nat → Bool) : RB := fun box => offl (rb box) (fun i => D (6 * box + i))
theorem rbo_get (rb : RB) (D : Nat → Bool) (box i : Nat) : (rbo rb D box)[i]? = ((rb box)[i]?).map (fun r => if D (6 * box + i) then offR r else r) := offl_get _ _ _
theorem rbo_len (rb : RB) (D : Nat → Bool) (box : Nat) : (rbo rb D box).length = (rb box).length := offl_len _ _
theorem rbo_none (rb : RB) : rbo rb (fun _ => false) = rb := funext fun box => offl_none (rb box)
theorem RW_off {b : Nat} {r : RT} (h : RW b r) : RW b (offR r) := by
  obtain ⟨w0, w1, w2, w3, w4, w5, w6, w7, w8, w9, w10⟩ := h
  exact ⟨w0, w1, w2, w3, w4, w5, w6, w7, w8, Or.inl rfl, w10⟩
theorem RBW_rbo {b : Nat} {rb : RB} (h : RBW b rb) (D : Nat → Bool) : RBW b (rbo rb D) := by
  intro box hb
  refine ⟨by rw [rbo_len]; exact (h box hb).1, fun r hr => ?_⟩
  obtain ⟨i, hi⟩ := List.getElem?_of_mem hr
  rw [rbo_get] at hi
  cases hq : (rb box)[i]? with
  | none => rw [hq] at hi; cases hi
  | some r0 =>
    rw [hq, Option.map_some] at hi
    have h0 := (h box hb).2 r0 (List.mem_of_getElem? hq)
    cases hi
    split
    · exact RW_off h0
    · exact h0
theorem mt_on {r : RT} {port h : Nat} (hm : mt r port h = true) : r 6 = 1 := by
  unfold mt at hm
  rw [Bool.and_eq_true, Bool.and_eq_true, decide_eq_true_eq] at hm
  exact hm.1.1
/-- the rule that handles a packet still does if others, that don't, are switched off -/
theorem hd_rbo {rb : RB} {D D' : Nat → Bool} {box port h i : Nat} (hsub : ∀ s, D s = true → D' s = true) (hh : hd (rbo rb D box) port h = some i) (hD : D' (6 * box + i) = false) : hd (rbo rb D' box) port h = some i ∧ ∃ r, (rb box)[i]? = some r ∧ (rbo rb D box)[i]? = some r ∧ (rbo rb D' box)[i]? = some r ∧ r 6 = 1 := by
  obtain ⟨r0, e1, e2, e3⟩ := hd_some hh
  have hg := rbo_get rb D box i
  rw [e1] at hg
  cases hq : (rb box)[i]? with
  | none => rw [hq] at hg; cases hg
  | some r =>
    rw [hq, Option.map_some] at hg
    have hDi : D (6 * box + i) = false := by
      cases hd0 : D (6 * box + i) with
      | false => rfl
      | true => rw [hsub _ hd0] at hD; cases hD
    rw [hDi] at hg
    have er : r0 = r := by simpa using hg
    subst er
    have hg' : (rbo rb D' box)[i]? = some r0 := by rw [rbo_get, hq, Option.map_some, hD]; rfl
    refine ⟨hd_is hg' e2 (fun j r' hj hr' => ?_), r0, rfl, e1, hg', mt_on e2⟩
    rw [rbo_get] at hr'
    cases hqj : (rb box)[j]? with
    | none => rw [hqj] at hr'; cases hr'
    | some rj =>
      rw [hqj, Option.map_some] at hr'
      cases hDj : D' (6 * box + j) with
      | true =>
        rw [hDj] at hr'
        have : r' = offR rj := by simpa using hr'.symm
        rw [this]; exact mt_off _ _ _
      | false =>
        have hDj0 : D (6 * box + j) = false := by
          cases hd0 : D (6 * box + j) with
          | false => rfl
          | true => rw [hsub _ hd0] at hDj; cases hDj
        rw [hDj] at hr'
        have : r' = rj := by simpa using hr'.symm
        rw [this]
        exact e3 j rj hj (by rw [rbo_get, hqj, Option.map_some, hDj0]; rfl)
theorem Out_rbo {rb : RB} {D D' : Nat → Bool} {p h o g i : Nat} (hsub : ∀ s, D s = true → D' s = true) (hh : hd (rbo rb D (p / 4)) (p % 4) h = some i) (hD : D' (6 * (p / 4) + i) = false) (hO : Out (rbo rb D) p h o g) : Out (rbo rb D') p h o g := by
  obtain ⟨h1, i', r', e1, e2, e3, e4⟩ := hO
  rw [hh] at e1; cases e1
  obtain ⟨k1, r, k2, k3, k4, _⟩ := hd_rbo hsub hh hD
  rw [k3] at e2; cases e2
  exact ⟨h1, i, _, k1, k4, e3, e4⟩
def OnR (T : TS) (s : Nat) : Prop := s < 36 ∧ ∃ r, (tR T (s / 6))[s % 6]? = some r ∧ r 6 = 1
/-- something of the injection is delivered at t while D is off -/
def Opn (T : TS) (D : Nat → Bool) (t : Nat) : Prop := ∃ p h g, Rc (tL T) (rbo (tR T) D) (ST T) p h ∧ Dlv (tL T) (rbo (tR T) D) p h t g
/-- the slots of a way are rules that are on -/
def WyR (T : TS) (D : Nat → Bool) (w : Int64) : Prop := ∀ s, tb w s = true → s < 36 ∧ OnR T s ∧ D s = false
def PW (T : TS) (D : Nat → Bool) (w : Int64) (a : Nat × Nat) : Prop := WyR T D w ∧ ∀ D' : Nat → Bool, (∀ s, D s = true → D' s = true) → (∀ s, tb w s = true → D' s = false) → Rc (tL T) (rbo (tR T) D') (ST T) a.1 a.2
def WY (T : TS) (t : Nat) (D : Nat → Bool) (w : Int64) : Prop := WyR T D w ∧ ∀ D' : Nat → Bool, (∀ s, D s = true → D' s = true) → (∀ s, tb w s = true → D' s = false) → Opn T D' t
theorem WY.opn {T : TS} {t : Nat} {D : Nat → Bool} {w : Int64} (h : WY T t D w) : Opn T D t := h.2 D (fun _ z => z) (fun s hs => (h.1 s hs).2.2)
theorem WY.up {T : TS} {t : Nat} {D D' : Nat → Bool} {w : Int64} (h : WY T t D w) (h1 : ∀ s, D s = true → D' s = true) (h2 : ∀ s, tb w s = true → D' s = false) : WY T t D' w := ⟨fun s hs => ⟨(h.1 s hs).1, (h.1 s hs).2.1, h2 s hs⟩, fun D'' h3 h4 => h.2 D'' (fun s z => h3 s (h1 s z)) h4⟩
section
variable {T : TS} {t : Nat} {D : Nat → Bool} {w : Int64}
theorem WyR.step (hW : WF T) (h : WyR T D w) {p h' i : Nat} (hp : p < 24) (hh : hd (rbo (tR T) D (p / 4)) (p % 4) h' = some i) : i < 6 ∧ WyR T D (w ||| jlsl 1 (nI (6 * (p / 4) + i))) := by
  have hi : i < 6 := by
    have := hd_lt hh
    rw [rbo_len] at this
    have := (hW.2.2.1 (p / 4) (by omega)).1
    omega
  refine ⟨hi, fun s hs => ?_⟩
  rcases (tb_orT _ (by omega) s).mp hs with hs | hs
  · exact h s hs
  · have hD : D (6 * (p / 4) + i) = false := by
      obtain ⟨r0, e1, e2, _⟩ := hd_some hh
      rw [rbo_get] at e1
      cases hq : (tR T (p / 4))[i]? with
      | none => rw [hq] at e1; cases e1
      | some r =>
        rw [hq, Option.map_some] at e1
        cases hd0 : D (6 * (p / 4) + i) with
        | false => rfl
        | true =>
          rw [hd0] at e1
          have : r0 = offR r := by simpa using e1.symm
          rw [this, mt_off] at e2; cases e2
    obtain ⟨_, r, k2, _, _, k5⟩ := hd_rbo (D' := D) (fun _ z => z) hh hD
    rw [hs]
    exact ⟨by omega, ⟨by omega, r, by rw [show (6 * (p / 4) + i) / 6 = p / 4 by omega, show (6 * (p / 4) + i) % 6 = i by omega]; exact k2, k5⟩, hD⟩
theorem PW.step (hW : WF T) {a : Nat × Nat} (h : PW T D w a) {i q g : Nat} (hp : a.1 < 24) (hh : hd (rbo (tR T) D (a.1 / 4)) (a.1 % 4) a.2 = some i) (hS : Sp1 (tL T) (rbo (tR T) D) a.1 a.2 q g) : PW T D (w ||| jlsl 1 (nI (6 * (a.1 / 4) + i))) (q, g) := by
  obtain ⟨hi, hR⟩ := h.1.step hW hp hh
  refine ⟨hR, fun D' h1 h2 => ?_⟩
  have h3 := h.2 D' h1 (fun s hs => h2 s ((tb_orT _ (by omega) s).mpr (Or.inl hs)))
  obtain ⟨o, hO, hl⟩ := hS
  exact h3.step ⟨o, Out_rbo h1 hh (h2 _ ((tb_orT _ (by omega) _).mpr (Or.inr rfl))) hO, hl⟩
theorem PW.fin (hW : WF T) {a : Nat × Nat} (h : PW T D w a) {i g : Nat} (hp : a.1 < 24) (hh : hd (rbo (tR T) D (a.1 / 4)) (a.1 % 4) a.2 = some i) (hS : Dlv (tL T) (rbo (tR T) D) a.1 a.2 t g) : WY T t D (w ||| jlsl 1 (nI (6 * (a.1 / 4) + i))) ∧ w ||| jlsl 1 (nI (6 * (a.1 / 4) + i)) ≠ 0 := by
  obtain ⟨hi, hR⟩ := h.1.step hW hp hh
  refine ⟨⟨hR, fun D' h1 h2 => ?_⟩, fun e => ?_⟩
  · have h3 := h.2 D' h1 (fun s hs => h2 s ((tb_orT _ (by omega) s).mpr (Or.inl hs)))
    obtain ⟨o, hO, hl⟩ := hS
    exact ⟨a.1, a.2, g, h3, o, Out_rbo h1 hh (h2 _ ((tb_orT _ (by omega) _).mpr (Or.inr rfl))) hO, hl⟩
  · have := (tb_orT w (g0 := 6 * (a.1 / 4) + i) (by omega) (6 * (a.1 / 4) + i)).mpr (Or.inr rfl)
    rw [e, tb_0] at this; cases this
end
/-! the first cut of a size -/
def g0 (l : List Nat) (i : Nat) : Nat := l.getD i 0
def Ltx (l Q : List Nat) : Prop := ∃ j, j < Q.length ∧ (∀ i, i < j → g0 l i = g0 Q i) ∧ g0 l j < g0 Q j
def Inc (l : List Nat) : Prop := (∀ i, i < l.length → g0 l i < 36) ∧ ∀ i, i + 1 < l.length → g0 l i < g0 l (i + 1)
def dl (l : List Nat) : Nat → Bool := fun s => l.contains s
def CutL (T : TS) (t : Nat) (l : List Nat) : Prop := (∀ i, i < l.length → OnR T (g0 l i)) ∧ ¬ Opn T (dl l) t
def Ex (T : TS) (t k : Nat) (Q : List Nat) : Prop := ∀ l, l.length = k → Inc l → CutL T t l → ¬ Ltx l Q
def Fst (T : TS) (t k : Nat) (l : List Nat) : Prop := l.length = k ∧ Inc l ∧ CutL T t l ∧ Ex T t k l
def NoC (T : TS) (t k : Nat) : Prop := ∀ l, l.length = k → Inc l → ¬ CutL T t l
theorem g0_get {l : List Nat} {i : Nat} (h : i < l.length) : l[i]? = some (g0 l i) := by
  unfold g0
  rw [List.getD_eq_getElem?_getD, List.getElem?_eq_getElem h]
  rfl
theorem Fst.eq {T : TS} {t k : Nat} {l l' : List Nat} (h : Fst T t k l) (h' : Fst T t k l') : l = l' := by
  obtain ⟨e1, i1, c1, x1⟩ := h
  obtain ⟨e2, i2, c2, x2⟩ := h'
  have key : ∀ n, n ≤ k → ∀ i, i < n → g0 l i = g0 l' i := by
    intro n
    induction n with
    | zero => intro _ i hi; exact absurd hi (Nat.not_lt_zero _)
    | succ n ih =>
      intro hn i hi
      rcases Nat.lt_or_ge i n with h | h
      · exact ih (by omega) i h
      · have : i = n := by omega
        subst this
        have h1 := x1 l' e2 i2 c2
        have h2 := x2 l e1 i1 c1
        rcases Nat.lt_trichotomy (g0 l i) (g0 l' i) with h3 | h3 | h3
        · exact absurd ⟨i, by omega, fun j hj => ih (by omega) j hj, h3⟩ h2
        · exact h3
        · exact absurd ⟨i, by omega, fun j hj => (ih (by omega) j hj).symm, h3⟩ h1
  apply List.ext_getElem?
  intro i
  rcases Nat.lt_or_ge i k with h | h
  · rw [g0_get (by omega), g0_get (by omega), key k (Nat.le_refl _) i h]
  · rw [List.getElem?_eq_none (by omega), List.getElem?_eq_none (by omega)]
/-- what the search for cuts finds -/
def CutRes (T : TS) (t : Nat) (z : Int32) (c : Nat → Int32) : Prop := (z = -6 ∧ ∀ k, k < 4 → NoC T t k) ∨ ∃ k l, k < 4 ∧ z = nI k ∧ (∀ k', k' < k → NoC T t k') ∧ Fst T t k l ∧ ∀ i, i < k → c i = nI (g0 l i)
theorem CutRes.eq {T : TS} {t : Nat} {z z' : Int32} {c c' : Nat → Int32} (h : CutRes T t z c) (h' : CutRes T t z' c') : z = z' ∧ (z = -6 ∨ ∃ k, k < 4 ∧ z = nI k ∧ ∀ i, i < k → c i = c' i ∧ ∃ s, s < 36 ∧ c i = nI s) := by
  rcases h with ⟨e1, h1⟩ | ⟨k, l, hk, e1, h1, h2, h3⟩
  · rcases h' with ⟨e2, h2⟩ | ⟨k', l', hk', e2, h2, h3, h4⟩
    · exact ⟨e1.trans e2.symm, Or.inl e1⟩
    · exact absurd h3.2.2.1 (h1 k' hk' l' h3.1 h3.2.1)
  · rcases h' with ⟨e2, h2'⟩ | ⟨k', l', hk', e2, h2', h3', h4'⟩
    · exact absurd h2.2.2.1 (h2' k hk l h2.1 h2.2.1)
    · have : k = k' := by
        rcases Nat.lt_trichotomy k k' with h | h | h
        · exact absurd h2.2.2.1 (h2' k h l h2.1 h2.2.1)
        · exact h
        · exact absurd h3'.2.2.1 (h1 k' h l' h3'.1 h3'.2.1)
      subst this
      have := h2.eq h3'
      subst this
      exact ⟨e1.trans e2.symm, Or.inr ⟨k, hk, e1, fun i hi => ⟨(h3 i hi).trans (h4' i hi).symm, g0 l i, h2.2.1.1 i (by rw [h2.1]; exact hi), h3 i hi⟩⟩⟩
