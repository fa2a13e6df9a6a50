/-! LEVEL 2: reasoning about the functions of 11.defs -/
def wp {α : Type} (x : Option α) (P : α → Prop) : Prop := ∃ a, x = some a ∧ P a
section WP
variable {α β γ : Type}
theorem wp_some {a : α} {P : α → Prop} (h : P a) : wp (some a) P := ⟨a, rfl, h⟩
theorem wp_ob {x : Option α} {f : α → Option β} {P : β → Prop} (h : wp x (fun a => wp (f a) P)) : wp (ob x f) P := by
  obtain ⟨a, rfl, b, h1, h2⟩ := h
  exact ⟨b, h1, h2⟩
theorem wp_ob2 {x : Option (α × β)} {f : α → β → Option γ} {P : γ → Prop} (h : wp x (fun q => wp (f q.1 q.2) P)) : wp (ob2 x f) P := by
  obtain ⟨a, rfl, b, h1, h2⟩ := h
  exact ⟨b, h1, h2⟩
theorem wp_oe {δ : Type} {x : Option (α ⊕ β)} {f : α → Option γ} {g : β → Option γ} {P : γ → Prop} (h : wp x (fun q => wp (Sum.elim f g q) P)) : wp (oe x f g) P := by
  obtain ⟨a, rfl, b, h1, h2⟩ := h
  exact ⟨b, h1, h2⟩
theorem wp_lt {e : α} {K : α → Option β} {P : β → Prop} (h : wp (K e) P) : wp (lt e K) P := h
theorem wp_if {c : Prop} {i : Decidable c} {A B : Option α} {P : α → Prop} (h1 : c → wp A P) (h2 : ¬ c → wp B P) : wp (if c then A else B) P := by
  split
  · exact h1 (by assumption)
  · exact h2 (by assumption)
theorem wp_mono {x : Option α} {P Q : α → Prop} (h : wp x P) (hq : ∀ a, P a → Q a) : wp x Q := by
  obtain ⟨a, h1, h2⟩ := h
  exact ⟨a, h1, hq a h2⟩
theorem wp_eq {x : Option α} {a : α} {P : α → Prop} (h : x = some a) (hp : P a) : wp x P := ⟨a, h, hp⟩
theorem wp_bz {v : Int32} {x : Option α} {P : α → Prop} (hv : v = 0 ∨ v = 1) (h : wp x P) : wp (bz v x) P := by
  unfold bz; rw [if_pos hv]; exact h
end WP
/-- a state whose fields and rows are written out, over a base b that has the rest -/
def mk (b : UH) (fi : Nat → Nat → Nat → Int32) (fj : Nat → Nat → Nat → Int64) (ai : Nat → Nat → Int32) (aj : Nat → Nat → Int64) (ar : Nat → Nat → Option Nat) : UH := (uSz b, uKd b, uLn b, fi, fj, uR b, ai, aj, ar)
theorem mk_eta (u : UH) : mk u (uI u) (uJ u) (uAI u) (uAJ u) (uAR u) = u := rfl
section WPS
variable {b : UH} {fi : Nat → Nat → Nat → Int32} {fj : Nat → Nat → Nat → Int64} {ai : Nat → Nat → Int32} {aj : Nat → Nat → Int64} {ar : Nat → Nat → Option Nat} {c k a t : Nat}
theorem wp_rI {P : Int32 → Prop} (hk : uKd b a = c + 1) (h : P (fi c k a)) : wp (rI (mk b fi fj ai aj ar) c k a) P := by
  unfold rI; rw [if_pos (show uKd (mk b fi fj ai aj ar) a = c + 1 from hk)]; exact wp_some h
theorem wp_rJ {P : Int64 → Prop} (hk : uKd b a = c + 1) (h : P (fj c k a)) : wp (rJ (mk b fi fj ai aj ar) c k a) P := by
  unfold rJ; rw [if_pos (show uKd (mk b fi fj ai aj ar) a = c + 1 from hk)]; exact wp_some h
theorem wp_rR {P : Nat → Prop} {q : Nat} (hk : uKd b a = c + 1) (hq : uR b c k a = some q) (h : P q) : wp (rR (mk b fi fj ai aj ar) c k a) P := by
  unfold rR; rw [if_pos (show uKd (mk b fi fj ai aj ar) a = c + 1 from hk)]; exact ⟨q, hq, h⟩
theorem wp_wI {P : UH → Prop} {v : Int32} (hk : uKd b a = c + 1) (h : P (mk b (up3 fi c k a v) fj ai aj ar)) : wp (wI (mk b fi fj ai aj ar) c k a v) P := by
  unfold wI; rw [if_pos (show uKd (mk b fi fj ai aj ar) a = c + 1 from hk)]; exact wp_some h
theorem wp_wZ {P : UH → Prop} {v : Int32} (hk : uKd b a = c + 1) (hv : v = 0 ∨ v = 1) (h : P (mk b (up3 fi c k a v) fj ai aj ar)) : wp (wZ (mk b fi fj ai aj ar) c k a v) P := by
  unfold wZ; rw [if_pos (show uKd (mk b fi fj ai aj ar) a = c + 1 ∧ _ from ⟨hk, hv⟩)]; exact wp_some h
theorem wp_wJ {P : UH → Prop} {v : Int64} (hk : uKd b a = c + 1) (h : P (mk b fi (up3 fj c k a v) ai aj ar)) : wp (wJ (mk b fi fj ai aj ar) c k a v) P := by
  unfold wJ; rw [if_pos (show uKd (mk b fi fj ai aj ar) a = c + 1 from hk)]; exact wp_some h
theorem ix_nI {i n : Nat} (h : i < n) (hn : n < 2 ^ 31) : ¬ (nI i < 0 ∨ n ≤ (nI i).toNatClampNeg) := nI_in h hn
theorem wp_ldI {P : Int32 → Prop} {x : Int32} {i n : Nat} (hk : uKd b a = t) (hn : uLn b a = n) (hx : x = nI i) (hi : i < n) (hn2 : n < 2 ^ 31) (h : P (ai a i)) : wp (ldI (mk b fi fj ai aj ar) t a x) P := by
  subst hx
  have e : (nI i).toNatClampNeg = i := nI_clamp (by omega)
  unfold ldI; rw [if_pos (show uKd (mk b fi fj ai aj ar) a = t ∧ ¬ (_ ∨ uLn (mk b fi fj ai aj ar) a ≤ _) from ⟨hk, by rw [show uLn (mk b fi fj ai aj ar) a = n from hn]; exact nI_in hi hn2⟩), e]; exact wp_some h
theorem wp_ldJ {P : Int64 → Prop} {x : Int32} {i n : Nat} (hk : uKd b a = 21) (hn : uLn b a = n) (hx : x = nI i) (hi : i < n) (hn2 : n < 2 ^ 31) (h : P (aj a i)) : wp (ldJ (mk b fi fj ai aj ar) a x) P := by
  subst hx
  have e : (nI i).toNatClampNeg = i := nI_clamp (by omega)
  unfold ldJ; rw [if_pos (show uKd (mk b fi fj ai aj ar) a = 21 ∧ ¬ (_ ∨ uLn (mk b fi fj ai aj ar) a ≤ _) from ⟨hk, by rw [show uLn (mk b fi fj ai aj ar) a = n from hn]; exact nI_in hi hn2⟩), e]; exact wp_some h
theorem wp_ldR {P : Nat → Prop} {x : Int32} {i n q : Nat} (hk : uKd b a = t) (hn : uLn b a = n) (hx : x = nI i) (hi : i < n) (hn2 : n < 2 ^ 31) (hq : ar a i = some q) (h : P q) : wp (ldR (mk b fi fj ai aj ar) t a x) P := by
  subst hx
  have e : (nI i).toNatClampNeg = i := nI_clamp (by omega)
  unfold ldR; rw [if_pos (show uKd (mk b fi fj ai aj ar) a = t ∧ ¬ (_ ∨ uLn (mk b fi fj ai aj ar) a ≤ _) from ⟨hk, by rw [show uLn (mk b fi fj ai aj ar) a = n from hn]; exact nI_in hi hn2⟩), e]; exact ⟨q, hq, h⟩
theorem wp_stI {P : UH → Prop} {x v : Int32} {i n : Nat} (hk : uKd b a = 20) (hn : uLn b a = n) (hx : x = nI i) (hi : i < n) (hn2 : n < 2 ^ 31) (h : P (mk b fi fj (up2 ai a i v) aj ar)) : wp (stI (mk b fi fj ai aj ar) a x v) P := by
  subst hx
  have e : (nI i).toNatClampNeg = i := nI_clamp (by omega)
  unfold stI; rw [if_pos (show uKd (mk b fi fj ai aj ar) a = 20 ∧ ¬ (_ ∨ uLn (mk b fi fj ai aj ar) a ≤ _) from ⟨hk, by rw [show uLn (mk b fi fj ai aj ar) a = n from hn]; exact nI_in hi hn2⟩), e]; exact wp_some h
theorem wp_stC {P : UH → Prop} {x v : Int32} {i n : Nat} (hk : uKd b a = 22) (hn : uLn b a = n) (hx : x = nI i) (hi : i < n) (hn2 : n < 2 ^ 31) (h : P (mk b fi fj (up2 ai a i (vp_nar .char v)) aj ar)) : wp (stC (mk b fi fj ai aj ar) a x v) P := by
  subst hx
  have e : (nI i).toNatClampNeg = i := nI_clamp (by omega)
  unfold stC; rw [if_pos (show uKd (mk b fi fj ai aj ar) a = 22 ∧ ¬ (_ ∨ uLn (mk b fi fj ai aj ar) a ≤ _) from ⟨hk, by rw [show uLn (mk b fi fj ai aj ar) a = n from hn]; exact nI_in hi hn2⟩), e]; exact wp_some h
theorem wp_stZ {P : UH → Prop} {x v : Int32} {i n : Nat} (hk : uKd b a = 23) (hn : uLn b a = n) (hx : x = nI i) (hi : i < n) (hn2 : n < 2 ^ 31) (h : P (mk b fi fj (up2 ai a i (vp_nar .boolean v)) aj ar)) : wp (stZ (mk b fi fj ai aj ar) a x v) P := by
  subst hx
  have e : (nI i).toNatClampNeg = i := nI_clamp (by omega)
  unfold stZ; rw [if_pos (show uKd (mk b fi fj ai aj ar) a = 23 ∧ ¬ (_ ∨ uLn (mk b fi fj ai aj ar) a ≤ _) from ⟨hk, by rw [show uLn (mk b fi fj ai aj ar) a = n from hn]; exact nI_in hi hn2⟩), e]; exact wp_some h
theorem wp_stJ {P : UH → Prop} {x : Int32} {v : Int64} {i n : Nat} (hk : uKd b a = 21) (hn : uLn b a = n) (hx : x = nI i) (hi : i < n) (hn2 : n < 2 ^ 31) (h : P (mk b fi fj ai (up2 aj a i v) ar)) : wp (stJ (mk b fi fj ai aj ar) a x v) P := by
  subst hx
  have e : (nI i).toNatClampNeg = i := nI_clamp (by omega)
  unfold stJ; rw [if_pos (show uKd (mk b fi fj ai aj ar) a = 21 ∧ ¬ (_ ∨ uLn (mk b fi fj ai aj ar) a ≤ _) from ⟨hk, by rw [show uLn (mk b fi fj ai aj ar) a = n from hn]; exact nI_in hi hn2⟩), e]; exact wp_some h
theorem wp_stR {P : UH → Prop} {x : Int32} {i n v : Nat} (hk : uKd b a = t) (hv : uKd b v = c + 1) (hn : uLn b a = n) (hx : x = nI i) (hi : i < n) (hn2 : n < 2 ^ 31) (h : P (mk b fi fj ai aj (up2 ar a i (some v)))) : wp (stR (mk b fi fj ai aj ar) t c a x v) P := by
  subst hx
  have e : (nI i).toNatClampNeg = i := nI_clamp (by omega)
  unfold stR; rw [if_pos (show uKd (mk b fi fj ai aj ar) a = t ∧ ¬ (_ ∨ uLn (mk b fi fj ai aj ar) a ≤ _) ∧ uKd (mk b fi fj ai aj ar) v = c + 1 from ⟨hk, by rw [show uLn (mk b fi fj ai aj ar) a = n from hn]; exact nI_in hi hn2, hv⟩), e]; exact wp_some h
theorem wp_lnA {P : Int32 → Prop} {n : Nat} (hk : uKd b a = t) (hn : uLn b a = n) (h : P (nI n)) : wp (lnA (mk b fi fj ai aj ar) t a) P := by
  unfold lnA; rw [if_pos (show uKd (mk b fi fj ai aj ar) a = t from hk), show uLn (mk b fi fj ai aj ar) a = n from hn]; exact wp_some h
theorem wp_kd {α : Type} {x : Option α} {P : α → Prop} (hk : uKd b a = c + 1) (h : wp x P) : wp (kd (mk b fi fj ai aj ar) c a x) P := by
  unfold kd; rw [if_pos (show uKd (mk b fi fj ai aj ar) a = c + 1 from hk)]; exact h
end WPS
theorem wp_rWB {P : Int64 → Prop} {x : Int32} {i : Nat} (hx : x = nI i) (hi : i < 5) (h : P (uWB i)) : wp (rWB x) P := by
  subst hx
  have e : (nI i).toNatClampNeg = i := nI_clamp (by omega)
  unfold rWB; rw [if_pos (nI_in hi (by decide)), e]; exact wp_some h
/-! tests of numbers -/
section WPN
variable {α : Type} {A B : Option α} {P : α → Prop} {x y : Int32}
theorem wp_le {a b : Nat} (hx : x = nI a) (hy : y = nI b) (ha : a < 2 ^ 31) (hb : b < 2 ^ 31) (h1 : a ≤ b → wp A P) (h2 : b < a → wp B P) : wp (if x ≤ y then A else B) P := by
  subst hx; subst hy
  refine wp_if (fun h => h1 ((nI_leI ha hb).mp h)) (fun h => h2 (Nat.lt_of_not_le fun z => h ((nI_leI ha hb).mpr z)))
theorem wp_ltt {a b : Nat} (hx : x = nI a) (hy : y = nI b) (ha : a < 2 ^ 31) (hb : b < 2 ^ 31) (h1 : a < b → wp A P) (h2 : b ≤ a → wp B P) : wp (if x < y then A else B) P := by
  subst hx; subst hy
  refine wp_if (fun h => h1 ((nI_ltI ha hb).mp h)) (fun h => h2 (Nat.le_of_not_lt fun z => h ((nI_ltI ha hb).mpr z)))
theorem wp_eqq {a b : Nat} (hx : x = nI a) (hy : y = nI b) (ha : a < 2 ^ 31) (hb : b < 2 ^ 31) (h1 : a = b → wp A P) (h2 : a ≠ b → wp B P) : wp (if x = y then A else B) P := by
  subst hx; subst hy
  refine wp_if (fun h => h1 ((nI_eq ha hb).mp h)) (fun h => h2 (fun z => h ((nI_eq ha hb).mpr z)))
end WPN
/-! loops with a counter that goes up to n -/
theorem it1_up1 {E : Type} {b : (Int32 → Option E) → Int32 → Option E} {P : E → Prop} (n : Nat) (hn : n < 900000) (I : Nat → Prop)
    (hb : ∀ (k : Int32 → Option E) (i : Nat) , i ≤ n → I i  → (i < n → ∀ (z : Int32) , z = nI (i + 1) → I (i + 1)  → wp (k z) P) → wp (b k (nI i)) P) : ∀ (m i : Nat) , i ≤ n → n - i < m → I i  → wp (it1 b m (nI i)) P := by
  intro m
  induction m with
  | zero => intro i  _ h; exact absurd h (Nat.not_lt_zero _)
  | succ m ih =>
    intro i  hi hm hI
    exact hb (it1 b m) i  hi hI (fun hlt z  hz hI2 => by subst hz; exact ih (i + 1)  (by omega) (by omega) hI2)
theorem it1_up1F {E : Type} {b : (Int32 → Option E) → Int32 → Option E} {P : E → Prop} {c : Int32} {i0 : Nat} (hc : c = nI i0) (n : Nat) (hn : n < 900000) (I : Nat → Prop)
    (hb : ∀ (k : Int32 → Option E) (i : Nat) , i ≤ n → I i  → (i < n → ∀ (z : Int32) , z = nI (i + 1) → I (i + 1)  → wp (k z) P) → wp (b k (nI i)) P) (h0 : i0 ≤ n) (hI : I i0 ) : wp (it1 b FUEL c) P := by
  subst hc
  exact it1_up1 n hn I hb FUEL i0  h0 (by unfold FUEL; omega) hI
theorem it2_up1 {α1 E : Type} {b : (Int32 → α1 → Option E) → Int32 → α1 → Option E} {P : E → Prop} (n : Nat) (hn : n < 900000) (I : Nat → α1 → Prop)
    (hb : ∀ (k : Int32 → α1 → Option E) (i : Nat) (x1 : α1), i ≤ n → I i x1 → (i < n → ∀ (z : Int32) (y1 : α1), z = nI (i + 1) → I (i + 1) y1 → wp (k z y1) P) → wp (b k (nI i) x1) P) : ∀ (m i : Nat) (x1 : α1), i ≤ n → n - i < m → I i x1 → wp (it2 b m (nI i) x1) P := by
  intro m
  induction m with
  | zero => intro i x1 _ h; exact absurd h (Nat.not_lt_zero _)
  | succ m ih =>
    intro i x1 hi hm hI
    exact hb (it2 b m) i x1 hi hI (fun hlt z y1 hz hI2 => by subst hz; exact ih (i + 1) y1 (by omega) (by omega) hI2)
theorem it2_up1F {α1 E : Type} {b : (Int32 → α1 → Option E) → Int32 → α1 → Option E} {P : E → Prop} {c : Int32} {i0 : Nat} (hc : c = nI i0) (n : Nat) (hn : n < 900000) (I : Nat → α1 → Prop)
    (hb : ∀ (k : Int32 → α1 → Option E) (i : Nat) (x1 : α1), i ≤ n → I i x1 → (i < n → ∀ (z : Int32) (y1 : α1), z = nI (i + 1) → I (i + 1) y1 → wp (k z y1) P) → wp (b k (nI i) x1) P) {x1 : α1} (h0 : i0 ≤ n) (hI : I i0 x1) : wp (it2 b FUEL c x1) P := by
  subst hc
  exact it2_up1 n hn I hb FUEL i0 x1 h0 (by unfold FUEL; omega) hI
theorem it2_up2 {α0 E : Type} {b : (α0 → Int32 → Option E) → α0 → Int32 → Option E} {P : E → Prop} (n : Nat) (hn : n < 900000) (I : Nat → α0 → Prop)
    (hb : ∀ (k : α0 → Int32 → Option E) (i : Nat) (x0 : α0), i ≤ n → I i x0 → (i < n → ∀ (z : Int32) (y0 : α0), z = nI (i + 1) → I (i + 1) y0 → wp (k y0 z) P) → wp (b k x0 (nI i)) P) : ∀ (m i : Nat) (x0 : α0), i ≤ n → n - i < m → I i x0 → wp (it2 b m x0 (nI i)) P := by
  intro m
  induction m with
  | zero => intro i x0 _ h; exact absurd h (Nat.not_lt_zero _)
  | succ m ih =>
    intro i x0 hi hm hI
    exact hb (it2 b m) i x0 hi hI (fun hlt z y0 hz hI2 => by subst hz; exact ih (i + 1) y0 (by omega) (by omega) hI2)
theorem it2_up2F {α0 E : Type} {b : (α0 → Int32 → Option E) → α0 → Int32 → Option E} {P : E → Prop} {c : Int32} {i0 : Nat} (hc : c = nI i0) (n : Nat) (hn : n < 900000) (I : Nat → α0 → Prop)
    (hb : ∀ (k : α0 → Int32 → Option E) (i : Nat) (x0 : α0), i ≤ n → I i x0 → (i < n → ∀ (z : Int32) (y0 : α0), z = nI (i + 1) → I (i + 1) y0 → wp (k y0 z) P) → wp (b k x0 (nI i)) P) {x0 : α0} (h0 : i0 ≤ n) (hI : I i0 x0) : wp (it2 b FUEL x0 c) P := by
  subst hc
  exact it2_up2 n hn I hb FUEL i0 x0 h0 (by unfold FUEL; omega) hI
theorem it3_up1 {α1 α2 E : Type} {b : (Int32 → α1 → α2 → Option E) → Int32 → α1 → α2 → Option E} {P : E → Prop} (n : Nat) (hn : n < 900000) (I : Nat → α1 → α2 → Prop)
    (hb : ∀ (k : Int32 → α1 → α2 → Option E) (i : Nat) (x1 : α1) (x2 : α2), i ≤ n → I i x1 x2 → (i < n → ∀ (z : Int32) (y1 : α1) (y2 : α2), z = nI (i + 1) → I (i + 1) y1 y2 → wp (k z y1 y2) P) → wp (b k (nI i) x1 x2) P) : ∀ (m i : Nat) (x1 : α1) (x2 : α2), i ≤ n → n - i < m → I i x1 x2 → wp (it3 b m (nI i) x1 x2) P := by
  intro m
  induction m with
  | zero => intro i x1 x2 _ h; exact absurd h (Nat.not_lt_zero _)
  | succ m ih =>
    intro i x1 x2 hi hm hI
    exact hb (it3 b m) i x1 x2 hi hI (fun hlt z y1 y2 hz hI2 => by subst hz; exact ih (i + 1) y1 y2 (by omega) (by omega) hI2)
theorem it3_up1F {α1 α2 E : Type} {b : (Int32 → α1 → α2 → Option E) → Int32 → α1 → α2 → Option E} {P : E → Prop} {c : Int32} {i0 : Nat} (hc : c = nI i0) (n : Nat) (hn : n < 900000) (I : Nat → α1 → α2 → Prop)
    (hb : ∀ (k : Int32 → α1 → α2 → Option E) (i : Nat) (x1 : α1) (x2 : α2), i ≤ n → I i x1 x2 → (i < n → ∀ (z : Int32) (y1 : α1) (y2 : α2), z = nI (i + 1) → I (i + 1) y1 y2 → wp (k z y1 y2) P) → wp (b k (nI i) x1 x2) P) {x1 : α1} {x2 : α2} (h0 : i0 ≤ n) (hI : I i0 x1 x2) : wp (it3 b FUEL c x1 x2) P := by
  subst hc
  exact it3_up1 n hn I hb FUEL i0 x1 x2 h0 (by unfold FUEL; omega) hI
theorem it3_up2 {α0 α2 E : Type} {b : (α0 → Int32 → α2 → Option E) → α0 → Int32 → α2 → Option E} {P : E → Prop} (n : Nat) (hn : n < 900000) (I : Nat → α0 → α2 → Prop)
    (hb : ∀ (k : α0 → Int32 → α2 → Option E) (i : Nat) (x0 : α0) (x2 : α2), i ≤ n → I i x0 x2 → (i < n → ∀ (z : Int32) (y0 : α0) (y2 : α2), z = nI (i + 1) → I (i + 1) y0 y2 → wp (k y0 z y2) P) → wp (b k x0 (nI i) x2) P) : ∀ (m i : Nat) (x0 : α0) (x2 : α2), i ≤ n → n - i < m → I i x0 x2 → wp (it3 b m x0 (nI i) x2) P := by
  intro m
  induction m with
  | zero => intro i x0 x2 _ h; exact absurd h (Nat.not_lt_zero _)
  | succ m ih =>
    intro i x0 x2 hi hm hI
    exact hb (it3 b m) i x0 x2 hi hI (fun hlt z y0 y2 hz hI2 => by subst hz; exact ih (i + 1) y0 y2 (by omega) (by omega) hI2)
theorem it3_up2F {α0 α2 E : Type} {b : (α0 → Int32 → α2 → Option E) → α0 → Int32 → α2 → Option E} {P : E → Prop} {c : Int32} {i0 : Nat} (hc : c = nI i0) (n : Nat) (hn : n < 900000) (I : Nat → α0 → α2 → Prop)
    (hb : ∀ (k : α0 → Int32 → α2 → Option E) (i : Nat) (x0 : α0) (x2 : α2), i ≤ n → I i x0 x2 → (i < n → ∀ (z : Int32) (y0 : α0) (y2 : α2), z = nI (i + 1) → I (i + 1) y0 y2 → wp (k y0 z y2) P) → wp (b k x0 (nI i) x2) P) {x0 : α0} {x2 : α2} (h0 : i0 ≤ n) (hI : I i0 x0 x2) : wp (it3 b FUEL x0 c x2) P := by
  subst hc
  exact it3_up2 n hn I hb FUEL i0 x0 x2 h0 (by unfold FUEL; omega) hI
theorem it3_up3 {α0 α1 E : Type} {b : (α0 → α1 → Int32 → Option E) → α0 → α1 → Int32 → Option E} {P : E → Prop} (n : Nat) (hn : n < 900000) (I : Nat → α0 → α1 → Prop)
    (hb : ∀ (k : α0 → α1 → Int32 → Option E) (i : Nat) (x0 : α0) (x1 : α1), i ≤ n → I i x0 x1 → (i < n → ∀ (z : Int32) (y0 : α0) (y1 : α1), z = nI (i + 1) → I (i + 1) y0 y1 → wp (k y0 y1 z) P) → wp (b k x0 x1 (nI i)) P) : ∀ (m i : Nat) (x0 : α0) (x1 : α1), i ≤ n → n - i < m → I i x0 x1 → wp (it3 b m x0 x1 (nI i)) P := by
  intro m
  induction m with
  | zero => intro i x0 x1 _ h; exact absurd h (Nat.not_lt_zero _)
  | succ m ih =>
    intro i x0 x1 hi hm hI
    exact hb (it3 b m) i x0 x1 hi hI (fun hlt z y0 y1 hz hI2 => by subst hz; exact ih (i + 1) y0 y1 (by omega) (by omega) hI2)
theorem it3_up3F {α0 α1 E : Type} {b : (α0 → α1 → Int32 → Option E) → α0 → α1 → Int32 → Option E} {P : E → Prop} {c : Int32} {i0 : Nat} (hc : c = nI i0) (n : Nat) (hn : n < 900000) (I : Nat → α0 → α1 → Prop)
    (hb : ∀ (k : α0 → α1 → Int32 → Option E) (i : Nat) (x0 : α0) (x1 : α1), i ≤ n → I i x0 x1 → (i < n → ∀ (z : Int32) (y0 : α0) (y1 : α1), z = nI (i + 1) → I (i + 1) y0 y1 → wp (k y0 y1 z) P) → wp (b k x0 x1 (nI i)) P) {x0 : α0} {x1 : α1} (h0 : i0 ≤ n) (hI : I i0 x0 x1) : wp (it3 b FUEL x0 x1 c) P := by
  subst hc
  exact it3_up3 n hn I hb FUEL i0 x0 x1 h0 (by unfold FUEL; omega) hI
theorem it4_up1 {α1 α2 α3 E : Type} {b : (Int32 → α1 → α2 → α3 → Option E) → Int32 → α1 → α2 → α3 → Option E} {P : E → Prop} (n : Nat) (hn : n < 900000) (I : Nat → α1 → α2 → α3 → Prop)
    (hb : ∀ (k : Int32 → α1 → α2 → α3 → Option E) (i : Nat) (x1 : α1) (x2 : α2) (x3 : α3), i ≤ n → I i x1 x2 x3 → (i < n → ∀ (z : Int32) (y1 : α1) (y2 : α2) (y3 : α3), z = nI (i + 1) → I (i + 1) y1 y2 y3 → wp (k z y1 y2 y3) P) → wp (b k (nI i) x1 x2 x3) P) : ∀ (m i : Nat) (x1 : α1) (x2 : α2) (x3 : α3), i ≤ n → n - i < m → I i x1 x2 x3 → wp (it4 b m (nI i) x1 x2 x3) P := by
  intro m
  induction m with
  | zero => intro i x1 x2 x3 _ h; exact absurd h (Nat.not_lt_zero _)
  | succ m ih =>
    intro i x1 x2 x3 hi hm hI
    exact hb (it4 b m) i x1 x2 x3 hi hI (fun hlt z y1 y2 y3 hz hI2 => by subst hz; exact ih (i + 1) y1 y2 y3 (by omega) (by omega) hI2)
theorem it4_up1F {α1 α2 α3 E : Type} {b : (Int32 → α1 → α2 → α3 → Option E) → Int32 → α1 → α2 → α3 → Option E} {P : E → Prop} {c : Int32} {i0 : Nat} (hc : c = nI i0) (n : Nat) (hn : n < 900000) (I : Nat → α1 → α2 → α3 → Prop)
    (hb : ∀ (k : Int32 → α1 → α2 → α3 → Option E) (i : Nat) (x1 : α1) (x2 : α2) (x3 : α3), i ≤ n → I i x1 x2 x3 → (i < n → ∀ (z : Int32) (y1 : α1) (y2 : α2) (y3 : α3), z = nI (i + 1) → I (i + 1) y1 y2 y3 → wp (k z y1 y2 y3) P) → wp (b k (nI i) x1 x2 x3) P) {x1 : α1} {x2 : α2} {x3 : α3} (h0 : i0 ≤ n) (hI : I i0 x1 x2 x3) : wp (it4 b FUEL c x1 x2 x3) P := by
  subst hc
  exact it4_up1 n hn I hb FUEL i0 x1 x2 x3 h0 (by unfold FUEL; omega) hI
theorem it4_up2 {α0 α2 α3 E : Type} {b : (α0 → Int32 → α2 → α3 → Option E) → α0 → Int32 → α2 → α3 → Option E} {P : E → Prop} (n : Nat) (hn : n < 900000) (I : Nat → α0 → α2 → α3 → Prop)
    (hb : ∀ (k : α0 → Int32 → α2 → α3 → Option E) (i : Nat) (x0 : α0) (x2 : α2) (x3 : α3), i ≤ n → I i x0 x2 x3 → (i < n → ∀ (z : Int32) (y0 : α0) (y2 : α2) (y3 : α3), z = nI (i + 1) → I (i + 1) y0 y2 y3 → wp (k y0 z y2 y3) P) → wp (b k x0 (nI i) x2 x3) P) : ∀ (m i : Nat) (x0 : α0) (x2 : α2) (x3 : α3), i ≤ n → n - i < m → I i x0 x2 x3 → wp (it4 b m x0 (nI i) x2 x3) P := by
  intro m
  induction m with
  | zero => intro i x0 x2 x3 _ h; exact absurd h (Nat.not_lt_zero _)
  | succ m ih =>
    intro i x0 x2 x3 hi hm hI
    exact hb (it4 b m) i x0 x2 x3 hi hI (fun hlt z y0 y2 y3 hz hI2 => by subst hz; exact ih (i + 1) y0 y2 y3 (by omega) (by omega) hI2)
theorem it4_up2F {α0 α2 α3 E : Type} {b : (α0 → Int32 → α2 → α3 → Option E) → α0 → Int32 → α2 → α3 → Option E} {P : E → Prop} {c : Int32} {i0 : Nat} (hc : c = nI i0) (n : Nat) (hn : n < 900000) (I : Nat → α0 → α2 → α3 → Prop)
    (hb : ∀ (k : α0 → Int32 → α2 → α3 → Option E) (i : Nat) (x0 : α0) (x2 : α2) (x3 : α3), i ≤ n → I i x0 x2 x3 → (i < n → ∀ (z : Int32) (y0 : α0) (y2 : α2) (y3 : α3), z = nI (i + 1) → I (i + 1) y0 y2 y3 → wp (k y0 z y2 y3) P) → wp (b k x0 (nI i) x2 x3) P) {x0 : α0} {x2 : α2} {x3 : α3} (h0 : i0 ≤ n) (hI : I i0 x0 x2 x3) : wp (it4 b FUEL x0 c x2 x3) P := by
  subst hc
  exact it4_up2 n hn I hb FUEL i0 x0 x2 x3 h0 (by unfold FUEL; omega) hI
theorem it4_up3 {α0 α1 α3 E : Type} {b : (α0 → α1 → Int32 → α3 → Option E) → α0 → α1 → Int32 → α3 → Option E} {P : E → Prop} (n : Nat) (hn : n < 900000) (I : Nat → α0 → α1 → α3 → Prop)
    (hb : ∀ (k : α0 → α1 → Int32 → α3 → Option E) (i : Nat) (x0 : α0) (x1 : α1) (x3 : α3), i ≤ n → I i x0 x1 x3 → (i < n → ∀ (z : Int32) (y0 : α0) (y1 : α1) (y3 : α3), z = nI (i + 1) → I (i + 1) y0 y1 y3 → wp (k y0 y1 z y3) P) → wp (b k x0 x1 (nI i) x3) P) : ∀ (m i : Nat) (x0 : α0) (x1 : α1) (x3 : α3), i ≤ n → n - i < m → I i x0 x1 x3 → wp (it4 b m x0 x1 (nI i) x3) P := by
  intro m
  induction m with
  | zero => intro i x0 x1 x3 _ h; exact absurd h (Nat.not_lt_zero _)
  | succ m ih =>
    intro i x0 x1 x3 hi hm hI
    exact hb (it4 b m) i x0 x1 x3 hi hI (fun hlt z y0 y1 y3 hz hI2 => by subst hz; exact ih (i + 1) y0 y1 y3 (by omega) (by omega) hI2)
theorem it4_up3F {α0 α1 α3 E : Type} {b : (α0 → α1 → Int32 → α3 → Option E) → α0 → α1 → Int32 → α3 → Option E} {P : E → Prop} {c : Int32} {i0 : Nat} (hc : c = nI i0) (n : Nat) (hn : n < 900000) (I : Nat → α0 → α1 → α3 → Prop)
    (hb : ∀ (k : α0 → α1 → Int32 → α3 → Option E) (i : Nat) (x0 : α0) (x1 : α1) (x3 : α3), i ≤ n → I i x0 x1 x3 → (i < n → ∀ (z : Int32) (y0 : α0) (y1 : α1) (y3 : α3), z = nI (i + 1) → I (i + 1) y0 y1 y3 → wp (k y0 y1 z y3) P) → wp (b k x0 x1 (nI i) x3) P) {x0 : α0} {x1 : α1} {x3 : α3} (h0 : i0 ≤ n) (hI : I i0 x0 x1 x3) : wp (it4 b FUEL x0 x1 c x3) P := by
  subst hc
  exact it4_up3 n hn I hb FUEL i0 x0 x1 x3 h0 (by unfold FUEL; omega) hI
theorem it4_up4 {α0 α1 α2 E : Type} {b : (α0 → α1 → α2 → Int32 → Option E) → α0 → α1 → α2 → Int32 → Option E} {P : E → Prop} (n : Nat) (hn : n < 900000) (I : Nat → α0 → α1 → α2 → Prop)
    (hb : ∀ (k : α0 → α1 → α2 → Int32 → Option E) (i : Nat) (x0 : α0) (x1 : α1) (x2 : α2), i ≤ n → I i x0 x1 x2 → (i < n → ∀ (z : Int32) (y0 : α0) (y1 : α1) (y2 : α2), z = nI (i + 1) → I (i + 1) y0 y1 y2 → wp (k y0 y1 y2 z) P) → wp (b k x0 x1 x2 (nI i)) P) : ∀ (m i : Nat) (x0 : α0) (x1 : α1) (x2 : α2), i ≤ n → n - i < m → I i x0 x1 x2 → wp (it4 b m x0 x1 x2 (nI i)) P := by
  intro m
  induction m with
  | zero => intro i x0 x1 x2 _ h; exact absurd h (Nat.not_lt_zero _)
  | succ m ih =>
    intro i x0 x1 x2 hi hm hI
    exact hb (it4 b m) i x0 x1 x2 hi hI (fun hlt z y0 y1 y2 hz hI2 => by subst hz; exact ih (i + 1) y0 y1 y2 (by omega) (by omega) hI2)
theorem it4_up4F {α0 α1 α2 E : Type} {b : (α0 → α1 → α2 → Int32 → Option E) → α0 → α1 → α2 → Int32 → Option E} {P : E → Prop} {c : Int32} {i0 : Nat} (hc : c = nI i0) (n : Nat) (hn : n < 900000) (I : Nat → α0 → α1 → α2 → Prop)
    (hb : ∀ (k : α0 → α1 → α2 → Int32 → Option E) (i : Nat) (x0 : α0) (x1 : α1) (x2 : α2), i ≤ n → I i x0 x1 x2 → (i < n → ∀ (z : Int32) (y0 : α0) (y1 : α1) (y2 : α2), z = nI (i + 1) → I (i + 1) y0 y1 y2 → wp (k y0 y1 y2 z) P) → wp (b k x0 x1 x2 (nI i)) P) {x0 : α0} {x1 : α1} {x2 : α2} (h0 : i0 ≤ n) (hI : I i0 x0 x1 x2) : wp (it4 b FUEL x0 x1 x2 c) P := by
  subst hc
  exact it4_up4 n hn I hb FUEL i0 x0 x1 x2 h0 (by unfold FUEL; omega) hI
theorem it5_up1 {α1 α2 α3 α4 E : Type} {b : (Int32 → α1 → α2 → α3 → α4 → Option E) → Int32 → α1 → α2 → α3 → α4 → Option E} {P : E → Prop} (n : Nat) (hn : n < 900000) (I : Nat → α1 → α2 → α3 → α4 → Prop)
    (hb : ∀ (k : Int32 → α1 → α2 → α3 → α4 → Option E) (i : Nat) (x1 : α1) (x2 : α2) (x3 : α3) (x4 : α4), i ≤ n → I i x1 x2 x3 x4 → (i < n → ∀ (z : Int32) (y1 : α1) (y2 : α2) (y3 : α3) (y4 : α4), z = nI (i + 1) → I (i + 1) y1 y2 y3 y4 → wp (k z y1 y2 y3 y4) P) → wp (b k (nI i) x1 x2 x3 x4) P) : ∀ (m i : Nat) (x1 : α1) (x2 : α2) (x3 : α3) (x4 : α4), i ≤ n → n - i < m → I i x1 x2 x3 x4 → wp (it5 b m (nI i) x1 x2 x3 x4) P := by
  intro m
  induction m with
  | zero => intro i x1 x2 x3 x4 _ h; exact absurd h (Nat.not_lt_zero _)
  | succ m ih =>
    intro i x1 x2 x3 x4 hi hm hI
    exact hb (it5 b m) i x1 x2 x3 x4 hi hI (fun hlt z y1 y2 y3 y4 hz hI2 => by subst hz; exact ih (i + 1) y1 y2 y3 y4 (by omega) (by omega) hI2)
theorem it5_up1F {α1 α2 α3 α4 E : Type} {b : (Int32 → α1 → α2 → α3 → α4 → Option E) → Int32 → α1 → α2 → α3 → α4 → Option E} {P : E → Prop} {c : Int32} {i0 : Nat} (hc : c = nI i0) (n : Nat) (hn : n < 900000) (I : Nat → α1 → α2 → α3 → α4 → Prop)
    (hb : ∀ (k : Int32 → α1 → α2 → α3 → α4 → Option E) (i : Nat) (x1 : α1) (x2 : α2) (x3 : α3) (x4 : α4), i ≤ n → I i x1 x2 x3 x4 → (i < n → ∀ (z : Int32) (y1 : α1) (y2 : α2) (y3 : α3) (y4 : α4), z = nI (i + 1) → I (i + 1) y1 y2 y3 y4 → wp (k z y1 y2 y3 y4) P) → wp (b k (nI i) x1 x2 x3 x4) P) {x1 : α1} {x2 : α2} {x3 : α3} {x4 : α4} (h0 : i0 ≤ n) (hI : I i0 x1 x2 x3 x4) : wp (it5 b FUEL c x1 x2 x3 x4) P := by
  subst hc
  exact it5_up1 n hn I hb FUEL i0 x1 x2 x3 x4 h0 (by unfold FUEL; omega) hI
theorem it5_up2 {α0 α2 α3 α4 E : Type} {b : (α0 → Int32 → α2 → α3 → α4 → Option E) → α0 → Int32 → α2 → α3 → α4 → Option E} {P : E → Prop} (n : Nat) (hn : n < 900000) (I : Nat → α0 → α2 → α3 → α4 → Prop)
    (hb : ∀ (k : α0 → Int32 → α2 → α3 → α4 → Option E) (i : Nat) (x0 : α0) (x2 : α2) (x3 : α3) (x4 : α4), i ≤ n → I i x0 x2 x3 x4 → (i < n → ∀ (z : Int32) (y0 : α0) (y2 : α2) (y3 : α3) (y4 : α4), z = nI (i + 1) → I (i + 1) y0 y2 y3 y4 → wp (k y0 z y2 y3 y4) P) → wp (b k x0 (nI i) x2 x3 x4) P) : ∀ (m i : Nat) (x0 : α0) (x2 : α2) (x3 : α3) (x4 : α4), i ≤ n → n - i < m → I i x0 x2 x3 x4 → wp (it5 b m x0 (nI i) x2 x3 x4) P := by
  intro m
  induction m with
  | zero => intro i x0 x2 x3 x4 _ h; exact absurd h (Nat.not_lt_zero _)
  | succ m ih =>
    intro i x0 x2 x3 x4 hi hm hI
    exact hb (it5 b m) i x0 x2 x3 x4 hi hI (fun hlt z y0 y2 y3 y4 hz hI2 => by subst hz; exact ih (i + 1) y0 y2 y3 y4 (by omega) (by omega) hI2)
theorem it5_up2F {α0 α2 α3 α4 E : Type} {b : (α0 → Int32 → α2 → α3 → α4 → Option E) → α0 → Int32 → α2 → α3 → α4 → Option E} {P : E → Prop} {c : Int32} {i0 : Nat} (hc : c = nI i0) (n : Nat) (hn : n < 900000) (I : Nat → α0 → α2 → α3 → α4 → Prop)
    (hb : ∀ (k : α0 → Int32 → α2 → α3 → α4 → Option E) (i : Nat) (x0 : α0) (x2 : α2) (x3 : α3) (x4 : α4), i ≤ n → I i x0 x2 x3 x4 → (i < n → ∀ (z : Int32) (y0 : α0) (y2 : α2) (y3 : α3) (y4 : α4), z = nI (i + 1) → I (i + 1) y0 y2 y3 y4 → wp (k y0 z y2 y3 y4) P) → wp (b k x0 (nI i) x2 x3 x4) P) {x0 : α0} {x2 : α2} {x3 : α3} {x4 : α4} (h0 : i0 ≤ n) (hI : I i0 x0 x2 x3 x4) : wp (it5 b FUEL x0 c x2 x3 x4) P := by
  subst hc
  exact it5_up2 n hn I hb FUEL i0 x0 x2 x3 x4 h0 (by unfold FUEL; omega) hI
theorem it5_up3 {α0 α1 α3 α4 E : Type} {b : (α0 → α1 → Int32 → α3 → α4 → Option E) → α0 → α1 → Int32 → α3 → α4 → Option E} {P : E → Prop} (n : Nat) (hn : n < 900000) (I : Nat → α0 → α1 → α3 → α4 → Prop)
    (hb : ∀ (k : α0 → α1 → Int32 → α3 → α4 → Option E) (i : Nat) (x0 : α0) (x1 : α1) (x3 : α3) (x4 : α4), i ≤ n → I i x0 x1 x3 x4 → (i < n → ∀ (z : Int32) (y0 : α0) (y1 : α1) (y3 : α3) (y4 : α4), z = nI (i + 1) → I (i + 1) y0 y1 y3 y4 → wp (k y0 y1 z y3 y4) P) → wp (b k x0 x1 (nI i) x3 x4) P) : ∀ (m i : Nat) (x0 : α0) (x1 : α1) (x3 : α3) (x4 : α4), i ≤ n → n - i < m → I i x0 x1 x3 x4 → wp (it5 b m x0 x1 (nI i) x3 x4) P := by
  intro m
  induction m with
  | zero => intro i x0 x1 x3 x4 _ h; exact absurd h (Nat.not_lt_zero _)
  | succ m ih =>
    intro i x0 x1 x3 x4 hi hm hI
    exact hb (it5 b m) i x0 x1 x3 x4 hi hI (fun hlt z y0 y1 y3 y4 hz hI2 => by subst hz; exact ih (i + 1) y0 y1 y3 y4 (by omega) (by omega) hI2)
theorem it5_up3F {α0 α1 α3 α4 E : Type} {b : (α0 → α1 → Int32 → α3 → α4 → Option E) → α0 → α1 → Int32 → α3 → α4 → Option E} {P : E → Prop} {c : Int32} {i0 : Nat} (hc : c = nI i0) (n : Nat) (hn : n < 900000) (I : Nat → α0 → α1 → α3 → α4 → Prop)
    (hb : ∀ (k : α0 → α1 → Int32 → α3 → α4 → Option E) (i : Nat) (x0 : α0) (x1 : α1) (x3 : α3) (x4 : α4), i ≤ n → I i x0 x1 x3 x4 → (i < n → ∀ (z : Int32) (y0 : α0) (y1 : α1) (y3 : α3) (y4 : α4), z = nI (i + 1) → I (i + 1) y0 y1 y3 y4 → wp (k y0 y1 z y3 y4) P) → wp (b k x0 x1 (nI i) x3 x4) P) {x0 : α0} {x1 : α1} {x3 : α3} {x4 : α4} (h0 : i0 ≤ n) (hI : I i0 x0 x1 x3 x4) : wp (it5 b FUEL x0 x1 c x3 x4) P := by
  subst hc
  exact it5_up3 n hn I hb FUEL i0 x0 x1 x3 x4 h0 (by unfold FUEL; omega) hI
theorem it5_up4 {α0 α1 α2 α4 E : Type} {b : (α0 → α1 → α2 → Int32 → α4 → Option E) → α0 → α1 → α2 → Int32 → α4 → Option E} {P : E → Prop} (n : Nat) (hn : n < 900000) (I : Nat → α0 → α1 → α2 → α4 → Prop)
    (hb : ∀ (k : α0 → α1 → α2 → Int32 → α4 → Option E) (i : Nat) (x0 : α0) (x1 : α1) (x2 : α2) (x4 : α4), i ≤ n → I i x0 x1 x2 x4 → (i < n → ∀ (z : Int32) (y0 : α0) (y1 : α1) (y2 : α2) (y4 : α4), z = nI (i + 1) → I (i + 1) y0 y1 y2 y4 → wp (k y0 y1 y2 z y4) P) → wp (b k x0 x1 x2 (nI i) x4) P) : ∀ (m i : Nat) (x0 : α0) (x1 : α1) (x2 : α2) (x4 : α4), i ≤ n → n - i < m → I i x0 x1 x2 x4 → wp (it5 b m x0 x1 x2 (nI i) x4) P := by
  intro m
  induction m with
  | zero => intro i x0 x1 x2 x4 _ h; exact absurd h (Nat.not_lt_zero _)
  | succ m ih =>
    intro i x0 x1 x2 x4 hi hm hI
    exact hb (it5 b m) i x0 x1 x2 x4 hi hI (fun hlt z y0 y1 y2 y4 hz hI2 => by subst hz; exact ih (i + 1) y0 y1 y2 y4 (by omega) (by omega) hI2)
theorem it5_up4F {α0 α1 α2 α4 E : Type} {b : (α0 → α1 → α2 → Int32 → α4 → Option E) → α0 → α1 → α2 → Int32 → α4 → Option E} {P : E → Prop} {c : Int32} {i0 : Nat} (hc : c = nI i0) (n : Nat) (hn : n < 900000) (I : Nat → α0 → α1 → α2 → α4 → Prop)
    (hb : ∀ (k : α0 → α1 → α2 → Int32 → α4 → Option E) (i : Nat) (x0 : α0) (x1 : α1) (x2 : α2) (x4 : α4), i ≤ n → I i x0 x1 x2 x4 → (i < n → ∀ (z : Int32) (y0 : α0) (y1 : α1) (y2 : α2) (y4 : α4), z = nI (i + 1) → I (i + 1) y0 y1 y2 y4 → wp (k y0 y1 y2 z y4) P) → wp (b k x0 x1 x2 (nI i) x4) P) {x0 : α0} {x1 : α1} {x2 : α2} {x4 : α4} (h0 : i0 ≤ n) (hI : I i0 x0 x1 x2 x4) : wp (it5 b FUEL x0 x1 x2 c x4) P := by
  subst hc
  exact it5_up4 n hn I hb FUEL i0 x0 x1 x2 x4 h0 (by unfold FUEL; omega) hI
theorem it5_up5 {α0 α1 α2 α3 E : Type} {b : (α0 → α1 → α2 → α3 → Int32 → Option E) → α0 → α1 → α2 → α3 → Int32 → Option E} {P : E → Prop} (n : Nat) (hn : n < 900000) (I : Nat → α0 → α1 → α2 → α3 → Prop)
    (hb : ∀ (k : α0 → α1 → α2 → α3 → Int32 → Option E) (i : Nat) (x0 : α0) (x1 : α1) (x2 : α2) (x3 : α3), i ≤ n → I i x0 x1 x2 x3 → (i < n → ∀ (z : Int32) (y0 : α0) (y1 : α1) (y2 : α2) (y3 : α3), z = nI (i + 1) → I (i + 1) y0 y1 y2 y3 → wp (k y0 y1 y2 y3 z) P) → wp (b k x0 x1 x2 x3 (nI i)) P) : ∀ (m i : Nat) (x0 : α0) (x1 : α1) (x2 : α2) (x3 : α3), i ≤ n → n - i < m → I i x0 x1 x2 x3 → wp (it5 b m x0 x1 x2 x3 (nI i)) P := by
  intro m
  induction m with
  | zero => intro i x0 x1 x2 x3 _ h; exact absurd h (Nat.not_lt_zero _)
  | succ m ih =>
    intro i x0 x1 x2 x3 hi hm hI
    exact hb (it5 b m) i x0 x1 x2 x3 hi hI (fun hlt z y0 y1 y2 y3 hz hI2 => by subst hz; exact ih (i + 1) y0 y1 y2 y3 (by omega) (by omega) hI2)
theorem it5_up5F {α0 α1 α2 α3 E : Type} {b : (α0 → α1 → α2 → α3 → Int32 → Option E) → α0 → α1 → α2 → α3 → Int32 → Option E} {P : E → Prop} {c : Int32} {i0 : Nat} (hc : c = nI i0) (n : Nat) (hn : n < 900000) (I : Nat → α0 → α1 → α2 → α3 → Prop)
    (hb : ∀ (k : α0 → α1 → α2 → α3 → Int32 → Option E) (i : Nat) (x0 : α0) (x1 : α1) (x2 : α2) (x3 : α3), i ≤ n → I i x0 x1 x2 x3 → (i < n → ∀ (z : Int32) (y0 : α0) (y1 : α1) (y2 : α2) (y3 : α3), z = nI (i + 1) → I (i + 1) y0 y1 y2 y3 → wp (k y0 y1 y2 y3 z) P) → wp (b k x0 x1 x2 x3 (nI i)) P) {x0 : α0} {x1 : α1} {x2 : α2} {x3 : α3} (h0 : i0 ≤ n) (hI : I i0 x0 x1 x2 x3) : wp (it5 b FUEL x0 x1 x2 x3 c) P := by
  subst hc
  exact it5_up5 n hn I hb FUEL i0 x0 x1 x2 x3 h0 (by unfold FUEL; omega) hI
theorem it6_up1 {α1 α2 α3 α4 α5 E : Type} {b : (Int32 → α1 → α2 → α3 → α4 → α5 → Option E) → Int32 → α1 → α2 → α3 → α4 → α5 → Option E} {P : E → Prop} (n : Nat) (hn : n < 900000) (I : Nat → α1 → α2 → α3 → α4 → α5 → Prop)
    (hb : ∀ (k : Int32 → α1 → α2 → α3 → α4 → α5 → Option E) (i : Nat) (x1 : α1) (x2 : α2) (x3 : α3) (x4 : α4) (x5 : α5), i ≤ n → I i x1 x2 x3 x4 x5 → (i < n → ∀ (z : Int32) (y1 : α1) (y2 : α2) (y3 : α3) (y4 : α4) (y5 : α5), z = nI (i + 1) → I (i + 1) y1 y2 y3 y4 y5 → wp (k z y1 y2 y3 y4 y5) P) → wp (b k (nI i) x1 x2 x3 x4 x5) P) : ∀ (m i : Nat) (x1 : α1) (x2 : α2) (x3 : α3) (x4 : α4) (x5 : α5), i ≤ n → n - i < m → I i x1 x2 x3 x4 x5 → wp (it6 b m (nI i) x1 x2 x3 x4 x5) P := by
  intro m
  induction m with
  | zero => intro i x1 x2 x3 x4 x5 _ h; exact absurd h (Nat.not_lt_zero _)
  | succ m ih =>
    intro i x1 x2 x3 x4 x5 hi hm hI
    exact hb (it6 b m) i x1 x2 x3 x4 x5 hi hI (fun hlt z y1 y2 y3 y4 y5 hz hI2 => by subst hz; exact ih (i + 1) y1 y2 y3 y4 y5 (by omega) (by omega) hI2)
theorem it6_up1F {α1 α2 α3 α4 α5 E : Type} {b : (Int32 → α1 → α2 → α3 → α4 → α5 → Option E) → Int32 → α1 → α2 → α3 → α4 → α5 → Option E} {P : E → Prop} {c : Int32} {i0 : Nat} (hc : c = nI i0) (n : Nat) (hn : n < 900000) (I : Nat → α1 → α2 → α3 → α4 → α5 → Prop)
    (hb : ∀ (k : Int32 → α1 → α2 → α3 → α4 → α5 → Option E) (i : Nat) (x1 : α1) (x2 : α2) (x3 : α3) (x4 : α4) (x5 : α5), i ≤ n → I i x1 x2 x3 x4 x5 → (i < n → ∀ (z : Int32) (y1 : α1) (y2 : α2) (y3 : α3) (y4 : α4) (y5 : α5), z = nI (i + 1) → I (i + 1) y1 y2 y3 y4 y5 → wp (k z y1 y2 y3 y4 y5) P) → wp (b k (nI i) x1 x2 x3 x4 x5) P) {x1 : α1} {x2 : α2} {x3 : α3} {x4 : α4} {x5 : α5} (h0 : i0 ≤ n) (hI : I i0 x1 x2 x3 x4 x5) : wp (it6 b FUEL c x1 x2 x3 x4 x5) P := by
  subst hc
  exact it6_up1 n hn I hb FUEL i0 x1 x2 x3 x4 x5 h0 (by unfold FUEL; omega) hI
theorem it6_up2 {α0 α2 α3 α4 α5 E : Type} {b : (α0 → Int32 → α2 → α3 → α4 → α5 → Option E) → α0 → Int32 → α2 → α3 → α4 → α5 → Option E} {P : E → Prop} (n : Nat) (hn : n < 900000) (I : Nat → α0 → α2 → α3 → α4 → α5 → Prop)
    (hb : ∀ (k : α0 → Int32 → α2 → α3 → α4 → α5 → Option E) (i : Nat) (x0 : α0) (x2 : α2) (x3 : α3) (x4 : α4) (x5 : α5), i ≤ n → I i x0 x2 x3 x4 x5 → (i < n → ∀ (z : Int32) (y0 : α0) (y2 : α2) (y3 : α3) (y4 : α4) (y5 : α5), z = nI (i + 1) → I (i + 1) y0 y2 y3 y4 y5 → wp (k y0 z y2 y3 y4 y5) P) → wp (b k x0 (nI i) x2 x3 x4 x5) P) : ∀ (m i : Nat) (x0 : α0) (x2 : α2) (x3 : α3) (x4 : α4) (x5 : α5), i ≤ n → n - i < m → I i x0 x2 x3 x4 x5 → wp (it6 b m x0 (nI i) x2 x3 x4 x5) P := by
  intro m
  induction m with
  | zero => intro i x0 x2 x3 x4 x5 _ h; exact absurd h (Nat.not_lt_zero _)
  | succ m ih =>
    intro i x0 x2 x3 x4 x5 hi hm hI
    exact hb (it6 b m) i x0 x2 x3 x4 x5 hi hI (fun hlt z y0 y2 y3 y4 y5 hz hI2 => by subst hz; exact ih (i + 1) y0 y2 y3 y4 y5 (by omega) (by omega) hI2)
theorem it6_up2F {α0 α2 α3 α4 α5 E : Type} {b : (α0 → Int32 → α2 → α3 → α4 → α5 → Option E) → α0 → Int32 → α2 → α3 → α4 → α5 → Option E} {P : E → Prop} {c : Int32} {i0 : Nat} (hc : c = nI i0) (n : Nat) (hn : n < 900000) (I : Nat → α0 → α2 → α3 → α4 → α5 → Prop)
    (hb : ∀ (k : α0 → Int32 → α2 → α3 → α4 → α5 → Option E) (i : Nat) (x0 : α0) (x2 : α2) (x3 : α3) (x4 : α4) (x5 : α5), i ≤ n → I i x0 x2 x3 x4 x5 → (i < n → ∀ (z : Int32) (y0 : α0) (y2 : α2) (y3 : α3) (y4 : α4) (y5 : α5), z = nI (i + 1) → I (i + 1) y0 y2 y3 y4 y5 → wp (k y0 z y2 y3 y4 y5) P) → wp (b k x0 (nI i) x2 x3 x4 x5) P) {x0 : α0} {x2 : α2} {x3 : α3} {x4 : α4} {x5 : α5} (h0 : i0 ≤ n) (hI : I i0 x0 x2 x3 x4 x5) : wp (it6 b FUEL x0 c x2 x3 x4 x5) P := by
  subst hc
  exact it6_up2 n hn I hb FUEL i0 x0 x2 x3 x4 x5 h0 (by unfold FUEL; omega) hI
theorem it6_up3 {α0 α1 α3 α4 α5 E : Type} {b : (α0 → α1 → Int32 → α3 → α4 → α5 → Option E) → α0 → α1 → Int32 → α3 → α4 → α5 → Option E} {P : E → Prop} (n : Nat) (hn : n < 900000) (I : Nat → α0 → α1 → α3 → α4 → α5 → Prop)
    (hb : ∀ (k : α0 → α1 → Int32 → α3 → α4 → α5 → Option E) (i : Nat) (x0 : α0) (x1 : α1) (x3 : α3) (x4 : α4) (x5 : α5), i ≤ n → I i x0 x1 x3 x4 x5 → (i < n → ∀ (z : Int32) (y0 : α0) (y1 : α1) (y3 : α3) (y4 : α4) (y5 : α5), z = nI (i + 1) → I (i + 1) y0 y1 y3 y4 y5 → wp (k y0 y1 z y3 y4 y5) P) → wp (b k x0 x1 (nI i) x3 x4 x5) P) : ∀ (m i : Nat) (x0 : α0) (x1 : α1) (x3 : α3) (x4 : α4) (x5 : α5), i ≤ n → n - i < m → I i x0 x1 x3 x4 x5 → wp (it6 b m x0 x1 (nI i) x3 x4 x5) P := by
  intro m
  induction m with
  | zero => intro i x0 x1 x3 x4 x5 _ h; exact absurd h (Nat.not_lt_zero _)
  | succ m ih =>
    intro i x0 x1 x3 x4 x5 hi hm hI
    exact hb (it6 b m) i x0 x1 x3 x4 x5 hi hI (fun hlt z y0 y1 y3 y4 y5 hz hI2 => by subst hz; exact ih (i + 1) y0 y1 y3 y4 y5 (by omega) (by omega) hI2)
theorem it6_up3F {α0 α1 α3 α4 α5 E : Type} {b : (α0 → α1 → Int32 → α3 → α4 → α5 → Option E) → α0 → α1 → Int32 → α3 → α4 → α5 → Option E} {P : E → Prop} {c : Int32} {i0 : Nat} (hc : c = nI i0) (n : Nat) (hn : n < 900000) (I : Nat → α0 → α1 → α3 → α4 → α5 → Prop)
    (hb : ∀ (k : α0 → α1 → Int32 → α3 → α4 → α5 → Option E) (i : Nat) (x0 : α0) (x1 : α1) (x3 : α3) (x4 : α4) (x5 : α5), i ≤ n → I i x0 x1 x3 x4 x5 → (i < n → ∀ (z : Int32) (y0 : α0) (y1 : α1) (y3 : α3) (y4 : α4) (y5 : α5), z = nI (i + 1) → I (i + 1) y0 y1 y3 y4 y5 → wp (k y0 y1 z y3 y4 y5) P) → wp (b k x0 x1 (nI i) x3 x4 x5) P) {x0 : α0} {x1 : α1} {x3 : α3} {x4 : α4} {x5 : α5} (h0 : i0 ≤ n) (hI : I i0 x0 x1 x3 x4 x5) : wp (it6 b FUEL x0 x1 c x3 x4 x5) P := by
  subst hc
  exact it6_up3 n hn I hb FUEL i0 x0 x1 x3 x4 x5 h0 (by unfold FUEL; omega) hI
theorem it6_up4 {α0 α1 α2 α4 α5 E : Type} {b : (α0 → α1 → α2 → Int32 → α4 → α5 → Option E) → α0 → α1 → α2 → Int32 → α4 → α5 → Option E} {P : E → Prop} (n : Nat) (hn : n < 900000) (I : Nat → α0 → α1 → α2 → α4 → α5 → Prop)
    (hb : ∀ (k : α0 → α1 → α2 → Int32 → α4 → α5 → Option E) (i : Nat) (x0 : α0) (x1 : α1) (x2 : α2) (x4 : α4) (x5 : α5), i ≤ n → I i x0 x1 x2 x4 x5 → (i < n → ∀ (z : Int32) (y0 : α0) (y1 : α1) (y2 : α2) (y4 : α4) (y5 : α5), z = nI (i + 1) → I (i + 1) y0 y1 y2 y4 y5 → wp (k y0 y1 y2 z y4 y5) P) → wp (b k x0 x1 x2 (nI i) x4 x5) P) : ∀ (m i : Nat) (x0 : α0) (x1 : α1) (x2 : α2) (x4 : α4) (x5 : α5), i ≤ n → n - i < m → I i x0 x1 x2 x4 x5 → wp (it6 b m x0 x1 x2 (nI i) x4 x5) P := by
  intro m
  induction m with
  | zero => intro i x0 x1 x2 x4 x5 _ h; exact absurd h (Nat.not_lt_zero _)
  | succ m ih =>
    intro i x0 x1 x2 x4 x5 hi hm hI
    exact hb (it6 b m) i x0 x1 x2 x4 x5 hi hI (fun hlt z y0 y1 y2 y4 y5 hz hI2 => by subst hz; exact ih (i + 1) y0 y1 y2 y4 y5 (by omega) (by omega) hI2)
theorem it6_up4F {α0 α1 α2 α4 α5 E : Type} {b : (α0 → α1 → α2 → Int32 → α4 → α5 → Option E) → α0 → α1 → α2 → Int32 → α4 → α5 → Option E} {P : E → Prop} {c : Int32} {i0 : Nat} (hc : c = nI i0) (n : Nat) (hn : n < 900000) (I : Nat → α0 → α1 → α2 → α4 → α5 → Prop)
    (hb : ∀ (k : α0 → α1 → α2 → Int32 → α4 → α5 → Option E) (i : Nat) (x0 : α0) (x1 : α1) (x2 : α2) (x4 : α4) (x5 : α5), i ≤ n → I i x0 x1 x2 x4 x5 → (i < n → ∀ (z : Int32) (y0 : α0) (y1 : α1) (y2 : α2) (y4 : α4) (y5 : α5), z = nI (i + 1) → I (i + 1) y0 y1 y2 y4 y5 → wp (k y0 y1 y2 z y4 y5) P) → wp (b k x0 x1 x2 (nI i) x4 x5) P) {x0 : α0} {x1 : α1} {x2 : α2} {x4 : α4} {x5 : α5} (h0 : i0 ≤ n) (hI : I i0 x0 x1 x2 x4 x5) : wp (it6 b FUEL x0 x1 x2 c x4 x5) P := by
  subst hc
  exact it6_up4 n hn I hb FUEL i0 x0 x1 x2 x4 x5 h0 (by unfold FUEL; omega) hI
theorem it6_up5 {α0 α1 α2 α3 α5 E : Type} {b : (α0 → α1 → α2 → α3 → Int32 → α5 → Option E) → α0 → α1 → α2 → α3 → Int32 → α5 → Option E} {P : E → Prop} (n : Nat) (hn : n < 900000) (I : Nat → α0 → α1 → α2 → α3 → α5 → Prop)
    (hb : ∀ (k : α0 → α1 → α2 → α3 → Int32 → α5 → Option E) (i : Nat) (x0 : α0) (x1 : α1) (x2 : α2) (x3 : α3) (x5 : α5), i ≤ n → I i x0 x1 x2 x3 x5 → (i < n → ∀ (z : Int32) (y0 : α0) (y1 : α1) (y2 : α2) (y3 : α3) (y5 : α5), z = nI (i + 1) → I (i + 1) y0 y1 y2 y3 y5 → wp (k y0 y1 y2 y3 z y5) P) → wp (b k x0 x1 x2 x3 (nI i) x5) P) : ∀ (m i : Nat) (x0 : α0) (x1 : α1) (x2 : α2) (x3 : α3) (x5 : α5), i ≤ n → n - i < m → I i x0 x1 x2 x3 x5 → wp (it6 b m x0 x1 x2 x3 (nI i) x5) P := by
  intro m
  induction m with
  | zero => intro i x0 x1 x2 x3 x5 _ h; exact absurd h (Nat.not_lt_zero _)
  | succ m ih =>
    intro i x0 x1 x2 x3 x5 hi hm hI
    exact hb (it6 b m) i x0 x1 x2 x3 x5 hi hI (fun hlt z y0 y1 y2 y3 y5 hz hI2 => by subst hz; exact ih (i + 1) y0 y1 y2 y3 y5 (by omega) (by omega) hI2)
theorem it6_up5F {α0 α1 α2 α3 α5 E : Type} {b : (α0 → α1 → α2 → α3 → Int32 → α5 → Option E) → α0 → α1 → α2 → α3 → Int32 → α5 → Option E} {P : E → Prop} {c : Int32} {i0 : Nat} (hc : c = nI i0) (n : Nat) (hn : n < 900000) (I : Nat → α0 → α1 → α2 → α3 → α5 → Prop)
    (hb : ∀ (k : α0 → α1 → α2 → α3 → Int32 → α5 → Option E) (i : Nat) (x0 : α0) (x1 : α1) (x2 : α2) (x3 : α3) (x5 : α5), i ≤ n → I i x0 x1 x2 x3 x5 → (i < n → ∀ (z : Int32) (y0 : α0) (y1 : α1) (y2 : α2) (y3 : α3) (y5 : α5), z = nI (i + 1) → I (i + 1) y0 y1 y2 y3 y5 → wp (k y0 y1 y2 y3 z y5) P) → wp (b k x0 x1 x2 x3 (nI i) x5) P) {x0 : α0} {x1 : α1} {x2 : α2} {x3 : α3} {x5 : α5} (h0 : i0 ≤ n) (hI : I i0 x0 x1 x2 x3 x5) : wp (it6 b FUEL x0 x1 x2 x3 c x5) P := by
  subst hc
  exact it6_up5 n hn I hb FUEL i0 x0 x1 x2 x3 x5 h0 (by unfold FUEL; omega) hI
theorem it6_up6 {α0 α1 α2 α3 α4 E : Type} {b : (α0 → α1 → α2 → α3 → α4 → Int32 → Option E) → α0 → α1 → α2 → α3 → α4 → Int32 → Option E} {P : E → Prop} (n : Nat) (hn : n < 900000) (I : Nat → α0 → α1 → α2 → α3 → α4 → Prop)
    (hb : ∀ (k : α0 → α1 → α2 → α3 → α4 → Int32 → Option E) (i : Nat) (x0 : α0) (x1 : α1) (x2 : α2) (x3 : α3) (x4 : α4), i ≤ n → I i x0 x1 x2 x3 x4 → (i < n → ∀ (z : Int32) (y0 : α0) (y1 : α1) (y2 : α2) (y3 : α3) (y4 : α4), z = nI (i + 1) → I (i + 1) y0 y1 y2 y3 y4 → wp (k y0 y1 y2 y3 y4 z) P) → wp (b k x0 x1 x2 x3 x4 (nI i)) P) : ∀ (m i : Nat) (x0 : α0) (x1 : α1) (x2 : α2) (x3 : α3) (x4 : α4), i ≤ n → n - i < m → I i x0 x1 x2 x3 x4 → wp (it6 b m x0 x1 x2 x3 x4 (nI i)) P := by
  intro m
  induction m with
  | zero => intro i x0 x1 x2 x3 x4 _ h; exact absurd h (Nat.not_lt_zero _)
  | succ m ih =>
    intro i x0 x1 x2 x3 x4 hi hm hI
    exact hb (it6 b m) i x0 x1 x2 x3 x4 hi hI (fun hlt z y0 y1 y2 y3 y4 hz hI2 => by subst hz; exact ih (i + 1) y0 y1 y2 y3 y4 (by omega) (by omega) hI2)
theorem it6_up6F {α0 α1 α2 α3 α4 E : Type} {b : (α0 → α1 → α2 → α3 → α4 → Int32 → Option E) → α0 → α1 → α2 → α3 → α4 → Int32 → Option E} {P : E → Prop} {c : Int32} {i0 : Nat} (hc : c = nI i0) (n : Nat) (hn : n < 900000) (I : Nat → α0 → α1 → α2 → α3 → α4 → Prop)
    (hb : ∀ (k : α0 → α1 → α2 → α3 → α4 → Int32 → Option E) (i : Nat) (x0 : α0) (x1 : α1) (x2 : α2) (x3 : α3) (x4 : α4), i ≤ n → I i x0 x1 x2 x3 x4 → (i < n → ∀ (z : Int32) (y0 : α0) (y1 : α1) (y2 : α2) (y3 : α3) (y4 : α4), z = nI (i + 1) → I (i + 1) y0 y1 y2 y3 y4 → wp (k y0 y1 y2 y3 y4 z) P) → wp (b k x0 x1 x2 x3 x4 (nI i)) P) {x0 : α0} {x1 : α1} {x2 : α2} {x3 : α3} {x4 : α4} (h0 : i0 ≤ n) (hI : I i0 x0 x1 x2 x3 x4) : wp (it6 b FUEL x0 x1 x2 x3 x4 c) P := by
  subst hc
  exact it6_up6 n hn I hb FUEL i0 x0 x1 x2 x3 x4 h0 (by unfold FUEL; omega) hI
