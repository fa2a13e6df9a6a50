/-! WHAT THE NETWORK IS. A rule: its seven numbers (0 ports, 1 care, 2 value, 3 outputs, 4 change, 5 to, 6 on). -/
abbrev RT : Type := Nat → Nat
/-- boxes and their rules -/
abbrev RB : Type := Nat → List RT
/-- the links -/
abbrev LK : Type := Nat → Option Nat
def mt (r : RT) (port h : Nat) : Bool := decide (r 6 = 1) && (r 0).testBit port && decide (h &&& r 1 = r 2)
def hd (rs : List RT) (port h : Nat) : Option Nat := rs.findIdx? (fun r => mt r port h)
def rw5 (r : RT) (h : Nat) : Nat := (h &&& (r 4 ^^^ 31)) ||| r 5
def RW (b : Nat) (r : RT) : Prop := 1 ≤ r 0 ∧ r 0 ≤ 15 ∧ r 1 < 2 ^ b ∧ r 2 < 2 ^ b ∧ r 2 &&& r 1 = r 2 ∧ r 3 ≤ 15 ∧ r 4 < 2 ^ b ∧ r 5 < 2 ^ b ∧ r 5 &&& r 4 = r 5 ∧ (r 6 = 0 ∨ r 6 = 1) ∧ (r 3 = 0 → r 4 = 0)
def RBW (b : Nat) (rb : RB) : Prop := ∀ box, box < 6 → (rb box).length ≤ 6 ∧ ∀ r, r ∈ rb box → RW b r
def LKW (lk : LK) : Prop := ∀ p q, lk p = some q → p < 24 ∧ q < 24 ∧ lk q = some p ∧ p ≠ q
def BW (b : Nat) : Prop := 1 ≤ b ∧ b ≤ 5
def oI (o : Option Nat) : Int32 := match o with
  | none => -1
  | some q => nI q
theorem oI_neg {o : Option Nat} (h : ∀ q, o = some q → q < 2 ^ 31) : oI o < 0 ↔ o = none := by
  cases o with
  | none => exact ⟨fun _ => rfl, fun _ => by decide⟩
  | some q => exact ⟨fun h2 => absurd h2 (nI_pos (h q rfl)), fun h2 => by cases h2⟩
theorem oI_nn {o : Option Nat} (h : ∀ q, o = some q → q < 2 ^ 31) : 0 ≤ oI o ↔ o ≠ none := by
  cases o with
  | none => exact ⟨fun h2 => absurd h2 (by decide), fun h2 => absurd rfl h2⟩
  | some q => exact ⟨fun _ h2 => (by cases h2), fun _ => nI_pos' (h q rfl)⟩
theorem oI_m1 {o : Option Nat} (h : ∀ q, o = some q → q < 2 ^ 31) : oI o = -1 ↔ o = none := by
  cases o with
  | none => exact ⟨fun _ => rfl, fun _ => rfl⟩
  | some q => exact ⟨fun h2 => absurd (show nI q < 0 by rw [show nI q = -1 from h2]; decide) (nI_pos (h q rfl)), fun h2 => by cases h2⟩
theorem pow_b {b : Nat} (h : BW b) : 2 ≤ 2 ^ b ∧ 2 ^ b ≤ 32 := by
  obtain ⟨h1, h2⟩ := h
  rcases (show b = 1 ∨ b = 2 ∨ b = 3 ∨ b = 4 ∨ b = 5 by omega) with rfl | rfl | rfl | rfl | rfl <;> decide
theorem lt32 {b x : Nat} (h : BW b) (hx : x < 2 ^ b) : x < 32 := by have := (pow_b h).2; omega
theorem hd_some {rs : List RT} {port h i : Nat} (hh : hd rs port h = some i) : ∃ r, rs[i]? = some r ∧ mt r port h = true ∧ ∀ (j : Nat) r', j < i → rs[j]? = some r' → mt r' port h = false := by
  obtain ⟨h1, h2, h3⟩ := List.findIdx?_eq_some_iff_getElem.mp hh
  refine ⟨rs[i], List.getElem?_eq_getElem h1, h2, fun j r' hj hr => ?_⟩
  obtain ⟨h4, h5⟩ := List.getElem?_eq_some_iff.mp hr
  have := h3 j hj
  subst h5
  simpa using this
theorem hd_none {rs : List RT} {port h : Nat} (hh : hd rs port h = none) : ∀ (j : Nat) r', rs[j]? = some r' → mt r' port h = false := by
  intro j r' hr
  exact List.findIdx?_eq_none_iff.mp hh r' (List.mem_of_getElem? hr)
theorem hd_is {rs : List RT} {port h i : Nat} {r : RT} (h1 : rs[i]? = some r) (h2 : mt r port h = true) (h3 : ∀ (j : Nat) r', j < i → rs[j]? = some r' → mt r' port h = false) : hd rs port h = some i := by
  obtain ⟨h4, h5⟩ := List.getElem?_eq_some_iff.mp h1
  refine List.findIdx?_eq_some_iff_getElem.mpr ⟨h4, by rw [h5]; exact h2, fun j hj => ?_⟩
  have := h3 j _ hj (List.getElem?_eq_getElem (by omega))
  simpa using this
theorem hd_isn {rs : List RT} {port h : Nat} (h3 : ∀ (j : Nat) r', rs[j]? = some r' → mt r' port h = false) : hd rs port h = none := by
  refine List.findIdx?_eq_none_iff.mpr (fun r hr => ?_)
  obtain ⟨j, hj⟩ := List.getElem?_of_mem hr
  exact h3 j r hj
theorem hd_lt {rs : List RT} {port h i : Nat} (hh : hd rs port h = some i) : i < rs.length := by
  obtain ⟨r, h1, -⟩ := hd_some hh
  exact (List.getElem?_eq_some_iff.mp h1).1
theorem and_lt {a b n : Nat} (h : b < n) : a &&& b < n := Nat.lt_of_le_of_lt Nat.and_le_right h
theorem rw5_lt {b : Nat} {r : RT} {h : Nat} (hb : BW b) (hr : RW b r) (hh : h < 2 ^ b) : rw5 r h < 2 ^ b := by
  unfold rw5
  exact Nat.or_lt_two_pow (Nat.lt_of_le_of_lt Nat.and_le_left hh) hr.2.2.2.2.2.2.2.1
theorem rw5_I {r4 r5 h : Nat} (h1 : h < 32) (h2 : r4 < 32) : (nI h &&& (nI r4 ^^^ (-1))) ||| nI r5 = nI ((h &&& (r4 ^^^ 31)) ||| r5) := by
  have key : ∀ x, x < 32 → ∀ y, y < 32 → nI x &&& (nI y ^^^ (-1)) = nI (x &&& (y ^^^ 31)) := by decide +kernel
  rw [key h h1 r4 h2, nx_or]
/-! an int that is out of range -/
def bad (x : Int32) (n : Nat) : Prop := x < 0 ∨ nI n ≤ x
theorem bad_le {x : Int32} {n m : Nat} (h : bad x n) (hm : m ≤ n) (hn : n < 2 ^ 31) : bad x m := by
  rcases h with h | h
  · exact Or.inl h
  · exact Or.inr (Int32.le_trans (nI_le hm hn) h)
theorem bad_lt0 {x : Int32} {n : Nat} (hn : n < 2 ^ 31) (h : bad x n) (h0 : ¬ x < 0) : nI n ≤ x := by
  rcases h with h | h
  · exact absurd h h0
  · exact h
theorem ix (x : Int32) (n : Nat) (hn : n < 2 ^ 31) : (∃ i, i < n ∧ x = nI i) ∨ bad x n := ix_or x n hn
theorem of_wp {α : Type} {x : Option α} {v : α} (h : wp x (fun a => a = v)) : x = some v := by
  obtain ⟨a, h1, h2⟩ := h
  rw [h1, h2]
theorem wp_of {α : Type} {x : Option α} {v : α} (h : x = some v) : wp x (fun a => a = v) := ⟨v, h, rfl⟩
section
variable {α β γ : Type}
theorem wp_obe {x : Option α} {v : α} {K : α → Option β} {P : β → Prop} (hx : x = some v) (h : wp (K v) P) : wp (ob x K) P := wp_ob ⟨v, hx, h⟩
theorem wp_obw {x : Option α} {Q : α → Prop} {K : α → Option β} {P : β → Prop} (hx : wp x Q) (h : ∀ a, Q a → wp (K a) P) : wp (ob x K) P := wp_ob (wp_mono hx h)
theorem wp_ob2w {x : Option (α × β)} {Q : α × β → Prop} {K : α → β → Option γ} {P : γ → Prop} (hx : wp x Q) (h : ∀ a b, Q (a, b) → wp (K a b) P) : wp (ob2 x K) P := wp_ob2 (wp_mono hx (fun q hq => h q.1 q.2 hq))
theorem wp_oew {x : Option (α ⊕ β)} {Q : α ⊕ β → Prop} {f : α → Option γ} {g : β → Option γ} {P : γ → Prop} (hx : wp x Q) (h1 : ∀ a, Q (Sum.inl a) → wp (f a) P) (h2 : ∀ a, Q (Sum.inr a) → wp (g a) P) : wp (oe x f g) P := wp_oe (δ := Unit) (wp_mono hx (fun q hq => by
  cases q with
  | inl a => exact h1 a hq
  | inr a => exact h2 a hq))
theorem wp_t {c : Prop} {i : Decidable c} {A B : Option α} {P : α → Prop} (hc : c) (h : wp A P) : wp (if c then A else B) P := by rw [if_pos hc]; exact h
theorem wp_f {c : Prop} {i : Decidable c} {A B : Option α} {P : α → Prop} (hc : ¬ c) (h : wp B P) : wp (if c then A else B) P := by rw [if_neg hc]; exact h
end
