/-! WHERE PACKETS GO: from (place p, header h) -/
abbrev PS : Type := Nat → Nat → Prop
def Out (rb : RB) (p h o g : Nat) : Prop := o < 4 ∧ ∃ i r, hd (rb (p / 4)) (p % 4) h = some i ∧ (rb (p / 4))[i]? = some r ∧ (r 3).testBit o = true ∧ g = rw5 r h
def Sp1 (lk : LK) (rb : RB) (p h q g : Nat) : Prop := ∃ o, Out rb p h o g ∧ lk (4 * (p / 4) + o) = some q
def Dlv (lk : LK) (rb : RB) (p h q g : Nat) : Prop := ∃ o, Out rb p h o g ∧ q = 4 * (p / 4) + o ∧ lk q = none
/-- within n links -/
def Wn (lk : LK) (rb : RB) (S : PS) : Nat → PS
  | 0 => S
  | n + 1 => fun q g => Wn lk rb S n q g ∨ ∃ p h, Wn lk rb S n p h ∧ Sp1 lk rb p h q g
def Rc (lk : LK) (rb : RB) (S : PS) : PS := fun q g => ∃ n, Wn lk rb S n q g
def Clo (lk : LK) (rb : RB) (A : PS) : Prop := ∀ p h q g, A p h → Sp1 lk rb p h q g → A q g
section
variable {lk : LK} {rb : RB} {S A : PS} {b : Nat}
theorem Rc.base {p h : Nat} (hs : S p h) : Rc lk rb S p h := ⟨0, hs⟩
theorem Rc.step {p h q g : Nat} (hr : Rc lk rb S p h) (hs : Sp1 lk rb p h q g) : Rc lk rb S q g := by
  obtain ⟨n, hn⟩ := hr
  exact ⟨n + 1, Or.inr ⟨p, h, hn, hs⟩⟩
theorem Rc.clo : Clo lk rb (Rc lk rb S) := fun _ _ _ _ h1 h2 => h1.step h2
theorem Wn.least (h0 : ∀ p h, S p h → A p h) (hc : Clo lk rb A) : ∀ n q g, Wn lk rb S n q g → A q g
  | 0, q, g, h => h0 q g h
  | n + 1, q, g, h => by
    rcases h with h | ⟨p, h', h1, h2⟩
    · exact Wn.least h0 hc n q g h
    · exact hc p h' q g (Wn.least h0 hc n p h' h1) h2
theorem Rc.least (h0 : ∀ p h, S p h → A p h) (hc : Clo lk rb A) {q g : Nat} (h : Rc lk rb S q g) : A q g := by
  obtain ⟨n, hn⟩ := h
  exact Wn.least h0 hc n q g hn
theorem Wn.mono : ∀ {m n : Nat}, m ≤ n → ∀ {q g : Nat}, Wn lk rb S m q g → Wn lk rb S n q g := by
  intro m n h
  induction h with
  | refl => exact fun h => h
  | step _ ih => exact fun h => Or.inl (ih h)
/-- what is in range -/
def RgS (b : Nat) (A : PS) : Prop := ∀ p h, A p h → p < 24 ∧ h < 2 ^ b
theorem Out.rg (hb : BW b) (hW : RBW b rb) {p h o g : Nat} (hp : p < 24) (hh : h < 2 ^ b) (hO : Out rb p h o g) : g < 2 ^ b := by
  obtain ⟨-, i, r, -, hr, -, rfl⟩ := hO
  exact rw5_lt hb ((hW (p / 4) (by omega)).2 r (List.mem_of_getElem? hr)) hh
theorem Sp1.rg (hb : BW b) (hL : LKW lk) (hW : RBW b rb) {p h q g : Nat} (hp : p < 24) (hh : h < 2 ^ b) (hS : Sp1 lk rb p h q g) : q < 24 ∧ g < 2 ^ b := by
  obtain ⟨o, hO, hq⟩ := hS
  exact ⟨(hL _ _ hq).2.1, hO.rg hb hW hp hh⟩
theorem Dlv.rg (hb : BW b) (hW : RBW b rb) {p h q g : Nat} (hp : p < 24) (hh : h < 2 ^ b) (hS : Dlv lk rb p h q g) : q < 24 ∧ g < 2 ^ b := by
  obtain ⟨o, hO, hq, -⟩ := hS
  have := hO.1
  exact ⟨by omega, hO.rg hb hW hp hh⟩
theorem Rc.rg (hb : BW b) (hL : LKW lk) (hW : RBW b rb) (h0 : RgS b S) : RgS b (Rc lk rb S) := fun p h hr =>
  Rc.least (A := fun p h => p < 24 ∧ h < 2 ^ b) h0 (fun p h q g h1 h2 => Sp1.rg hb hL hW h1.1 h1.2 h2) hr
theorem Wn.rg (hb : BW b) (hL : LKW lk) (hW : RBW b rb) (h0 : RgS b S) (n : Nat) : RgS b (Wn lk rb S n) := fun p h hr => Rc.rg hb hL hW h0 p h ⟨n, hr⟩
end
/-! counting what a row of sets has -/
def cnt (f : Nat → Int64) : Nat := fb_sm (fun p => fb_ct (tb (f p)) 32) 24
theorem cnt_le (f : Nat → Int64) : cnt f ≤ 768 := fb_sm_bound (c := 32) (fun k _ => fb_ct_le _ 32)
theorem cnt_mono {f g : Nat → Int64} (h : ∀ p, p < 24 → ∀ i, i < 32 → tb (f p) i = true → tb (g p) i = true) : cnt f ≤ cnt g := fb_sm_le (fun p hp => fb_ct_sub (fun i hi => h p hp i hi))
theorem ct_lt {p q : Nat → Bool} {n k : Nat} (h : ∀ i, i < n → p i = true → q i = true) (hk : k < n) (h1 : p k = false) (h2 : q k = true) : fb_ct p n < fb_ct q n := by
  have e1 : fb_ct q n = fb_ct (fun i => p i || (q i && !p i)) n := fb_ct_cong (fun i hi => by
    cases hp : p i with
    | false => simp
    | true => simp [h i hi hp])
  have e2 : fb_ct (fun i => p i || (q i && !p i)) n = fb_ct p n + fb_ct (fun i => q i && !p i) n := fb_ct_or (fun i hi => by simp; intro h1 h2; simp [h1])
  have e3 : 0 < fb_ct (fun i => q i && !p i) n := fb_ct_pos.mpr ⟨k, hk, by simp [h1, h2]⟩
  omega
theorem sm_lt {f g : Nat → Nat} : ∀ {n k : Nat}, (∀ i, i < n → f i ≤ g i) → k < n → f k < g k → fb_sm f n < fb_sm g n
  | 0, _, _, h, _ => absurd h (Nat.not_lt_zero _)
  | n + 1, k, h, hk, hlt => by
    rw [fb_sm_succ, fb_sm_succ]
    have h1 : fb_sm f n ≤ fb_sm g n := fb_sm_le (fun i hi => h i (by omega))
    have h2 := h n (by omega)
    by_cases e : k = n
    · subst e; omega
    · have := sm_lt (f := f) (g := g) (n := n) (k := k) (fun i hi => h i (by omega)) (by omega) hlt
      omega
theorem cnt_lt {f g : Nat → Int64} {p i : Nat} (h : ∀ p, p < 24 → ∀ i, i < 32 → tb (f p) i = true → tb (g p) i = true) (hp : p < 24) (hi : i < 32) (h1 : tb (f p) i = false) (h2 : tb (g p) i = true) : cnt f < cnt g :=
  sm_lt (fun q hq => fb_ct_sub (fun j hj => h q hq j hj)) hp (ct_lt (h p hp) hi h1 h2)
theorem tb_lt64 {x : Int64} {i : Nat} (h : tb x i = true) : i < 64 := by
  rcases Nat.lt_or_ge i 64 with h1 | h1
  · exact h1
  · rw [tb_big h1] at h; cases h
