/-! working backwards: an operator on sets of arrivals, and its least fixed set -/
def PhE (lk : LK) (rb : RB) (A : PS) : PS := fun p h => ∀ q g, Sp1 lk rb p h q g → A q g
def PhD (lk : LK) (rb : RB) (t : Nat) (A : PS) : PS := fun p h => (∃ g, Dlv lk rb p h t g) ∨ ∃ q g, Sp1 lk rb p h q g ∧ A q g
theorem PhE.mono {lk : LK} {rb : RB} {A B : PS} (h : ∀ q g, A q g → B q g) (p h' : Nat) (H : PhE lk rb A p h') : PhE lk rb B p h' := fun q g z => h q g (H q g z)
theorem PhD.mono {lk : LK} {rb : RB} {t : Nat} {A B : PS} (h : ∀ q g, A q g → B q g) (p h' : Nat) (H : PhD lk rb t A p h') : PhD lk rb t B p h' := by
  rcases H with H | ⟨q, g, H1, H2⟩
  · exact Or.inl H
  · exact Or.inr ⟨q, g, H1, h q g H2⟩
/-- all that follows comes to an end -/
def Ac (lk : LK) (rb : RB) : PS := fun p h => ∀ A : PS, (∀ p h, PhE lk rb A p h → A p h) → A p h
theorem Ac.fix {lk : LK} {rb : RB} (p h : Nat) (H : PhE lk rb (Ac lk rb) p h) : Ac lk rb p h := fun A hA => hA p h (fun q g hS => H q g hS A hA)
/-- something that follows is delivered at t -/
def De (lk : LK) (rb : RB) (t : Nat) : PS := fun p h => ∃ q h', Rc lk rb (Sg p h) q h' ∧ ∃ g, Dlv lk rb q h' t g
theorem De.fix {lk : LK} {rb : RB} {t : Nat} (p h : Nat) (H : PhD lk rb t (De lk rb t) p h) : De lk rb t p h := by
  rcases H with H | ⟨q, g, H1, q', h', H2, H3⟩
  · exact ⟨p, h, Rc.base ⟨rfl, rfl⟩, H⟩
  · exact ⟨q', h', Rc_sub (fun p' h'' e => by rw [e.1, e.2]; exact (Rc.base (S := Sg p h) ⟨rfl, rfl⟩).step H1) H2, H3⟩
theorem De.least {lk : LK} {rb : RB} {t : Nat} {A : PS} {p h : Nat} {R : PS} (hR : ∀ p h q g, R p h → Sp1 lk rb p h q g → R q g) (hA : ∀ p h, R p h → PhD lk rb t A p h → A p h) (h0 : R p h) (H : De lk rb t p h) : A p h := by
  obtain ⟨q, h', ⟨n, hn⟩, hD⟩ := H
  have key : ∀ n q h', Wn lk rb (Sg p h) n q h' → R q h' ∧ (A q h' → A p h) := by
    intro n
    induction n with
    | zero => intro q h' e; obtain ⟨e1, e2⟩ := e; subst e1; subst e2; exact ⟨h0, id⟩
    | succ n ih =>
      intro q h' e
      rcases e with e | ⟨p', h'', e1, e2⟩
      · exact ih q h' e
      · obtain ⟨i1, i2⟩ := ih p' h'' e1
        exact ⟨hR _ _ _ _ i1 e2, fun z => i2 (hA p' h'' i1 (Or.inr ⟨q, h', e2, z⟩))⟩
  obtain ⟨k1, k2⟩ := key n q h' hn
  exact k2 (hA q h' k1 (Or.inl hD))
def fS (aj : Nat → Nat → Int64) : PS := fun q g => q < 24 ∧ tb (aj 50 q) g = true
def fR (T : TS) (aj : Nat → Nat → Int64) : Prop := ∀ q, q < 24 → ∀ g, tb (aj 50 q) g = true → g < 2 ^ tB T
section
variable {b : UH} {fi : Nat → Nat → Nat → Int32} {fj : Nat → Nat → Nat → Int64} {ai : Nat → Nat → Int32} {aj : Nat → Nat → Int64} {ar : Nat → Nat → Option Nat} {T : TS} {x1 x2 x3 : Int32} {p h box outs t : Nat} {s : Int64}
theorem x_behindAll (hs : xst b) (hW : WF T) (hP : XPic T b fi fj ai ar) (h1 : x1 = nI box) (hb : box < 6) (h2 : x2 = nI outs) (ho : outs ≤ 15) : wp (fX1_endingBehindAll 49 x1 x2 (mk b fi fj ai aj ar)) (fun y => ∀ g, tb y g = true ↔ g < 2 ^ tB T ∧ ∀ o, o < 4 → outs.testBit o = true → ∀ q, tL T (4 * box + o) = some q → tb (aj 50 q) g = true) := by
  have hp2 := (pow_b hW.1).2
  unfold fX1_endingBehindAll
  refine oR (hs.1 49 2 rfl) (hs.2.2 1 0 49 1 rfl) (oKw (hs.1 1 5 rfl) (x_allHeaders hs hP.2.1 hW.1) (fun s es => ?_))
  refine wp_obw (Q := fun y => ∀ g, tb y g = true ↔ g < 2 ^ tB T ∧ ∀ o, o < 4 → outs.testBit o = true → ∀ q, tL T (4 * box + o) = some q → tb (aj 50 q) g = true) ?_ (fun y hy => wp_some hy)
  refine it2_up2F (show (0 : Int32) = nI 0 from rfl) 4 (by decide) (fun n y => ∀ g, tb y g = true ↔ g < 2 ^ tB T ∧ ∀ o, o < n → outs.testBit o = true → ∀ q, tL T (4 * box + o) = some q → tb (aj 50 q) g = true) (fun k n y hn hI hk => ?_) (Nat.zero_le _) (fun g => ?_)
  · unfold fX1_endingBehindAll_B11
    refine wp_le (a := 4) rfl rfl (by decide) (by omega) (fun hc => wp_some ?_) (fun hc => ?_)
    · have : n = 4 := by omega
      subst this; exact hI
    have hpl : 4 * box + n < 24 := by omega
    refine oR (hs.1 49 2 rfl) (hs.2.2 1 0 49 1 rfl) (oR (hs.1 1 5 rfl) (hs.2.2 4 2 1 2 rfl) (wp_obe (x_placeOf _ h1 rfl) (oL (hs.1 2 20 rfl) (hs.2.1 2 24 rfl) rfl hpl (by decide) (wp_obe (x_hasPort _ h2 rfl (by omega) (by omega)) ?_))))
    rw [hP.2.2.1 _ hpl]
    have skip : ¬ (∃ q, outs.testBit n = true ∧ tL T (4 * box + n) = some q) → ∀ g, tb y g = true ↔ g < 2 ^ tB T ∧ ∀ o, o < n + 1 → outs.testBit o = true → ∀ q, tL T (4 * box + o) = some q → tb (aj 50 q) g = true := by
      intro hno g
      rw [hI g]
      refine and_congr_right (fun _ => ⟨fun H o ho => ?_, fun H o ho => H o (by omega)⟩)
      rcases Nat.lt_or_ge o n with h | h
      · exact H o h
      · have : o = n := by omega
        subst this
        exact fun e1 q e2 => absurd ⟨q, e1, e2⟩ hno
    cases ht : outs.testBit n with
    | false => exact wp_t rfl (hk hc _ _ (nI_1 n) (skip (fun ⟨q, H⟩ => by rw [ht] at H; cases H.1)))
    | true =>
      refine wp_f (by decide) ?_
      cases hlk : tL T (4 * box + n) with
      | none => exact wp_t rfl (hk hc _ _ (nI_1 n) (skip (fun ⟨q, H⟩ => by rw [hlk] at H; cases H.2)))
      | some q0 =>
        have hq0 := (hW.2.1 _ _ hlk).2.1
        refine wp_f (fun e => by have := (oI_m1 (o := some q0) (fun q hq => by cases hq; omega)).mp e; cases this) ?_
        refine oR (hs.1 49 2 rfl) (hs.2.2 1 1 49 50 rfl) (oLJ (hs.1 50 21 rfl) (hs.2.1 50 24 rfl) (i := q0) rfl hq0 (by decide) (wp_lt (hk hc _ _ (nI_1 n) (fun g => ?_))))
        rw [tb_and, Bool.and_eq_true, hI g]
        constructor
        · rintro ⟨⟨H1, H2⟩, H3⟩
          refine ⟨H1, fun o ho e1 q e2 => ?_⟩
          rcases Nat.lt_or_ge o n with h | h
          · exact H2 o h e1 q e2
          · have : o = n := by omega
            subst this
            rw [hlk] at e2; cases e2; exact H3
        · rintro ⟨H1, H2⟩
          exact ⟨⟨H1, fun o ho => H2 o (by omega)⟩, H2 n (by omega) ht q0 hlk⟩
  · constructor
    · intro H
      have h64 := tb_lt64 H
      rw [es g h64, decide_eq_true_eq] at H
      exact ⟨H, fun o ho => absurd ho (Nat.not_lt_zero _)⟩
    · rintro ⟨H, _⟩
      rw [es g (by omega), decide_eq_true_eq]; exact H
theorem x_behindOne (hs : xst b) (hW : WF T) (hP : XPic T b fi fj ai ar) (hf : fR T aj) (h1 : x1 = nI box) (hb : box < 6) (h2 : x2 = nI outs) (ho : outs ≤ 15) (h3 : x3 = nI t) (ht : t < 24) : wp (fX1_deliveredBehindOne 49 x1 x2 x3 (mk b fi fj ai aj ar)) (fun y => ∀ g, tb y g = true ↔ g < 2 ^ tB T ∧ ∃ o, o < 4 ∧ outs.testBit o = true ∧ ((∃ q, tL T (4 * box + o) = some q ∧ tb (aj 50 q) g = true) ∨ (tL T (4 * box + o) = none ∧ 4 * box + o = t))) := by
  have hp2 := (pow_b hW.1).2
  unfold fX1_deliveredBehindOne
  refine wp_obw (Q := fun y => ∀ g, tb y g = true ↔ g < 2 ^ tB T ∧ ∃ o, o < 4 ∧ outs.testBit o = true ∧ ((∃ q, tL T (4 * box + o) = some q ∧ tb (aj 50 q) g = true) ∨ (tL T (4 * box + o) = none ∧ 4 * box + o = t))) ?_ (fun y hy => wp_some hy)
  refine it2_up2F (show (0 : Int32) = nI 0 from rfl) 4 (by decide) (fun n y => ∀ g, tb y g = true ↔ g < 2 ^ tB T ∧ ∃ o, o < n ∧ outs.testBit o = true ∧ ((∃ q, tL T (4 * box + o) = some q ∧ tb (aj 50 q) g = true) ∨ (tL T (4 * box + o) = none ∧ 4 * box + o = t))) (fun k n y hn hI hk => ?_) (Nat.zero_le _) (fun g => ⟨fun H => (by rw [tb_0] at H; cases H), fun ⟨_, o, ho, _⟩ => absurd ho (Nat.not_lt_zero _)⟩)
  unfold fX1_deliveredBehindOne_B6
  refine wp_le (a := 4) rfl rfl (by decide) (by omega) (fun hc => wp_some ?_) (fun hc => ?_)
  · have : n = 4 := by omega
    subst this; exact hI
  have hpl : 4 * box + n < 24 := by omega
  have skip : ¬ (outs.testBit n = true ∧ ((∃ q, tL T (4 * box + n) = some q) ∨ (tL T (4 * box + n) = none ∧ 4 * box + n = t))) → ∀ g, tb y g = true ↔ g < 2 ^ tB T ∧ ∃ o, o < n + 1 ∧ outs.testBit o = true ∧ ((∃ q, tL T (4 * box + o) = some q ∧ tb (aj 50 q) g = true) ∨ (tL T (4 * box + o) = none ∧ 4 * box + o = t)) := by
    intro hno g
    rw [hI g, ex_lt]
    refine and_congr_right (fun _ => ⟨Or.inl, fun H => H.elim id (fun z => absurd ⟨z.1, ?_⟩ hno)⟩)
    rcases z.2 with ⟨q, e, _⟩ | e
    · exact Or.inl ⟨q, e⟩
    · exact Or.inr e
  refine wp_obe (x_hasPort _ h2 rfl (by omega) (by omega)) ?_
  cases hte : outs.testBit n with
  | false => exact wp_t rfl (hk hc _ _ (nI_1 n) (skip (fun H => by rw [hte] at H; cases H.1)))
  | true =>
    refine wp_f (by decide) (oR (hs.1 49 2 rfl) (hs.2.2 1 0 49 1 rfl) (oR (hs.1 1 5 rfl) (hs.2.2 4 2 1 2 rfl) (wp_obe (x_placeOf _ h1 rfl) (oL (hs.1 2 20 rfl) (hs.2.1 2 24 rfl) rfl hpl (by decide) ?_))))
    rw [hP.2.2.1 _ hpl]
    cases hlk : tL T (4 * box + n) with
    | none =>
      refine wp_t rfl (wp_obe (x_placeOf _ h1 rfl) (wp_eqq rfl h3 (by omega) (by omega) (fun e => ?_) (fun e => hk hc _ _ (nI_1 n) (skip (fun H => ?_)))))
      · refine oR (hs.1 49 2 rfl) (hs.2.2 1 0 49 1 rfl) (oKw (hs.1 1 5 rfl) (x_allHeaders hs hP.2.1 hW.1) (fun s es => hk hc _ _ (nI_1 n) (fun g => ?_)))
        constructor
        · intro H
          have h64 := tb_lt64 H
          rw [es g h64, decide_eq_true_eq] at H
          exact ⟨H, n, by omega, hte, Or.inr ⟨hlk, e⟩⟩
        · rintro ⟨H, _⟩
          rw [es g (by omega), decide_eq_true_eq]; exact H
      · rcases H.2 with ⟨q, H2⟩ | H2
        · rw [hlk] at H2; cases H2
        · exact e H2.2
    | some q0 =>
      have hq0 := (hW.2.1 _ _ hlk).2.1
      refine wp_f (fun e => by have := (oI_m1 (o := some q0) (fun q hq => by cases hq; omega)).mp e; cases this) ?_
      refine oR (hs.1 49 2 rfl) (hs.2.2 1 1 49 50 rfl) (oLJ (hs.1 50 21 rfl) (hs.2.1 50 24 rfl) (i := q0) rfl hq0 (by decide) (wp_lt (hk hc _ _ (nI_1 n) (fun g => ?_))))
      rw [tb_or, Bool.or_eq_true, hI g, ex_lt]
      constructor
      · rintro (⟨H1, H2⟩ | H)
        · exact ⟨H1, Or.inl H2⟩
        · exact ⟨hf q0 hq0 g H, Or.inr ⟨hte, Or.inl ⟨q0, hlk, H⟩⟩⟩
      · rintro ⟨H1, H2 | ⟨_, H2⟩⟩
        · exact Or.inl ⟨H1, H2⟩
        · rcases H2 with ⟨q, e, H2⟩ | ⟨e, _⟩
          · rw [hlk] at e; cases e; exact Or.inr H2
          · rw [hlk] at e; cases e
/-- what the rules before n leave -/
def LfP (bits : Nat) (rs : List RT) (port n : Nat) (z : Int64) : Prop := ∀ h, tb z h = true ↔ h < 2 ^ bits ∧ ∀ (j : Nat) r, j < n → rs[j]? = some r → mt r port h = false
theorem LfP.next {bits n port : Nat} {rs : List RT} {z y : Int64} {r : RT} (hbw : BW bits) (hz : LfP bits rs port n z) (hr : rs[n]? = some r) (hy : ∀ h, h < 64 → tb y h = (tb z h && (decide (h < 32) && mt r port h))) : LfP bits rs port (n + 1) (z &&& (y ^^^ -1)) ∧ ∀ h, tb y h = true ↔ h < 2 ^ bits ∧ hd rs port h = some n := by
  have hp2 := (pow_b hbw).2
  have hyt : ∀ h, tb y h = true ↔ h < 2 ^ bits ∧ hd rs port h = some n := by
    intro h
    constructor
    · intro H
      have h64 := tb_lt64 H
      rw [hy h h64, Bool.and_eq_true, Bool.and_eq_true] at H
      obtain ⟨H1, H2, H3⟩ := H
      obtain ⟨H4, H5⟩ := (hz h).mp H1
      exact ⟨H4, hd_is hr H3 H5⟩
    · rintro ⟨H1, H2⟩
      obtain ⟨r', z1, z2, z3⟩ := hd_some H2
      rw [hr] at z1; cases z1
      rw [hy h (by omega), (hz h).mpr ⟨H1, z3⟩, z2]
      simp [show h < 32 by omega]
  refine ⟨fun h => ?_, hyt⟩
  rw [tb_diff, hz h]
  constructor
  · rintro ⟨⟨H1, H2⟩, H3⟩
    refine ⟨H1, fun j r' hj hr' => ?_⟩
    rcases Nat.lt_or_ge j n with hlt | hge
    · exact H2 j r' hlt hr'
    · have : j = n := by omega
      subst this
      rw [hr] at hr'; cases hr'
      cases hm : mt r port h with
      | false => rfl
      | true =>
        have := (hyt h).mpr ⟨H1, hd_is hr hm H2⟩
        rw [H3] at this; cases this
  · rintro ⟨H1, H2⟩
    refine ⟨⟨H1, fun j r' hj => H2 j r' (by omega)⟩, ?_⟩
    cases hq : tb y h with
    | false => rfl
    | true =>
      obtain ⟨_, H4⟩ := (hyt h).mp hq
      obtain ⟨r', z1, z2, z3⟩ := hd_some H4
      rw [H2 n r' (by omega) z1] at z2; cases z2
/-- the headers that some rule before n takes, and that have a property then -/
def StP (bits : Nat) (rs : List RT) (port n : Nat) (B : RT → Nat → Prop) (z : Int64) : Prop := ∀ h, tb z h = true ↔ h < 2 ^ bits ∧ ∃ j r, j < n ∧ hd rs port h = some j ∧ rs[j]? = some r ∧ B r (rw5 r h)
theorem StP.next {bits n port : Nat} {rs : List RT} {z y w v : Int64} {r : RT} {B : RT → Nat → Prop} (hbw : BW bits) (hrw : RW bits r) (hz : StP bits rs port n B z) (hr : rs[n]? = some r) (hy : ∀ h, tb y h = true ↔ h < 2 ^ bits ∧ hd rs port h = some n) (hv : ∀ g, tb v g = true ↔ g < 2 ^ bits ∧ B r g) (hw : ∀ x, x < 32 → tb w x = tb v (rw5 r x)) : StP bits rs port (n + 1) B (z ||| (y &&& w)) := by
  have hp2 := (pow_b hbw).2
  intro h
  rw [tb_or, Bool.or_eq_true, tb_and, Bool.and_eq_true, hz h, hy h]
  constructor
  · rintro (⟨H1, j, r', hj, H2⟩ | ⟨⟨H1, H2⟩, H3⟩)
    · exact ⟨H1, j, r', by omega, H2⟩
    · rw [hw h (by omega), hv] at H3
      exact ⟨H1, n, r, by omega, H2, hr, H3.2⟩
  · rintro ⟨H1, j, r', hj, H2, H3, H4⟩
    rcases Nat.lt_or_ge j n with hlt | hge
    · exact Or.inl ⟨H1, j, r', hlt, H2, H3, H4⟩
    · have : j = n := by omega
      subst this
      rw [hr] at H3; cases H3
      refine Or.inr ⟨⟨H1, H2⟩, ?_⟩
      rw [hw h (by omega), hv]
      exact ⟨rw5_lt hbw hrw H1, H4⟩
theorem Sp1_iff {lk : LK} {rb : RB} {p h q g i : Nat} {r : RT} (hh : hd (rb (p / 4)) (p % 4) h = some i) (hr : (rb (p / 4))[i]? = some r) : Sp1 lk rb p h q g ↔ g = rw5 r h ∧ ∃ o, o < 4 ∧ (r 3).testBit o = true ∧ lk (4 * (p / 4) + o) = some q := by
  constructor
  · rintro ⟨o, ⟨ho, i', r', e1, e2, e3, e4⟩, e5⟩
    rw [hh] at e1; cases e1
    rw [hr] at e2; cases e2
    exact ⟨e4, o, ho, e3, e5⟩
  · rintro ⟨e4, o, ho, e3, e5⟩
    exact ⟨o, ⟨ho, i, r, hh, hr, e3, e4⟩, e5⟩
theorem Dlv_iff {lk : LK} {rb : RB} {p h q g i : Nat} {r : RT} (hh : hd (rb (p / 4)) (p % 4) h = some i) (hr : (rb (p / 4))[i]? = some r) : Dlv lk rb p h q g ↔ g = rw5 r h ∧ ∃ o, o < 4 ∧ (r 3).testBit o = true ∧ q = 4 * (p / 4) + o ∧ lk q = none := by
  constructor
  · rintro ⟨o, ⟨ho, i', r', e1, e2, e3, e4⟩, e5⟩
    rw [hh] at e1; cases e1
    rw [hr] at e2; cases e2
    exact ⟨e4, o, ho, e3, e5⟩
  · rintro ⟨e4, o, ho, e3, e5⟩
    exact ⟨o, ⟨ho, i, r, hh, hr, e3, e4⟩, e5⟩
theorem Sp1_no {lk : LK} {rb : RB} {p h q g : Nat} (hh : hd (rb (p / 4)) (p % 4) h = none) : ¬ Sp1 lk rb p h q g := by
  rintro ⟨o, ⟨ho, i', r', e1, _⟩, _⟩
  rw [hh] at e1; cases e1
theorem Dlv_no {lk : LK} {rb : RB} {p h q g : Nat} (hh : hd (rb (p / 4)) (p % 4) h = none) : ¬ Dlv lk rb p h q g := by
  rintro ⟨o, ⟨ho, i', r', e1, _⟩, _⟩
  rw [hh] at e1; cases e1
theorem in32_of {bits : Nat} {s : Int64} {B : Nat → Prop} (hbw : BW bits) (h : ∀ g, tb s g = true ↔ g < 2 ^ bits ∧ B g) : In32 s := fun i hi => by
  have hp2 := (pow_b hbw).2
  cases hq : tb s i with
  | false => rfl
  | true => have := ((h i).mp hq).1; omega
theorem x_ending (hs : xst b) (hW : WF T) (hP : XPic T b fi fj ai ar) (h1 : x1 = nI p) (hp : p < 24) : wp (fX1_ending 49 x1 (mk b fi fj ai aj ar)) (fun y => ∀ h, tb y h = true ↔ h < 2 ^ tB T ∧ PhE (tL T) (tR T) (fS aj) p h) := by
  have hp2 := (pow_b hW.1).2
  have hb6 : p / 4 < 6 := by omega
  have h4 : p % 4 < 4 := Nat.mod_lt _ (by decide)
  have hL := hP.2.2.2.2.1 (p / 4) hb6
  have hA := LA_box (p / 4) hb6
  have hRW := (hW.2.2.1 (p / 4) hb6).2
  have h6 := hL.2.1
  unfold fX1_ending
  refine wp_lt ?_
  rw [h1, dv4 (by omega)]
  refine oR (hs.1 49 2 rfl) (hs.2.2 1 0 49 1 rfl) (oR (hs.1 1 5 rfl) (hs.2.2 4 3 1 3 rfl) (oLR (hs.1 3 26 rfl) (hs.2.1 3 6 rfl) rfl hb6 (by decide) (hP.1.1 _ hb6) (oR (hs.1 49 2 rfl) (hs.2.2 1 0 49 1 rfl) (oKw (hs.1 1 5 rfl) (x_allHeaders hs hP.2.1 hW.1) (fun s0 es => ?_)))))
  refine wp_obw (Q := fun q => LfP (tB T) (tR T (p / 4)) (p % 4) (tR T (p / 4)).length q.1 ∧ StP (tB T) (tR T (p / 4)) (p % 4) (tR T (p / 4)).length (fun r g => ∀ o, o < 4 → (r 3).testBit o = true → ∀ q, tL T (4 * (p / 4) + o) = some q → tb (aj 50 q) g = true) q.2) ?_ (fun q hq => wp_some (fun h => ?_))
  · refine it3_up3F (show (0 : Int32) = nI 0 from rfl) (tR T (p / 4)).length (by omega) (fun n z y => LfP (tB T) (tR T (p / 4)) (p % 4) n z ∧ StP (tB T) (tR T (p / 4)) (p % 4) n (fun r g => ∀ o, o < 4 → (r 3).testBit o = true → ∀ q, tL T (4 * (p / 4) + o) = some q → tb (aj 50 q) g = true) y) (fun k n z y hn hI hk => ?_) (Nat.zero_le _) ⟨fun h => ?_, fun h => ⟨fun H => (by rw [tb_0] at H; cases H), fun ⟨_, j, r, hj, _⟩ => absurd hj (Nat.not_lt_zero _)⟩⟩
    · obtain ⟨hz, hy⟩ := hI
      unfold fX1_ending_B29
      refine oi (hs.1 _ _ hA.1) ?_
      rw [hL.1]
      refine wp_le rfl rfl (by omega) (by omega) (fun hc => wp_some ?_) (fun hc => ?_)
      · have : n = (tR T (p / 4)).length := by omega
        subst this; exact ⟨hz, hy⟩
      have hr : (tR T (p / 4))[n]? = some ((tR T (p / 4))[n]'hc) := List.getElem?_eq_getElem hc
      generalize (tR T (p / 4))[n] = r at hr
      have hrw := hRW r (List.mem_of_getElem? hr)
      obtain ⟨ra, e1, e2⟩ := hL.2.2.2 n r hr
      refine oR (hs.1 _ _ hA.1) (hs.2.2 _ _ _ _ hA.2.2.2) (oLR (hs.1 _ _ hA.2.1) (hs.2.1 _ _ hA.2.2.1) rfl (by omega) (by decide) e1 ?_)
      rw [rm4 (by omega)]
      refine oKw e2.1 (x_taken e2 hrw rfl h4 z) (fun y1 hy1 => wp_lt (oi e2.1 ?_))
      rw [e2.2.1 3 (by decide)]
      obtain ⟨n1, n2⟩ := hz.next hW.1 hr hy1
      refine oKw (hs.1 49 2 rfl) (x_behindAll hs hW hP rfl hb6 rfl hrw.2.2.2.2.2.1) (fun v hv => ?_)
      refine oKw e2.1 (x_leadingInto e2 hW.1 hrw (in32_of hW.1 hv)) (fun w hw => wp_lt (hk hc _ _ _ (nI_1 n) ⟨n1, hy.next hW.1 hrw hr n2 hv hw.2⟩))
    · constructor
      · intro H
        have h64 := tb_lt64 H
        rw [es h h64, decide_eq_true_eq] at H
        exact ⟨H, fun j r hj => absurd hj (Nat.not_lt_zero _)⟩
      · rintro ⟨H, _⟩
        rw [es h (by omega), decide_eq_true_eq]; exact H
  · obtain ⟨hz, hy⟩ := hq
    rw [tb_or, Bool.or_eq_true, hz h, hy h]
    constructor
    · rintro (⟨H1, j, r, hj, H2, H3, H4⟩ | ⟨H1, H2⟩)
      · refine ⟨H1, fun q g hS => ?_⟩
        obtain ⟨rfl, o, ho, e1, e2⟩ := (Sp1_iff H2 H3).mp hS
        exact ⟨(hW.2.1 _ _ e2).2.1, H4 o ho e1 q e2⟩
      · refine ⟨H1, fun q g hS => absurd hS (Sp1_no (hd_isn (fun j r hr => H2 j r ?_ hr)))⟩
        exact (List.getElem?_eq_some_iff.mp hr).1
    · rintro ⟨H1, H2⟩
      cases hhd : hd (tR T (p / 4)) (p % 4) h with
      | none => exact Or.inr ⟨H1, fun j r _ hr => hd_none hhd j r hr⟩
      | some j =>
        obtain ⟨r, hr, -⟩ := hd_some hhd
        exact Or.inl ⟨H1, j, r, hd_lt hhd, rfl, hr, fun o ho e1 q e2 => (H2 q _ ((Sp1_iff hhd hr).mpr ⟨rfl, o, ho, e1, e2⟩)).2⟩
theorem x_delivering (hs : xst b) (hW : WF T) (hP : XPic T b fi fj ai ar) (hf : fR T aj) (h1 : x1 = nI p) (hp : p < 24) (h2 : x2 = nI t) (ht : t < 24) : wp (fX1_delivering 49 x1 x2 (mk b fi fj ai aj ar)) (fun y => ∀ h, tb y h = true ↔ h < 2 ^ tB T ∧ PhD (tL T) (tR T) t (fS aj) p h) := by
  have hp2 := (pow_b hW.1).2
  have hb6 : p / 4 < 6 := by omega
  have h4 : p % 4 < 4 := Nat.mod_lt _ (by decide)
  have hL := hP.2.2.2.2.1 (p / 4) hb6
  have hA := LA_box (p / 4) hb6
  have hRW := (hW.2.2.1 (p / 4) hb6).2
  have h6 := hL.2.1
  unfold fX1_delivering
  refine wp_lt ?_
  rw [h1, dv4 (by omega)]
  refine oR (hs.1 49 2 rfl) (hs.2.2 1 0 49 1 rfl) (oR (hs.1 1 5 rfl) (hs.2.2 4 3 1 3 rfl) (oLR (hs.1 3 26 rfl) (hs.2.1 3 6 rfl) rfl hb6 (by decide) (hP.1.1 _ hb6) (oR (hs.1 49 2 rfl) (hs.2.2 1 0 49 1 rfl) (oKw (hs.1 1 5 rfl) (x_allHeaders hs hP.2.1 hW.1) (fun s0 es => ?_)))))
  refine wp_obw (Q := fun q => StP (tB T) (tR T (p / 4)) (p % 4) (tR T (p / 4)).length (fun r g => ∃ o, o < 4 ∧ (r 3).testBit o = true ∧ ((∃ q, tL T (4 * (p / 4) + o) = some q ∧ tb (aj 50 q) g = true) ∨ (tL T (4 * (p / 4) + o) = none ∧ 4 * (p / 4) + o = t))) q) ?_ (fun q hq => wp_some (fun h => ?_))
  · refine it3_up3F (show (0 : Int32) = nI 0 from rfl) (tR T (p / 4)).length (by omega) (fun n z y => LfP (tB T) (tR T (p / 4)) (p % 4) n z ∧ StP (tB T) (tR T (p / 4)) (p % 4) n (fun r g => ∃ o, o < 4 ∧ (r 3).testBit o = true ∧ ((∃ q, tL T (4 * (p / 4) + o) = some q ∧ tb (aj 50 q) g = true) ∨ (tL T (4 * (p / 4) + o) = none ∧ 4 * (p / 4) + o = t))) y) (fun k n z y hn hI hk => ?_) (Nat.zero_le _) ⟨fun h => ?_, fun h => ⟨fun H => (by rw [tb_0] at H; cases H), fun ⟨_, j, r, hj, _⟩ => absurd hj (Nat.not_lt_zero _)⟩⟩
    · obtain ⟨hz, hy⟩ := hI
      unfold fX1_delivering_B30
      refine oi (hs.1 _ _ hA.1) ?_
      rw [hL.1]
      refine wp_le rfl rfl (by omega) (by omega) (fun hc => wp_some ?_) (fun hc => ?_)
      · have : n = (tR T (p / 4)).length := by omega
        subst this; exact hy
      have hr : (tR T (p / 4))[n]? = some ((tR T (p / 4))[n]'hc) := List.getElem?_eq_getElem hc
      generalize (tR T (p / 4))[n] = r at hr
      have hrw := hRW r (List.mem_of_getElem? hr)
      obtain ⟨ra, e1, e2⟩ := hL.2.2.2 n r hr
      refine oR (hs.1 _ _ hA.1) (hs.2.2 _ _ _ _ hA.2.2.2) (oLR (hs.1 _ _ hA.2.1) (hs.2.1 _ _ hA.2.2.1) rfl (by omega) (by decide) e1 ?_)
      rw [rm4 (by omega)]
      refine oKw e2.1 (x_taken e2 hrw rfl h4 z) (fun y1 hy1 => wp_lt (oi e2.1 ?_))
      rw [e2.2.1 3 (by decide)]
      obtain ⟨n1, n2⟩ := hz.next hW.1 hr hy1
      refine oKw (hs.1 49 2 rfl) (x_behindOne hs hW hP hf rfl hb6 rfl hrw.2.2.2.2.2.1 h2 ht) (fun v hv => ?_)
      refine oKw e2.1 (x_leadingInto e2 hW.1 hrw (in32_of hW.1 hv)) (fun w hw => wp_lt (hk hc _ _ _ (nI_1 n) ⟨n1, hy.next hW.1 hrw hr n2 hv hw.2⟩))
    · constructor
      · intro H
        have h64 := tb_lt64 H
        rw [es h h64, decide_eq_true_eq] at H
        exact ⟨H, fun j r hj => absurd hj (Nat.not_lt_zero _)⟩
      · rintro ⟨H, _⟩
        rw [es h (by omega), decide_eq_true_eq]; exact H
  · rw [hq h]
    constructor
    · rintro ⟨H1, j, r, hj, H2, H3, o, ho, e1, H4⟩
      refine ⟨H1, ?_⟩
      rcases H4 with ⟨q, e2, e3⟩ | ⟨e2, e3⟩
      · exact Or.inr ⟨q, _, (Sp1_iff H2 H3).mpr ⟨rfl, o, ho, e1, e2⟩, (hW.2.1 _ _ e2).2.1, e3⟩
      · exact Or.inl ⟨_, (Dlv_iff H2 H3).mpr ⟨rfl, o, ho, e1, e3.symm, by rw [← e3]; exact e2⟩⟩
    · rintro ⟨H1, H2⟩
      refine ⟨H1, ?_⟩
      cases hhd : hd (tR T (p / 4)) (p % 4) h with
      | none =>
        rcases H2 with ⟨g, H2⟩ | ⟨q, g, H2, _⟩
        · exact absurd H2 (Dlv_no hhd)
        · exact absurd H2 (Sp1_no hhd)
      | some j =>
        obtain ⟨r, hr, -⟩ := hd_some hhd
        refine ⟨j, r, hd_lt hhd, rfl, hr, ?_⟩
        rcases H2 with ⟨g, H2⟩ | ⟨q, g, H2, H3⟩
        · obtain ⟨rfl, o, ho, e1, e2, e3⟩ := (Dlv_iff hhd hr).mp H2
          exact ⟨o, ho, e1, Or.inr ⟨by rw [← e2]; exact e3, e2.symm⟩⟩
        · obtain ⟨rfl, o, ho, e1, e2⟩ := (Sp1_iff hhd hr).mp H2
          exact ⟨o, ho, e1, Or.inl ⟨q, e2, H3.2⟩⟩
/-- what holds between two steps: all that is found is found from what is found, and lies in Z -/
def FaJ (T : TS) (Ph : PS → PS) (Z : PS) (aj : Nat → Nat → Int64) : Prop := ∀ p, p < 24 → ∀ h, tb (aj 50 p) h = true → h < 2 ^ tB T ∧ Ph (fS aj) p h ∧ Z p h
def FaN (T : TS) (Ph : PS → PS) (x1 : Int32) (b : UH) (fi : Nat → Nat → Nat → Int32) (fj : Nat → Nat → Nat → Int64) (ai : Nat → Nat → Int32) (ar : Nat → Nat → Option Nat) : Prop := ∀ (aj : Nat → Nat → Int64) (n : Nat) (k : Int32 → Int32 → UH → Option (Int32 × UH)) (z : Int32) (P : Int32 × UH → Prop), fR T aj → n < 24 → (∀ y, (∀ h, tb y h = true ↔ h < 2 ^ tB T ∧ Ph (fS aj) n h) → wp (fX1_growOnce_29 k 49 x1 z (nI n) y (mk b fi fj ai aj ar)) P) → wp (fX1_growOnce_B4 49 x1 k z (nI n) (mk b fi fj ai aj ar)) P
theorem x_growOnce {Ph : PS → PS} {Z : PS} (hs : xst b) (hW : WF T) (hN : FaN T Ph x1 b fi fj ai ar) (hm : ∀ A B : PS, (∀ q g, A q g → B q g) → ∀ p h, Ph A p h → Ph B p h) (hZ : ∀ p h, Ph Z p h → Z p h) (hJ : FaJ T Ph Z aj) : wp (fX1_growOnce 49 x1 (mk b fi fj ai aj ar)) (fun q => ∃ aj', q.2 = mk b fi fj ai aj' ar ∧ (∀ a, a ≠ 50 → aj' a = aj a) ∧ FaJ T Ph Z aj' ∧ (q.1 = 0 → ∀ p, p < 24 → ∀ h, h < 2 ^ tB T → Ph (fS aj') p h → tb (aj' 50 p) h = true) ∧ (q.1 ≠ 0 → cnt (aj 50) < cnt (aj' 50))) := by
  have hp2 := (pow_b hW.1).2
  unfold fX1_growOnce
  refine wp_obw (Q := fun q => (q.1 = 0 ∨ q.1 = 1) ∧ ∃ aj', q.2 = mk b fi fj ai aj' ar ∧ (∀ a, a ≠ 50 → aj' a = aj a) ∧ FaJ T Ph Z aj' ∧ (q.1 = 0 → ∀ p, p < 24 → ∀ h, h < 2 ^ tB T → Ph (fS aj') p h → tb (aj' 50 p) h = true) ∧ (q.1 ≠ 0 → cnt (aj 50) < cnt (aj' 50))) ?_ (fun q hq => wp_bz hq.1 (wp_some hq.2))
  refine it3_up2F (show (0 : Int32) = nI 0 from rfl) 24 (by decide) (fun n z u => ∃ aj', u = mk b fi fj ai aj' ar ∧ (∀ a, a ≠ 50 → aj' a = aj a) ∧ FaJ T Ph Z aj' ∧ ((z = 0 ∧ (∀ p, p < 24 → aj' 50 p = aj 50 p) ∧ ∀ p, p < n → ∀ h, h < 2 ^ tB T → Ph (fS aj) p h → tb (aj 50 p) h = true) ∨ (z = 1 ∧ cnt (aj 50) < cnt (aj' 50)))) (fun k n z u hn hI hk => ?_) (Nat.zero_le _) ⟨aj, rfl, fun _ _ => rfl, hJ, Or.inl ⟨rfl, fun _ _ => rfl, fun p hp => absurd hp (Nat.not_lt_zero _)⟩⟩
  obtain ⟨aj', rfl, g1, g2, g3⟩ := hI
  rcases Nat.lt_or_ge n 24 with hc | hc
  · have hfr : fR T aj' := fun q hq g hg => (g2 q hq g hg).1
    refine hN aj' n k z _ hfr hc (fun y hy => ?_)
    have hsub : ∀ h, tb (aj' 50 n) h = true → tb y h = true := fun h hh => (hy h).mpr ⟨(g2 n hc h hh).1, (g2 n hc h hh).2.1⟩
    have hS : ∀ q g, fS aj' q g → fS (up2 aj' 50 n y) q g := by
      rintro q g ⟨H1, H2⟩
      refine ⟨H1, ?_⟩
      rw [up2_is]
      by_cases e : q = n
      · rw [if_pos e]; rw [e] at H2; exact hsub g H2
      · rw [if_neg e]; exact H2
    have hSZ : ∀ q g, fS aj' q g → Z q g := fun q g H => (g2 q H.1 g H.2).2.2
    have hJ' : FaJ T Ph Z (up2 aj' 50 n y) := by
      intro p hp h hh
      rw [up2_is] at hh
      by_cases e : p = n
      · rw [if_pos e] at hh
        obtain ⟨H1, H2⟩ := (hy h).mp hh
        rw [e]
        exact ⟨H1, hm _ _ hS n h H2, hZ n h (hm _ _ hSZ n h H2)⟩
      · rw [if_neg e] at hh
        obtain ⟨H1, H2, H3⟩ := g2 p hp h hh
        exact ⟨H1, hm _ _ hS p h H2, H3⟩
    have hmono : cnt (aj' 50) ≤ cnt (up2 aj' 50 n y 50) := cnt_mono (fun p hp i hi H => (hS p i ⟨hp, H⟩).2)
    have fr : ∀ a, a ≠ 50 → up2 aj' 50 n y a = aj a := fun a ha => by rw [up2_a ha]; exact g1 a ha
    unfold fX1_growOnce_29
    rcases g3 with ⟨rfl, g4, g5⟩ | ⟨rfl, g4⟩
    · refine wp_t rfl (oR (hs.1 49 2 rfl) (hs.2.2 1 1 49 50 rfl) (oLJ (hs.1 50 21 rfl) (hs.2.1 50 24 rfl) rfl hc (by decide) ?_))
      have hA : ∀ q g, fS aj q g → fS aj' q g := fun q g H => ⟨H.1, by rw [g4 q H.1]; exact H.2⟩
      refine wp_if (fun e => ?_) (fun e => ?_)
      · refine oR (hs.1 49 2 rfl) (hs.2.2 1 1 49 50 rfl) (oSJ (hs.1 50 21 rfl) (hs.2.1 50 24 rfl) rfl hc (by decide) (hk hc _ _ _ (nI_1 n) ⟨_, rfl, fr, hJ', Or.inl ⟨rfl, fun p hp => ?_, fun p hp h hh H => ?_⟩⟩))
        · rw [up2_is]
          by_cases ep : p = n
          · rw [if_pos ep, ep, ← g4 n hc]; exact e
          · rw [if_neg ep]; exact g4 p hp
        · rcases Nat.lt_or_ge p n with h1 | h1
          · exact g5 p h1 h hh H
          · have : p = n := by omega
            subst this
            rw [← g4 p hc, ← e]
            exact (hy h).mpr ⟨hh, hm _ _ hA p h H⟩
      · refine oR (hs.1 49 2 rfl) (hs.2.2 1 1 49 50 rfl) (oSJ (hs.1 50 21 rfl) (hs.2.1 50 24 rfl) rfl hc (by decide) (hk hc _ _ _ (nI_1 n) ⟨_, rfl, fr, hJ', Or.inr ⟨rfl, ?_⟩⟩))
        have hne : ∃ g, tb y g = true ∧ tb (aj' 50 n) g = false := by
          apply Classical.byContradiction
          intro hno
          refine e (tb_ext (fun i hi => ?_))
          cases h1 : tb (aj' 50 n) i with
          | true => exact hsub i h1
          | false =>
            cases h2 : tb y i with
            | false => rfl
            | true => exact absurd ⟨i, h2, h1⟩ hno
        obtain ⟨g, hg1, hg2⟩ := hne
        have e0 : cnt (aj 50) = cnt (aj' 50) := Nat.le_antisymm (cnt_mono (fun p hp i hi H => by rw [g4 p hp]; exact H)) (cnt_mono (fun p hp i hi H => by rw [g4 p hp] at H; exact H))
        rw [e0]
        exact cnt_lt (fun p hp i hi H => (hS p i ⟨hp, H⟩).2) hc (i := g) (by have := ((hy g).mp hg1).1; omega) hg2 (by rw [up2_s]; exact hg1)
    · refine wp_f (by decide) (oR (hs.1 49 2 rfl) (hs.2.2 1 1 49 50 rfl) (oSJ (hs.1 50 21 rfl) (hs.2.1 50 24 rfl) rfl hc (by decide) (hk hc _ _ _ (nI_1 n) ⟨_, rfl, fr, hJ', Or.inr ⟨rfl, by omega⟩⟩)))
  · have : n = 24 := by omega
    subst this
    unfold fX1_growOnce_B4
    refine wp_t (nI_le (Nat.le_refl 24) (by decide)) (wp_some ⟨?_, aj', rfl, g1, g2, fun hz p hp h hh H => ?_, fun hz => ?_⟩)
    · rcases g3 with ⟨g4, _⟩ | ⟨g4, _⟩
      · exact Or.inl g4
      · exact Or.inr g4
    · rcases g3 with ⟨_, g4, g5⟩ | ⟨g4, _⟩
      · rw [g4 p hp]
        exact g5 p hp h hh (hm _ _ (fun q g H => ⟨H.1, by rw [← g4 q H.1]; exact H.2⟩) p h H)
      · dsimp only at hz; rw [hz] at g4; exact absurd g4 (by decide)
    · rcases g3 with ⟨g4, _⟩ | ⟨_, g4⟩
      · exact absurd g4 hz
      · exact g4
theorem x_find {Ph : PS → PS} {Z : PS} (hs : xst b) (hW : WF T) (hN : FaN T Ph x1 b fi fj ai ar) (hm : ∀ A B : PS, (∀ q g, A q g → B q g) → ∀ p h, Ph A p h → Ph B p h) (hZ : ∀ p h, Ph Z p h → Z p h) : wp (fX1_find 49 x1 (mk b fi fj ai aj ar)) (fun u => ∃ aj', u = mk b fi fj ai aj' ar ∧ (∀ a, a ≠ 50 → aj' a = aj a) ∧ FaJ T Ph Z aj' ∧ ∀ p, p < 24 → ∀ h, h < 2 ^ tB T → Ph (fS aj') p h → tb (aj' 50 p) h = true) := by
  unfold fX1_find
  refine oR (hs.1 49 2 rfl) (hs.2.2 1 1 49 50 rfl) (wp_obe (j_fillJ (hs.1 50 21 rfl) (hs.2.1 50 24 rfl) (by decide) _) ?_)
  refine wp_obw (Q := fun u => ∃ aj', u = mk b fi fj ai aj' ar ∧ (∀ a, a ≠ 50 → aj' a = aj a) ∧ FaJ T Ph Z aj' ∧ ∀ p, p < 24 → ∀ h, h < 2 ^ tB T → Ph (fS aj') p h → tb (aj' 50 p) h = true) ?_ (fun u hu => wp_some hu)
  refine it3_up2F (show (0 : Int32) = nI 0 from rfl) 769 (by decide) (fun n z u => ∃ aj', u = mk b fi fj ai aj' ar ∧ (∀ a, a ≠ 50 → aj' a = aj a) ∧ FaJ T Ph Z aj' ∧ (z = 0 → ∀ p, p < 24 → ∀ h, h < 2 ^ tB T → Ph (fS aj') p h → tb (aj' 50 p) h = true) ∧ (z ≠ 0 → n ≤ cnt (aj' 50))) (fun k n z u hn hI hk => ?_) (Nat.zero_le _) ⟨_, rfl, fun a ha => filA_a ha, fun p hp h hh => (by rw [filA_i hp, tb_0] at hh; cases hh), fun h => absurd h (by decide), fun _ => Nat.zero_le _⟩
  obtain ⟨aj', rfl, g1, g2, g3, g4⟩ := hI
  unfold fX1_find_B12
  refine wp_if (fun hz => wp_some ⟨aj', rfl, g1, g2, g3 hz⟩) (fun hz => ?_)
  have hcn := g4 hz
  have hcl := cnt_le (aj' 50)
  refine wp_f (show ¬ (768 : Int32) < nI n from nI_nlt (a := 768) (by omega) (by decide)) ?_
  refine oK2 (hs.1 49 2 rfl) (x_growOnce hs hW hN hm hZ g2) (fun z' u hq => ?_)
  obtain ⟨aj2, e1, c1, c2, c3, c4⟩ := hq
  dsimp only at e1 c3 c4
  subst e1
  exact hk (by omega) _ _ _ (nI_1 n) ⟨aj2, rfl, fun a h => by rw [c1 a h, g1 a h], c2, c3, fun hz' => by have := c4 hz'; omega⟩
theorem FaN_E (hs : xst b) (hW : WF T) (hP : XPic T b fi fj ai ar) : FaN T (PhE (tL T) (tR T)) (-1) b fi fj ai ar := by
  intro aj n k z P hf hn h
  unfold fX1_growOnce_B4
  exact wp_f (nI_ge hn (by decide)) (wp_t rfl (oKw (hs.1 49 2 rfl) (x_ending hs hW hP rfl hn) h))
theorem FaN_D (hs : xst b) (hW : WF T) (hP : XPic T b fi fj ai ar) (ht : t < 24) : FaN T (PhD (tL T) (tR T) t) (nI t) b fi fj ai ar := by
  intro aj n k z P hf hn h
  unfold fX1_growOnce_B4
  exact wp_f (nI_ge hn (by decide)) (wp_f (fun e => by have := (oI_m1 (o := some t) (fun q hq => by cases hq; omega)).mp e; cases this) (oKw (hs.1 49 2 rfl) (x_delivering hs hW hP hf rfl hn rfl ht) h))
theorem x_findE (hs : xst b) (hW : WF T) (hP : XPic T b fi fj ai ar) : wp (fX1_find 49 (-1) (mk b fi fj ai aj ar)) (fun u => ∃ aj', u = mk b fi fj ai aj' ar ∧ ∀ p, p < 24 → ∀ h, tb (aj' 50 p) h = true ↔ h < 2 ^ tB T ∧ Ac (tL T) (tR T) p h) := by
  refine wp_mono (x_find hs hW (FaN_E hs hW hP) (fun A B h p h' => PhE.mono h p h') (Z := Ac (tL T) (tR T)) Ac.fix) (fun u hu => ?_)
  obtain ⟨aj', rfl, _, g2, g3⟩ := hu
  refine ⟨aj', rfl, fun p hp h => ⟨fun H => ⟨(g2 p hp h H).1, (g2 p hp h H).2.2⟩, fun H => ?_⟩⟩
  refine H.2 (fun p h => p < 24 → h < 2 ^ tB T → tb (aj' 50 p) h = true) (fun p h H2 hp hh => g3 p hp h hh (fun q g hS => ?_)) hp H.1
  obtain ⟨r1, r2⟩ := Sp1.rg hW.1 hW.2.1 hW.2.2.1 hp hh hS
  exact ⟨r1, H2 q g hS r1 r2⟩
theorem x_findD (hs : xst b) (hW : WF T) (hP : XPic T b fi fj ai ar) (ht : t < 24) : wp (fX1_find 49 (nI t) (mk b fi fj ai aj ar)) (fun u => ∃ aj', u = mk b fi fj ai aj' ar ∧ ∀ p, p < 24 → ∀ h, tb (aj' 50 p) h = true ↔ h < 2 ^ tB T ∧ De (tL T) (tR T) t p h) := by
  refine wp_mono (x_find hs hW (FaN_D hs hW hP ht) (fun A B h p h' => PhD.mono h p h') (Z := De (tL T) (tR T) t) De.fix) (fun u hu => ?_)
  obtain ⟨aj', rfl, _, g2, g3⟩ := hu
  refine ⟨aj', rfl, fun p hp h => ⟨fun H => ⟨(g2 p hp h H).1, (g2 p hp h H).2.2⟩, fun H => ?_⟩⟩
  have := De.least (A := fS aj') (R := fun p h => p < 24 ∧ h < 2 ^ tB T) (fun p h q g H hS => Sp1.rg hW.1 hW.2.1 hW.2.2.1 H.1 H.2 hS) (fun p h H1 H2 => ⟨H1.1, g3 p H1.1 h H1.2 H2⟩) ⟨hp, H.1⟩ H.2
  exact this.2
end
