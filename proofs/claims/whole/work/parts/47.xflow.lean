theorem dv4 {a : Nat} (ha : a < 2 ^ 31) : nI a / (4 : Int32) = nI (a / 4) := dv ha (by decide) (by decide)
theorem rm4 {a : Nat} (ha : a < 2 ^ 31) : jrem (nI a) (4 : Int32) = nI (a % 4) := rm ha (by decide) (by decide)
theorem tb_diff (x y : Int64) (g : Nat) : tb (x &&& (y ^^^ (-1))) g = true ↔ tb x g = true ∧ tb y g = false := by
  rcases Nat.lt_or_ge g 64 with h | h
  · rw [tb_and, tb_not _ h, Bool.and_eq_true]
    simp
  · rw [tb_big h, tb_big h]
    simp
section
variable {b : UH} {fi : Nat → Nat → Nat → Int32} {fj : Nat → Nat → Nat → Int64} {ai : Nat → Nat → Int32} {aj : Nat → Nat → Int64} {ar : Nat → Nat → Option Nat} {T : TS} {x1 x2 : Int32} {p h box outs : Nat} {s : Int64}
theorem x_sendOut (hs : xst b) (hW : WF T) (hP : XPic T b fi fj ai ar) (h1 : x1 = nI box) (hb : box < 6) (h2 : x2 = nI outs) (ho : outs ≤ 15) : wp (fX2_sendOut 45 x1 x2 s (mk b fi fj ai aj ar)) (fun u => ∃ aj', u = mk b fi fj ai aj' ar ∧ (∀ a, a ≠ 48 → aj' a = aj a) ∧ ∀ q, q < 24 → ∀ g, tb (aj' 48 q) g = true ↔ tb (aj 48 q) g = true ∨ ((∃ o, o < 4 ∧ outs.testBit o = true ∧ tL T (4 * box + o) = some q) ∧ tb s g = true ∧ tb (aj 46 q) g = false)) := by
  unfold fX2_sendOut
  refine wp_obw (Q := fun u => ∃ aj', u = mk b fi fj ai aj' ar ∧ (∀ a, a ≠ 48 → aj' a = aj a) ∧ ∀ q, q < 24 → ∀ g, tb (aj' 48 q) g = true ↔ tb (aj 48 q) g = true ∨ ((∃ o, o < 4 ∧ outs.testBit o = true ∧ tL T (4 * box + o) = some q) ∧ tb s g = true ∧ tb (aj 46 q) g = false)) ?_ (fun u hu => wp_some hu)
  refine it2_up1F (show (0 : Int32) = nI 0 from rfl) 4 (by decide) (fun n u => ∃ aj', u = mk b fi fj ai aj' ar ∧ (∀ a, a ≠ 48 → aj' a = aj a) ∧ ∀ q, q < 24 → ∀ g, tb (aj' 48 q) g = true ↔ tb (aj 48 q) g = true ∨ ((∃ o, o < n ∧ outs.testBit o = true ∧ tL T (4 * box + o) = some q) ∧ tb s g = true ∧ tb (aj 46 q) g = false)) (fun k n u hn hI hk => ?_) (Nat.zero_le _) ⟨aj, rfl, fun _ _ => rfl, fun q _ g => ⟨Or.inl, fun H => by rcases H with H | ⟨⟨o, ho, _⟩, _⟩; exact H; exact absurd ho (Nat.not_lt_zero _)⟩⟩
  obtain ⟨aj', rfl, g1, g2⟩ := hI
  unfold fX2_sendOut_B3
  refine wp_le (a := 4) rfl rfl (by decide) (by omega) (fun hc => wp_some ?_) (fun hc => ?_)
  · have : n = 4 := by omega
    subst this; exact ⟨aj', rfl, g1, g2⟩
  · have hpl : 4 * box + n < 24 := by omega
    refine oR (hs.1 45 3 rfl) (hs.2.2 2 0 45 1 rfl) (oR (hs.1 1 5 rfl) (hs.2.2 4 2 1 2 rfl) (wp_obe (x_placeOf _ h1 rfl) (oL (hs.1 2 20 rfl) (hs.2.1 2 24 rfl) rfl hpl (by decide) (wp_obe (x_hasPort _ h2 rfl (by omega) (by omega)) ?_))))
    rw [hP.2.2.1 _ hpl]
    have skip : ¬ (∃ q, outs.testBit n = true ∧ tL T (4 * box + n) = some q) → ∃ aj'', mk b fi fj ai aj' ar = mk b fi fj ai aj'' ar ∧ (∀ a, a ≠ 48 → aj'' a = aj a) ∧ ∀ q, q < 24 → ∀ g, tb (aj'' 48 q) g = true ↔ tb (aj 48 q) g = true ∨ ((∃ o, o < n + 1 ∧ outs.testBit o = true ∧ tL T (4 * box + o) = some q) ∧ tb s g = true ∧ tb (aj 46 q) g = false) := by
      intro hno
      refine ⟨aj', rfl, g1, fun q hq g => ?_⟩
      rw [g2 q hq g, ex_lt]
      constructor
      · rintro (H | ⟨H, H2⟩)
        · exact Or.inl H
        · exact Or.inr ⟨Or.inl H, H2⟩
      · rintro (H | ⟨H | H, H2⟩)
        · exact Or.inl H
        · exact Or.inr ⟨H, H2⟩
        · exact absurd ⟨q, H⟩ hno
    cases ht : outs.testBit n with
    | false => exact wp_t rfl (hk hc _ _ (nI_1 n) (skip (fun ⟨q, H⟩ => by rw [ht] at H; cases H.1)))
    | true =>
      refine wp_f (by decide) ?_
      cases hlk : tL T (4 * box + n) with
      | none => exact wp_t rfl (hk hc _ _ (nI_1 n) (skip (fun ⟨q, H⟩ => by rw [hlk] at H; cases H.2)))
      | some q0 =>
        have hq0 := (hW.2.1 _ _ hlk).2.1
        refine wp_f (fun e => by have := (oI_m1 (o := some q0) (fun q hq => by cases hq; omega)).mp e; cases this) ?_
        refine oR (hs.1 45 3 rfl) (hs.2.2 2 3 45 48 rfl) (oLJ (hs.1 48 21 rfl) (hs.2.1 48 24 rfl) (i := q0) rfl hq0 (by decide) (oR (hs.1 45 3 rfl) (hs.2.2 2 1 45 46 rfl) (oLJ (hs.1 46 21 rfl) (hs.2.1 46 24 rfl) (i := q0) rfl hq0 (by decide) (oSJ (hs.1 48 21 rfl) (hs.2.1 48 24 rfl) (i := q0) rfl hq0 (by decide) (hk hc _ _ (nI_1 n) ⟨_, rfl, fun a ha => by rw [up2_a ha]; exact g1 a ha, fun q hq g => ?_⟩)))))
        rw [ex_lt, up2_is]
        by_cases eq : q = q0
        · subst eq
          rw [if_pos rfl, tb_or, Bool.or_eq_true, tb_diff, g2 q hq g, g1 46 (by decide)]
          constructor
          · rintro ((H | ⟨H, H2⟩) | H)
            · exact Or.inl H
            · exact Or.inr ⟨Or.inl H, H2⟩
            · exact Or.inr ⟨Or.inr ⟨ht, hlk⟩, H⟩
          · rintro (H | ⟨_, H2⟩)
            · exact Or.inl (Or.inl H)
            · exact Or.inr H2
        · rw [if_neg eq, g2 q hq g]
          constructor
          · rintro (H | ⟨H, H2⟩)
            · exact Or.inl H
            · exact Or.inr ⟨Or.inl H, H2⟩
          · rintro (H | ⟨H | H, H2⟩)
            · exact Or.inl H
            · exact Or.inr ⟨H, H2⟩
            · rw [hlk] at H; exact absurd (Option.some.inj H.2).symm eq
theorem x_handle (hs : xst b) (hW : WF T) (hP : XPic T b fi fj ai ar) (h1 : x1 = nI p) (hp : p < 24) (hs32 : In32 s) : wp (fX2_handle 45 x1 s (mk b fi fj ai aj ar)) (fun u => ∃ aj', u = mk b fi fj ai aj' ar ∧ (∀ a, a ≠ 48 → aj' a = aj a) ∧ ∀ q, q < 24 → ∀ g, tb (aj' 48 q) g = true ↔ tb (aj 48 q) g = true ∨ (tb (aj 46 q) g = false ∧ ∃ h, tb s h = true ∧ Sp1 (tL T) (tR T) p h q g)) := by
  have hb6 : p / 4 < 6 := by omega
  have h4 : p % 4 < 4 := Nat.mod_lt _ (by decide)
  have hL := hP.2.2.2.2.1 (p / 4) hb6
  have hA := LA_box (p / 4) hb6
  have hRW := (hW.2.2.1 (p / 4) hb6).2
  have h6 := hL.2.1
  generalize hrs : tR T (p / 4) = rs at *
  unfold fX2_handle
  refine wp_lt ?_
  rw [h1, dv4 (by omega)]
  refine oR (hs.1 45 3 rfl) (hs.2.2 2 0 45 1 rfl) (oR (hs.1 1 5 rfl) (hs.2.2 4 3 1 3 rfl) (oLR (hs.1 3 26 rfl) (hs.2.1 3 6 rfl) rfl hb6 (by decide) (hP.1.1 _ hb6) ?_))
  have hSp : ∀ h q g, Sp1 (tL T) (tR T) p h q g ↔ ∃ i r, hd rs (p % 4) h = some i ∧ rs[i]? = some r ∧ g = rw5 r h ∧ ∃ o, o < 4 ∧ (r 3).testBit o = true ∧ tL T (4 * (p / 4) + o) = some q := by
    intro h q g
    constructor
    · rintro ⟨o, ⟨ho, i, r, e1, e2, e3, e4⟩, e5⟩
      rw [hrs] at e1 e2
      exact ⟨i, r, e1, e2, e4, o, ho, e3, e5⟩
    · rintro ⟨i, r, e1, e2, e4, o, ho, e3, e5⟩
      exact ⟨o, ⟨ho, i, r, by rw [hrs]; exact e1, by rw [hrs]; exact e2, e3, e4⟩, e5⟩
  refine wp_obw (Q := fun u => ∃ aj', u = mk b fi fj ai aj' ar ∧ (∀ a, a ≠ 48 → aj' a = aj a) ∧ ∀ q, q < 24 → ∀ g, tb (aj' 48 q) g = true ↔ tb (aj 48 q) g = true ∨ (tb (aj 46 q) g = false ∧ ∃ h, tb s h = true ∧ Sp1 (tL T) (tR T) p h q g)) ?_ (fun u hu => wp_some hu)
  refine it3_up2F (show (0 : Int32) = nI 0 from rfl) rs.length (by omega) (fun n z u => (∀ h, tb z h = true ↔ tb s h = true ∧ ∀ (j : Nat) r, j < n → rs[j]? = some r → mt r (p % 4) h = false) ∧ ∃ aj', u = mk b fi fj ai aj' ar ∧ (∀ a, a ≠ 48 → aj' a = aj a) ∧ ∀ q, q < 24 → ∀ g, tb (aj' 48 q) g = true ↔ tb (aj 48 q) g = true ∨ (tb (aj 46 q) g = false ∧ ∃ h, tb s h = true ∧ ∃ i r, i < n ∧ hd rs (p % 4) h = some i ∧ rs[i]? = some r ∧ g = rw5 r h ∧ ∃ o, o < 4 ∧ (r 3).testBit o = true ∧ tL T (4 * (p / 4) + o) = some q)) (fun k n z u hn hI hk => ?_) (Nat.zero_le _) ⟨fun h => ⟨fun H => ⟨H, fun j r hj => absurd hj (Nat.not_lt_zero _)⟩, fun H => H.1⟩, aj, rfl, fun _ _ => rfl, fun q _ g => ⟨Or.inl, fun H => by rcases H with H | ⟨_, h, _, i, r, hi, _⟩; exact H; exact absurd hi (Nat.not_lt_zero _)⟩⟩
  obtain ⟨hz, aj', rfl, g1, g2⟩ := hI
  have fin : (∀ h i, tb s h = true → hd rs (p % 4) h = some i → i < n) → ∃ aj'', mk b fi fj ai aj' ar = mk b fi fj ai aj'' ar ∧ (∀ a, a ≠ 48 → aj'' a = aj a) ∧ ∀ q, q < 24 → ∀ g, tb (aj'' 48 q) g = true ↔ tb (aj 48 q) g = true ∨ (tb (aj 46 q) g = false ∧ ∃ h, tb s h = true ∧ Sp1 (tL T) (tR T) p h q g) := by
    intro hall
    refine ⟨aj', rfl, g1, fun q hq g => ?_⟩
    rw [g2 q hq g]
    constructor
    · rintro (H | ⟨H, h, e1, i, r, hi, e2⟩)
      · exact Or.inl H
      · exact Or.inr ⟨H, h, e1, (hSp h q g).mpr ⟨i, r, e2⟩⟩
    · rintro (H | ⟨H, h, e1, e2⟩)
      · exact Or.inl H
      · obtain ⟨i, r, e3, e4⟩ := (hSp h q g).mp e2
        exact Or.inr ⟨H, h, e1, i, r, hall h i e1 e3, e3, e4⟩
  unfold fX2_handle_B23
  refine oi (hs.1 _ _ hA.1) ?_
  rw [hL.1]
  refine wp_le rfl rfl (by omega) (by omega) (fun hc => wp_some (fin (fun h i e1 e2 => by have := hd_lt e2; omega))) (fun hc => ?_)
  refine wp_if (fun hz0 => wp_some (fin (fun h i e1 e2 => ?_))) (fun hz0 => ?_)
  · rcases Nat.lt_or_ge i n with hlt | hge
    · exact hlt
    · exfalso
      have : tb z h = true := (hz h).mpr ⟨e1, fun j r hj hr => by
        obtain ⟨r', _, _, e3⟩ := hd_some e2
        exact e3 j r (by omega) hr⟩
      rw [hz0, tb_0] at this; cases this
  · have hr : rs[n]? = some (rs[n]'hc) := List.getElem?_eq_getElem hc
    generalize rs[n] = r at hr
    have hrw := hRW r (List.mem_of_getElem? hr)
    obtain ⟨ra, e1, e2⟩ := hL.2.2.2 n r hr
    refine oR (hs.1 _ _ hA.1) (hs.2.2 _ _ _ _ hA.2.2.2) (oLR (hs.1 _ _ hA.2.1) (hs.2.1 _ _ hA.2.2.1) rfl (by omega) (by decide) e1 ?_)
    rw [rm4 (by omega)]
    refine oKw e2.1 (x_taken e2 hrw rfl h4 z) (fun y hy => ?_)
    have hyt : ∀ h, tb y h = true ↔ tb s h = true ∧ hd rs (p % 4) h = some n := by
      intro h
      constructor
      · intro H
        have h64 := tb_lt64 H
        rw [hy h h64, Bool.and_eq_true, Bool.and_eq_true] at H
        obtain ⟨H1, H2, H3⟩ := H
        obtain ⟨H4, H5⟩ := (hz h).mp H1
        exact ⟨H4, hd_is hr H3 H5⟩
      · rintro ⟨H1, H2⟩
        have h32 := hs32.lt H1
        obtain ⟨r', z1, z2, z3⟩ := hd_some H2
        rw [hr] at z1; cases z1
        rw [hy h (by omega), (hz h).mpr ⟨H1, z3⟩, z2]; simp [h32]
    have hz' : ∀ h, tb (z &&& (y ^^^ -1)) h = true ↔ tb s h = true ∧ ∀ (j : Nat) r, j < n + 1 → rs[j]? = some r → mt r (p % 4) h = false := by
      intro h
      rw [tb_diff, hz h]
      constructor
      · rintro ⟨⟨H1, H2⟩, H3⟩
        refine ⟨H1, fun j r' hj hr' => ?_⟩
        rcases Nat.lt_or_ge j n with hlt | hge
        · exact H2 j r' hlt hr'
        · have : j = n := by omega
          subst this
          rw [hr] at hr'; cases hr'
          cases hm : mt r (p % 4) h with
          | false => rfl
          | true =>
            have := (hyt h).mpr ⟨H1, hd_is hr hm H2⟩
            rw [H3] at this; cases this
      · rintro ⟨H1, H2⟩
        refine ⟨⟨H1, fun j r' hj => H2 j r' (by omega)⟩, ?_⟩
        cases hq : tb y h with
        | false => rfl
        | true =>
          obtain ⟨_, H4⟩ := (hyt h).mp hq
          obtain ⟨r', z1, z2, z3⟩ := hd_some H4
          rw [H2 n r' (by omega) z1] at z2; cases z2
    refine wp_if (fun hy0 => ?_) (fun hy0 => ?_)
    · have hno : ∀ h, tb s h = true → hd rs (p % 4) h ≠ some n := fun h H1 H2 => by
        have := (hyt h).mpr ⟨H1, H2⟩
        rw [hy0, tb_0] at this; cases this
      have hzz : z &&& (y ^^^ -1) = z := by
        rw [hy0]
        exact tb_ext (fun i hi => by rw [tb_and, tb_not _ hi, tb_0]; simp)
      rw [hzz] at hz'
      refine hk hc _ _ _ (nI_1 n) ⟨hz', aj', rfl, g1, fun q hq g => ?_⟩
      rw [g2 q hq g]
      constructor
      · rintro (H | ⟨H, h, e1, i, r', hi, e2⟩)
        · exact Or.inl H
        · exact Or.inr ⟨H, h, e1, i, r', by omega, e2⟩
      · rintro (H | ⟨H, h, e1, i, r', hi, e2, e3⟩)
        · exact Or.inl H
        · refine Or.inr ⟨H, h, e1, i, r', ?_, e2, e3⟩
          have : i ≠ n := fun e => hno h e1 (by rw [e2, e])
          omega
    · refine wp_lt (oi e2.1 ?_)
      rw [e2.2.1 3 (by decide)]
      have hy32 : In32 y := fun i hi => by
        cases hq : tb y i with
        | false => rfl
        | true =>
          have := hs32.lt ((hyt i).mp hq).1
          omega
      refine oKw e2.1 (x_rewrittenSet e2 hW.1 hrw hy32) (fun w hw => ?_)
      refine oKw (hs.1 45 3 rfl) (x_sendOut hs hW hP rfl hb6 rfl hrw.2.2.2.2.2.1) (fun u hu => ?_)
      obtain ⟨aj2, rfl, c1, c2⟩ := hu
      refine hk hc _ _ _ (nI_1 n) ⟨hz', aj2, rfl, fun a ha => by rw [c1 a ha, g1 a ha], fun q hq g => ?_⟩
      rw [c2 q hq g, g2 q hq g, g1 46 (by decide)]
      have hwg : tb w g = true ↔ ∃ h, tb s h = true ∧ hd rs (p % 4) h = some n ∧ g = rw5 r h := by
        constructor
        · intro H
          have hg := hw.1.lt H
          obtain ⟨h, _, e1, e2⟩ := (hw.2 g hg).mp H
          exact ⟨h, ((hyt h).mp e1).1, ((hyt h).mp e1).2, e2.symm⟩
        · rintro ⟨h, e1, e2, e3⟩
          have h32 := hs32.lt e1
          subst e3
          refine (hw.2 _ ?_).mpr ⟨h, h32, (hyt h).mpr ⟨e1, e2⟩, rfl⟩
          unfold rw5
          exact Nat.or_lt_two_pow (n := 5) (Nat.lt_of_le_of_lt Nat.and_le_left h32) (lt32 hW.1 hrw.2.2.2.2.2.2.2.1)
      constructor
      · rintro ((H | ⟨H, h, e1, i, r', hi, e2⟩) | ⟨H1, H2, H3⟩)
        · exact Or.inl H
        · exact Or.inr ⟨H, h, e1, i, r', by omega, e2⟩
        · obtain ⟨h, d1, d2, d3⟩ := hwg.mp H2
          exact Or.inr ⟨H3, h, d1, n, r, by omega, d2, hr, d3, H1⟩
      · rintro (H | ⟨H, h, f1, i, r', hi, f2, f3, f4, f5⟩)
        · exact Or.inl (Or.inl H)
        · by_cases ei : i = n
          · rw [ei, hr] at f3; cases f3
            exact Or.inr ⟨f5, hwg.mpr ⟨h, f1, by rw [f2, ei], f4⟩, H⟩
          · exact Or.inl (Or.inr ⟨H, h, f1, i, r', by omega, f2, f3, f4, f5⟩)
end
