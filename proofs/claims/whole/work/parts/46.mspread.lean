theorem tb_or1 (x : Int64) {g0 : Nat} (h0 : g0 < 64) (g : Nat) : tb (x ||| jlsl 1 (nI g0)) g = (tb x g || decide (g = g0)) := by
  rw [tb_or]
  rcases Nat.lt_or_ge g 64 with h | h
  · rw [tb_sh1 h0 h]
  · rw [tb_big h, tb_big h, decide_eq_false (by omega)]
theorem tb_orT (x : Int64) {g0 : Nat} (h0 : g0 < 64) (g : Nat) : tb (x ||| jlsl 1 (nI g0)) g = true ↔ tb x g = true ∨ g = g0 := by
  rw [tb_or1 x h0, Bool.or_eq_true, decide_eq_true_eq]
theorem ex_lt {P : Nat → Prop} {n : Nat} : (∃ o, o < n + 1 ∧ P o) ↔ (∃ o, o < n ∧ P o) ∨ P n := by
  constructor
  · rintro ⟨o, h1, h2⟩
    rcases Nat.lt_or_ge o n with h | h
    · exact Or.inl ⟨o, h, h2⟩
    · have : o = n := by omega
      subst this; exact Or.inr h2
  · rintro (⟨o, h1, h2⟩ | h)
    · exact ⟨o, by omega, h2⟩
    · exact ⟨n, by omega, h⟩
section
variable {b : UH} {fi : Nat → Nat → Nat → Int32} {fj : Nat → Nat → Nat → Int64} {ai : Nat → Nat → Int32} {aj : Nat → Nat → Int64} {ar : Nat → Nat → Option Nat} {bits : Nat} {lk : LK} {rb : RB} {x1 x2 : Int32} {p h : Nat}
theorem m_goOn (hs : mst b) (hN : NowP (ai 2) rb) (hK : LkP (ai 1) lk) (hbw : BW bits) (hL : LKW lk) (hW : RBW bits rb) (h1 : x1 = nI p) (hp : p < 24) (h2 : x2 = nI h) (hh : h < 2 ^ bits) : wp (fX12_goOn 0 x1 x2 (mk b fi fj ai aj ar)) (fun u => ∃ aj', u = mk b fi fj ai aj' ar ∧ (∀ a, a ≠ 5 → a ≠ 7 → aj' a = aj a) ∧ (∀ q, q < 24 → ∀ g, tb (aj' 5 q) g = true ↔ tb (aj 5 q) g = true ∨ Sp1 lk rb p h q g) ∧ ∀ q, q < 24 → ∀ g, tb (aj' 7 q) g = true ↔ tb (aj 7 q) g = true ∨ Dlv lk rb p h q g) := by
  have hb6 : p / 4 < 6 := by omega
  have h4 : p % 4 < 4 := Nat.mod_lt _ (by decide)
  have h32 := lt32 hbw hh
  have hl6 := (hW (p / 4) hb6).1
  unfold fX12_goOn
  refine wp_lt ?_
  rw [h1, show (4 : Int32) = nI 4 from rfl, dv (by omega) (by decide) (by decide), rm (by omega) (by decide) (by decide)]
  refine mE hs (m_handler hs hN hbw hW rfl hb6 rfl h4 h2 h32) ?_
  cases hhd : hd (rb (p / 4)) (p % 4) h with
  | none =>
    refine wp_f (by decide) (wp_some ⟨aj, rfl, fun _ _ _ => rfl, fun q _ g => ⟨Or.inl, fun H => ?_⟩, fun q _ g => ⟨Or.inl, fun H => ?_⟩⟩)
    · rcases H with H | ⟨o, ⟨_, i, r, e, _⟩, _⟩
      · exact H
      · rw [hhd] at e; cases e
    · rcases H with H | ⟨o, ⟨_, i, r, e, _⟩, _⟩
      · exact H
      · rw [hhd] at e; cases e
  | some i =>
    obtain ⟨r, hr, -⟩ := hd_some hhd
    have hi := hd_lt hhd
    have hrw := (hW (p / 4) hb6).2 r (List.mem_of_getElem? hr)
    have hg : rw5 r h < 2 ^ bits := rw5_lt hbw hrw hh
    have hg32 := lt32 hbw hg
    have hO : ∀ o g, Out rb p h o g ↔ o < 4 ∧ (r 3).testBit o = true ∧ g = rw5 r h := by
      intro o g
      constructor
      · rintro ⟨ho, i', r', e1, e2, e3, e4⟩
        rw [hhd] at e1; cases e1
        rw [hr] at e2; cases e2
        exact ⟨ho, e3, e4⟩
      · rintro ⟨ho, e3, e4⟩
        exact ⟨ho, i, r, hhd, hr, e3, e4⟩
    refine wp_t (nI_pos' (by omega)) (mE hs (m_rewritten hs hN hbw hW (i := i) rfl hb6 rfl hr h2 h32) (wp_lt ?_))
    refine wp_obw (Q := fun u => ∃ aj', u = mk b fi fj ai aj' ar ∧ (∀ a, a ≠ 5 → a ≠ 7 → aj' a = aj a) ∧ (∀ q, q < 24 → ∀ g, tb (aj' 5 q) g = true ↔ tb (aj 5 q) g = true ∨ Sp1 lk rb p h q g) ∧ ∀ q, q < 24 → ∀ g, tb (aj' 7 q) g = true ↔ tb (aj 7 q) g = true ∨ Dlv lk rb p h q g) ?_ (fun u hu => wp_some hu)
    refine it2_up1F (show (0 : Int32) = nI 0 from rfl) 4 (by decide) (fun n u => ∃ aj', u = mk b fi fj ai aj' ar ∧ (∀ a, a ≠ 5 → a ≠ 7 → aj' a = aj a) ∧ (∀ q, q < 24 → ∀ g, tb (aj' 5 q) g = true ↔ tb (aj 5 q) g = true ∨ ∃ o, o < n ∧ (r 3).testBit o = true ∧ g = rw5 r h ∧ lk (4 * (p / 4) + o) = some q) ∧ ∀ q, q < 24 → ∀ g, tb (aj' 7 q) g = true ↔ tb (aj 7 q) g = true ∨ ∃ o, o < n ∧ (r 3).testBit o = true ∧ g = rw5 r h ∧ q = 4 * (p / 4) + o ∧ lk q = none) (fun k n u hn hI hk => ?_) (Nat.zero_le _) ⟨aj, rfl, fun _ _ _ => rfl, fun q _ g => ⟨Or.inl, fun H => by rcases H with H | ⟨o, ho, _⟩; exact H; exact absurd ho (Nat.not_lt_zero _)⟩, fun q _ g => ⟨Or.inl, fun H => by rcases H with H | ⟨o, ho, _⟩; exact H; exact absurd ho (Nat.not_lt_zero _)⟩⟩
    obtain ⟨aj', rfl, g1, g2, g3⟩ := hI
    unfold fX12_goOn_B36
    refine wp_le (a := 4) rfl rfl (by decide) (by omega) (fun hc => wp_some ⟨aj', rfl, g1, fun q hq g => ?_, fun q hq g => ?_⟩) (fun hc => ?_)
    · rw [g2 q hq g]
      constructor
      · rintro (H | ⟨o, ho, e1, e2, e3⟩)
        · exact Or.inl H
        · exact Or.inr ⟨o, (hO o g).mpr ⟨by omega, e1, e2⟩, e3⟩
      · rintro (H | ⟨o, ho, e3⟩)
        · exact Or.inl H
        · obtain ⟨o4, e1, e2⟩ := (hO o g).mp ho
          exact Or.inr ⟨o, by omega, e1, e2, e3⟩
    · rw [g3 q hq g]
      constructor
      · rintro (H | ⟨o, ho, e1, e2, e3, e4⟩)
        · exact Or.inl H
        · exact Or.inr ⟨o, (hO o g).mpr ⟨by omega, e1, e2⟩, e3, e4⟩
      · rintro (H | ⟨o, ho, e3, e4⟩)
        · exact Or.inl H
        · obtain ⟨o4, e1, e2⟩ := (hO o g).mp ho
          exact Or.inr ⟨o, by omega, e1, e2, e3, e4⟩
    · refine mE hs (m_ofr (f := 3) hs hN hl6 rfl rfl rfl hb6 hr (by decide)) ?_
      have hr3 := hrw.2.2.2.2.2.1
      refine wp_bit1 rfl rfl (by omega) (by omega) (fun ht => ?_) (fun hf => ?_)
      · refine wp_lt ?_
        rw [pl1]
        refine mR hs rfl (mL hs rfl rfl (by decide) (i := 4 * (p / 4) + n) rfl (by omega) ?_)
        rw [hK _ (by omega)]
        cases hlk : lk (4 * (p / 4) + n) with
        | some q0 =>
          have hq0 := (hL _ _ hlk).2.1
          refine wp_t (nI_pos' (by omega)) (mR hs rfl (mR hs rfl (mL hs rfl rfl (by decide) (i := 4 * (p / 4) + n) rfl (by omega) ?_)))
          rw [hK _ (by omega), hlk]
          refine mLJ hs rfl rfl (by decide) (i := q0) rfl hq0 (mSJ hs rfl rfl (by decide) (i := q0) rfl hq0 (hk hc _ _ (nI_1 n) ⟨_, rfl, fun a h5 h7 => by rw [up2_a h5]; exact g1 a h5 h7, fun q hq g => ?_, fun q hq g => ?_⟩))
          · rw [ex_lt, up2_is]
            by_cases eq : q = q0
            · subst eq
              rw [if_pos rfl, tb_orT _ (by omega), g2 q hq g]
              constructor
              · rintro ((H | H) | H)
                · exact Or.inl H
                · exact Or.inr (Or.inl H)
                · exact Or.inr (Or.inr ⟨ht, H, hlk⟩)
              · rintro (H | H | H)
                · exact Or.inl (Or.inl H)
                · exact Or.inl (Or.inr H)
                · exact Or.inr H.2.1
            · rw [if_neg eq, g2 q hq g]
              constructor
              · rintro (H | H)
                · exact Or.inl H
                · exact Or.inr (Or.inl H)
              · rintro (H | H | H)
                · exact Or.inl H
                · exact Or.inr H
                · rw [hlk] at H; exact absurd (Option.some.inj H.2.2).symm eq
          · rw [ex_lt, up2_a (by decide), g3 q hq g]
            constructor
            · rintro (H | H)
              · exact Or.inl H
              · exact Or.inr (Or.inl H)
            · rintro (H | H | H)
              · exact Or.inl H
              · exact Or.inr H
              · rw [H.2.2.1, hlk] at H; exact absurd H.2.2.2 (by intro z; cases z)
        | none =>
          refine wp_f (by decide) (mR hs rfl (mLJ hs rfl rfl (by decide) (i := 4 * (p / 4) + n) rfl (by omega) (mSJ hs rfl rfl (by decide) (i := 4 * (p / 4) + n) rfl (by omega) (hk hc _ _ (nI_1 n) ⟨_, rfl, fun a h5 h7 => by rw [up2_a h7]; exact g1 a h5 h7, fun q hq g => ?_, fun q hq g => ?_⟩))))
          · rw [ex_lt, up2_a (by decide), g2 q hq g]
            constructor
            · rintro (H | H)
              · exact Or.inl H
              · exact Or.inr (Or.inl H)
            · rintro (H | H | H)
              · exact Or.inl H
              · exact Or.inr H
              · rw [hlk] at H; cases H.2.2
          · rw [ex_lt, up2_is]
            by_cases eq : q = 4 * (p / 4) + n
            · rw [if_pos eq, tb_orT _ (by omega), ← eq, g3 q hq g]
              constructor
              · rintro ((H | H) | H)
                · exact Or.inl H
                · exact Or.inr (Or.inl H)
                · exact Or.inr (Or.inr ⟨ht, H, rfl, by rw [eq]; exact hlk⟩)
              · rintro (H | H | H)
                · exact Or.inl (Or.inl H)
                · exact Or.inl (Or.inr H)
                · exact Or.inr H.2.1
            · rw [if_neg eq, g3 q hq g]
              constructor
              · rintro (H | H)
                · exact Or.inl H
                · exact Or.inr (Or.inl H)
              · rintro (H | H | H)
                · exact Or.inl H
                · exact Or.inr H
                · exact absurd H.2.2.1 eq
      · refine hk hc _ _ (nI_1 n) ⟨aj', rfl, g1, fun q hq g => ?_, fun q hq g => ?_⟩
        · rw [ex_lt, g2 q hq g]
          constructor
          · rintro (H | H)
            · exact Or.inl H
            · exact Or.inr (Or.inl H)
          · rintro (H | H | H)
            · exact Or.inl H
            · exact Or.inr H
            · rw [hf] at H; cases H.1
        · rw [ex_lt, g3 q hq g]
          constructor
          · rintro (H | H)
            · exact Or.inl H
            · exact Or.inr (Or.inl H)
          · rintro (H | H | H)
            · exact Or.inl H
            · exact Or.inr H
            · rw [hf] at H; cases H.1
/-- what holds while the reference spreads: D is what it still has to go on with -/
def SpI (lk : LK) (rb : RB) (S D : PS) (aj : Nat → Nat → Int64) : Prop :=
  (∀ p, p < 24 → ∀ h, tb (aj 5 p) h = true → Rc lk rb S p h) ∧ (∀ p h, S p h → tb (aj 5 p) h = true) ∧ (∀ p, p < 24 → ∀ h, tb (aj 6 p) h = true → tb (aj 5 p) h = true) ∧
  (∀ p, p < 24 → ∀ h, tb (aj 6 p) h = true → ¬ D p h → ∀ q g, Sp1 lk rb p h q g → tb (aj 5 q) g = true) ∧
  (∀ p, p < 24 → ∀ h, tb (aj 6 p) h = true → ¬ D p h → ∀ q g, Dlv lk rb p h q g → tb (aj 7 q) g = true) ∧
  (∀ q, q < 24 → ∀ g, tb (aj 7 q) g = true → ∃ p h, Rc lk rb S p h ∧ Dlv lk rb p h q g)
theorem m_spread_in {S : PS} (hs : mst b) (hb : fi 12 0 0 = nI bits) (hN : NowP (ai 2) rb) (hK : LkP (ai 1) lk) (hbw : BW bits) (hL : LKW lk) (hW : RBW bits rb) (h0 : RgS bits S) (h1 : x1 = nI p) (hp : p < 24) (y : Int64) (hI0 : SpI lk rb S (fun p' h => p' = p ∧ tb y h = true) aj) (hy : ∀ h, tb y h = true → Rc lk rb S p h) : wp (it2 (fX12_spread_B123 0 x1 y) FUEL 0 (mk b fi fj ai aj ar)) (fun u => ∃ aj', u = mk b fi fj ai aj' ar ∧ (∀ a, a ≠ 5 → a ≠ 7 → aj' a = aj a) ∧ (y = 0 → aj' = aj) ∧ SpI lk rb S (fun _ _ => False) aj') := by
  have hp2 := (pow_b hbw).2
  have hrg := Rc.rg hbw hL hW h0
  refine it2_up1F (show (0 : Int32) = nI 0 from rfl) (2 ^ bits) (by omega) (fun n u => ∃ aj', u = mk b fi fj ai aj' ar ∧ (∀ a, a ≠ 5 → a ≠ 7 → aj' a = aj a) ∧ (y = 0 → aj' = aj) ∧ SpI lk rb S (fun p' h => p' = p ∧ tb y h = true ∧ n ≤ h) aj') (fun k n u hn hI hk => ?_) (Nat.zero_le _) ⟨aj, rfl, fun _ _ _ => rfl, fun _ => rfl, ?_⟩
  · obtain ⟨aj', rfl, g1, g2, a1, a2, a3, a4, a5, a6⟩ := hI
    have drop : (∀ h, tb y h = true → h < n) → SpI lk rb S (fun _ _ => False) aj' := fun hd => ⟨a1, a2, a3, fun p' hp' h hh _ => a4 p' hp' h hh (fun z => by have := hd h z.2.1; omega), fun p' hp' h hh _ => a5 p' hp' h hh (fun z => by have := hd h z.2.1; omega), a6⟩
    unfold fX12_spread_B123
    refine mE hs (m_headers hs hb hbw) (wp_le rfl rfl (by omega) (by omega) (fun hc => wp_some ⟨aj', rfl, g1, g2, drop (fun h hh => ?_)⟩) (fun hc => ?_))
    · have := (hrg _ _ (hy h hh)).2
      omega
    · refine wp_if (fun hz => wp_some ⟨aj', rfl, g1, g2, drop (fun h hh => ?_)⟩) (fun hz => ?_)
      · rw [hz, tb_0] at hh; cases hh
      · refine wp_tb1 rfl (by omega) (fun ht => ?_) (fun hf => ?_)
        · refine mKw hs (m_goOn hs hN hK hbw hL hW h1 hp rfl hc) (fun u hu => ?_)
          obtain ⟨aj2, rfl, c1, c2, c3⟩ := hu
          refine hk hc _ _ (nI_1 n) ⟨aj2, rfl, fun a h5 h7 => by rw [c1 a h5 h7, g1 a h5 h7], fun hz' => absurd hz' hz, ?_, ?_, ?_, ?_, ?_, ?_⟩
          · intro p' hp' h hh
            rcases (c2 p' hp' h).mp hh with H | H
            · exact a1 p' hp' h H
            · exact (hy n ht).step H
          · intro p' h hS
            exact (c2 p' (h0 p' h hS).1 h).mpr (Or.inl (a2 p' h hS))
          · intro p' hp' h hh
            rw [c1 6 (by decide) (by decide)] at hh
            exact (c2 p' hp' h).mpr (Or.inl (a3 p' hp' h hh))
          · intro p' hp' h hh hD q g hS
            rw [c1 6 (by decide) (by decide)] at hh
            have hq := (Sp1.rg hbw hL hW hp' (hrg _ _ (a1 p' hp' h (a3 p' hp' h hh))).2 hS).1
            by_cases e : p' = p ∧ h = n
            · obtain ⟨rfl, rfl⟩ := e
              exact (c2 q hq g).mpr (Or.inr hS)
            · refine (c2 q hq g).mpr (Or.inl (a4 p' hp' h hh (fun z => ?_) q g hS))
              refine hD ⟨z.1, z.2.1, ?_⟩
              have : h ≠ n := fun e2 => e ⟨z.1, e2⟩
              omega
          · intro p' hp' h hh hD q g hS
            rw [c1 6 (by decide) (by decide)] at hh
            have hq := (Dlv.rg hbw hW hp' (hrg _ _ (a1 p' hp' h (a3 p' hp' h hh))).2 hS).1
            by_cases e : p' = p ∧ h = n
            · obtain ⟨rfl, rfl⟩ := e
              exact (c3 q hq g).mpr (Or.inr hS)
            · refine (c3 q hq g).mpr (Or.inl (a5 p' hp' h hh (fun z => ?_) q g hS))
              refine hD ⟨z.1, z.2.1, ?_⟩
              have : h ≠ n := fun e2 => e ⟨z.1, e2⟩
              omega
          · intro q hq g hh
            rcases (c3 q hq g).mp hh with H | H
            · exact a6 q hq g H
            · exact ⟨p, n, hy n ht, H⟩
        · have ne : ∀ p' h, ¬ (p' = p ∧ tb y h = true ∧ n + 1 ≤ h) → ¬ (p' = p ∧ tb y h = true ∧ n ≤ h) := fun p' h hD z => hD ⟨z.1, z.2.1, by
            have : h ≠ n := fun e => by rw [e, hf] at z; cases z.2.1
            omega⟩
          exact hk hc _ _ (nI_1 n) ⟨aj', rfl, g1, g2, a1, a2, a3, fun p' hp' h hh hD => a4 p' hp' h hh (ne p' h hD), fun p' hp' h hh hD => a5 p' hp' h hh (ne p' h hD), a6⟩
  · obtain ⟨a1, a2, a3, a4, a5, a6⟩ := hI0
    exact ⟨a1, a2, a3, fun p' hp' h hh hD => a4 p' hp' h hh (fun z => hD ⟨z.1, z.2, Nat.zero_le _⟩), fun p' hp' h hh hD => a5 p' hp' h hh (fun z => hD ⟨z.1, z.2, Nat.zero_le _⟩), a6⟩
theorem m_spread_pass {S : PS} (hs : mst b) (hb : fi 12 0 0 = nI bits) (hN : NowP (ai 2) rb) (hK : LkP (ai 1) lk) (hbw : BW bits) (hL : LKW lk) (hW : RBW bits rb) (h0 : RgS bits S) (hI0 : SpI lk rb S (fun _ _ => False) aj) : wp (it3 (fX12_spread_B61 0) FUEL 0 0 (mk b fi fj ai aj ar)) (fun q => ∃ aj', q.2 = mk b fi fj ai aj' ar ∧ (∀ a, a ≠ 5 → a ≠ 6 → a ≠ 7 → aj' a = aj a) ∧ SpI lk rb S (fun _ _ => False) aj' ∧ (q.1 = 0 → ∀ p, p < 24 → ∀ h, tb (aj' 5 p) h = true → tb (aj' 6 p) h = true) ∧ (q.1 ≠ 0 → cnt (aj 6) < cnt (aj' 6))) := by
  have hp2 := (pow_b hbw).2
  have hrg := Rc.rg hbw hL hW h0
  refine it3_up2F (show (0 : Int32) = nI 0 from rfl) 24 (by decide) (fun n z u => ∃ aj', u = mk b fi fj ai aj' ar ∧ (∀ a, a ≠ 5 → a ≠ 6 → a ≠ 7 → aj' a = aj a) ∧ SpI lk rb S (fun _ _ => False) aj' ∧ (z = 0 → ∀ p, p < n → ∀ h, tb (aj' 5 p) h = true → tb (aj' 6 p) h = true) ∧ cnt (aj 6) ≤ cnt (aj' 6) ∧ (z ≠ 0 → cnt (aj 6) < cnt (aj' 6))) (fun k n z u hn hI hk => ?_) (Nat.zero_le _) ⟨aj, rfl, fun _ _ _ _ => rfl, hI0, fun _ p hp => absurd hp (Nat.not_lt_zero _), Nat.le_refl _, fun h => absurd rfl h⟩
  obtain ⟨aj', rfl, g1, hI, g2, g3, g4⟩ := hI
  unfold fX12_spread_B61
  refine wp_le (a := 24) rfl rfl (by decide) (by omega) (fun hc => wp_some ⟨aj', rfl, g1, hI, fun hz p hp => g2 hz p (by omega), g4⟩) (fun hc => ?_)
  refine mR hs rfl (mLJ hs rfl rfl (by decide) rfl hc (mR hs rfl (mLJ hs rfl rfl (by decide) rfl hc (wp_lt (mR hs rfl (mLJ hs rfl rfl (by decide) rfl hc (mSJ hs rfl rfl (by decide) rfl hc ?_)))))))
  generalize hy : aj' 5 n &&& (aj' 6 n ^^^ -1) = y
  obtain ⟨a1, a2, a3, a4, a5, a6⟩ := hI
  have hyt : ∀ h, tb y h = true → tb (aj' 5 n) h = true ∧ tb (aj' 6 n) h = false ∧ h < 32 := by
    intro h hh
    have h64 := tb_lt64 hh
    rw [← hy, tb_and, tb_not _ h64, Bool.and_eq_true] at hh
    exact ⟨hh.1, by simpa using hh.2, lt32 hbw (hrg _ _ (a1 n hc h hh.1)).2⟩
  have h6 : ∀ p h, tb (up2 aj' 6 n (aj' 6 n ||| y) 6 p) h = true ↔ tb (aj' 6 p) h = true ∨ (p = n ∧ tb y h = true) := by
    intro p h
    rw [up2_is]
    by_cases e : p = n
    · subst e
      rw [if_pos rfl, tb_or, Bool.or_eq_true]
      exact ⟨fun H => H.elim Or.inl (fun z => Or.inr ⟨rfl, z⟩), fun H => H.elim Or.inl (fun z => Or.inr z.2)⟩
    · rw [if_neg e]
      exact ⟨Or.inl, fun H => H.elim id (fun z => absurd z.1 e)⟩
  have h5 : up2 aj' 6 n (aj' 6 n ||| y) 5 = aj' 5 := up2_a (by decide)
  have h7 : up2 aj' 6 n (aj' 6 n ||| y) 7 = aj' 7 := up2_a (by decide)
  have hS1 : SpI lk rb S (fun p' h => p' = n ∧ tb y h = true) (up2 aj' 6 n (aj' 6 n ||| y)) := by
    refine ⟨by rw [h5]; exact a1, by rw [h5]; exact a2, fun p hp h hh => ?_, fun p hp h hh hD q g hS => ?_, fun p hp h hh hD q g hS => ?_, by rw [h7]; exact a6⟩
    · rw [h5]
      rcases (h6 p h).mp hh with H | H
      · exact a3 p hp h H
      · rw [H.1]; exact (hyt h H.2).1
    · rw [h5]
      rcases (h6 p h).mp hh with H | H
      · exact a4 p hp h H (fun z => z) q g hS
      · exact absurd H hD
    · rw [h7]
      rcases (h6 p h).mp hh with H | H
      · exact a5 p hp h H (fun z => z) q g hS
      · exact absurd H hD
  have hmono : cnt (aj' 6) ≤ cnt (up2 aj' 6 n (aj' 6 n ||| y) 6) := cnt_mono (fun p hp i hi H => (h6 p i).mpr (Or.inl H))
  have hstr : y ≠ 0 → cnt (aj' 6) < cnt (up2 aj' 6 n (aj' 6 n ||| y) 6) := by
    intro hyz
    obtain ⟨i, hi, ht⟩ := tb_nz hyz
    obtain ⟨-, e2, e3⟩ := hyt i ht
    exact cnt_lt (fun p hp i hi H => (h6 p i).mpr (Or.inl H)) hc e3 e2 ((h6 n i).mpr (Or.inr ⟨rfl, ht⟩))
  have go : ∀ s0 : Int32, (s0 = 0 → z = 0 ∧ y = 0) → (s0 ≠ 0 → z ≠ 0 ∨ y ≠ 0) → wp (fX12_spread_118 k 0 (nI n) y s0 (mk b fi fj ai (up2 aj' 6 n (aj' 6 n ||| y)) ar)) (fun q => ∃ aj', q.2 = mk b fi fj ai aj' ar ∧ (∀ a, a ≠ 5 → a ≠ 6 → a ≠ 7 → aj' a = aj a) ∧ SpI lk rb S (fun _ _ => False) aj' ∧ (q.1 = 0 → ∀ p, p < 24 → ∀ h, tb (aj' 5 p) h = true → tb (aj' 6 p) h = true) ∧ (q.1 ≠ 0 → cnt (aj 6) < cnt (aj' 6))) := by
    intro s0 hs0 hs1
    unfold fX12_spread_118
    refine wp_obw (m_spread_in hs hb hN hK hbw hL hW h0 rfl hc y hS1 (fun h hh => a1 n hc h (hyt h hh).1)) (fun u hu => ?_)
    obtain ⟨aj2, rfl, c1, c2, c3⟩ := hu
    have e6 : aj2 6 = up2 aj' 6 n (aj' 6 n ||| y) 6 := c1 6 (by decide) (by decide)
    refine hk hc _ _ _ (nI_1 n) ⟨aj2, rfl, fun a ha5 ha6 ha7 => by rw [c1 a ha5 ha7, up2_a ha6, g1 a ha5 ha6 ha7], c3, fun hz p hp h hh => ?_, ?_, fun hz => ?_⟩
    · obtain ⟨z0, y0⟩ := hs0 hz
      have e2 := c2 y0
      rw [e2, h5] at hh
      rw [e2]
      rcases Nat.lt_or_ge p n with hlt | hge
      · exact (h6 p h).mpr (Or.inl (g2 z0 p hlt h hh))
      · have : p = n := by omega
        subst this
        refine (h6 p h).mpr (Or.inl ?_)
        have h64 := tb_lt64 hh
        cases hq : tb (aj' 6 p) h with
        | true => rfl
        | false =>
          have : tb y h = true := by rw [← hy, tb_and, tb_not _ h64, hh, hq]; rfl
          rw [y0, tb_0] at this; cases this
    · rw [e6]; omega
    · rw [e6]
      rcases hs1 hz with H | H
      · have := g4 H; omega
      · have := hstr H; omega
  refine wp_if (fun hz => wp_if (fun hy0 => go 0 (fun _ => ⟨hz, hy0⟩) (fun h => absurd rfl h)) (fun hy0 => ?_)) (fun hz => ?_)
  · unfold fX12_spread_113; exact go 1 (fun h => absurd h (by decide)) (fun _ => Or.inr hy0)
  · unfold fX12_spread_113; exact go 1 (fun h => absurd h (by decide)) (fun _ => Or.inl hz)
theorem m_spread {S : PS} (hs : mst b) (hb : fi 12 0 0 = nI bits) (hN : NowP (ai 2) rb) (hK : LkP (ai 1) lk) (hbw : BW bits) (hL : LKW lk) (hW : RBW bits rb) (h1 : x1 = nI p) (hp : p < 24) {s : Int64} (hsr : ∀ h, tb s h = true → h < 2 ^ bits) (hS : ∀ q g, S q g ↔ q = p ∧ tb s g = true) : wp (fX12_spread 0 x1 s (mk b fi fj ai aj ar)) (fun u => ∃ aj', u = mk b fi fj ai aj' ar ∧ (∀ a, a ≠ 5 → a ≠ 6 → a ≠ 7 → aj' a = aj a) ∧ (∀ q, q < 24 → ∀ g, tb (aj' 5 q) g = true ↔ Rc lk rb S q g) ∧ ∀ q, q < 24 → ∀ g, tb (aj' 7 q) g = true ↔ ∃ p' h, Rc lk rb S p' h ∧ Dlv lk rb p' h q g) := by
  have h0 : RgS bits S := fun q g h => ⟨by rw [((hS q g).mp h).1]; exact hp, hsr g ((hS q g).mp h).2⟩
  have hrg := Rc.rg hbw hL hW h0
  unfold fX12_spread
  refine wp_obw (Q := fun u => ∃ aj', u = mk b fi fj ai aj' ar ∧ (∀ a, a ≠ 5 → a ≠ 6 → a ≠ 7 → aj' a = aj a) ∧ ∀ q, q < 24 → aj' 5 q = 0 ∧ aj' 6 q = 0 ∧ aj' 7 q = 0) ?_ (fun u hu => ?_)
  · refine it2_up1F (show (0 : Int32) = nI 0 from rfl) 24 (by decide) (fun n u => ∃ aj', u = mk b fi fj ai aj' ar ∧ (∀ a, a ≠ 5 → a ≠ 6 → a ≠ 7 → aj' a = aj a) ∧ ∀ q, q < n → aj' 5 q = 0 ∧ aj' 6 q = 0 ∧ aj' 7 q = 0) (fun k n u hn hI hk => ?_) (Nat.zero_le _) ⟨aj, rfl, fun _ _ _ _ => rfl, fun q hq => absurd hq (Nat.not_lt_zero _)⟩
    obtain ⟨aj', rfl, g1, g2⟩ := hI
    unfold fX12_spread_B3
    refine wp_le (a := 24) rfl rfl (by decide) (by omega) (fun hc => wp_some ⟨aj', rfl, g1, fun q hq => g2 q (by omega)⟩) (fun hc => ?_)
    refine mR hs rfl (mSJ hs rfl rfl (by decide) rfl hc (mR hs rfl (mSJ hs rfl rfl (by decide) rfl hc (mR hs rfl (mSJ hs rfl rfl (by decide) rfl hc (hk hc _ _ (nI_1 n) ⟨_, rfl, fun a ha5 ha6 ha7 => by rw [up2_a ha7, up2_a ha6, up2_a ha5]; exact g1 a ha5 ha6 ha7, fun q hq => ?_⟩))))))
    rw [up2_a (a' := 5) (by decide), up2_a (a' := 5) (by decide), up2_is, up2_a (a' := 6) (by decide), up2_is, up2_a (a' := 6) (by decide), up2_is, up2_a (a' := 7) (by decide), up2_a (a' := 7) (by decide)]
    by_cases e : q = n
    · rw [if_pos e, if_pos e, if_pos e]; exact ⟨rfl, rfl, rfl⟩
    · rw [if_neg e, if_neg e, if_neg e]; exact g2 q (by omega)
  · obtain ⟨aj', rfl, g1, g2⟩ := hu
    refine mR hs rfl (mSJ hs rfl rfl (by decide) h1 hp ?_)
    have hI0 : SpI lk rb S (fun _ _ => False) (up2 aj' 5 p s) := by
      have e6 : up2 aj' 5 p s 6 = aj' 6 := up2_a (by decide)
      have e7 : up2 aj' 5 p s 7 = aj' 7 := up2_a (by decide)
      have e5 : ∀ q, q < 24 → ∀ h, tb (up2 aj' 5 p s 5 q) h = true → S q h := fun q hq h hh => by
        rw [up2_is] at hh
        by_cases e : q = p
        · rw [if_pos e] at hh; exact (hS q h).mpr ⟨e, hh⟩
        · rw [if_neg e, (g2 q hq).1, tb_0] at hh; cases hh
      refine ⟨fun q hq h hh => Rc.base (e5 q hq h hh), fun q h hh => ?_, fun q hq h hh => ?_, fun q hq h hh => ?_, fun q hq h hh => ?_, fun q hq h hh => ?_⟩
      · obtain ⟨e, e2⟩ := (hS q h).mp hh
        subst e; rw [up2_s]; exact e2
      · rw [e6, (g2 q hq).2.1, tb_0] at hh; cases hh
      · rw [e6, (g2 q hq).2.1, tb_0] at hh; cases hh
      · rw [e6, (g2 q hq).2.1, tb_0] at hh; cases hh
      · rw [e7, (g2 q hq).2.2, tb_0] at hh; cases hh
    refine wp_obw (Q := fun u => ∃ aj2, u = mk b fi fj ai aj2 ar ∧ (∀ a, a ≠ 5 → a ≠ 6 → a ≠ 7 → aj2 a = aj a) ∧ SpI lk rb S (fun _ _ => False) aj2 ∧ ∀ p, p < 24 → ∀ h, tb (aj2 5 p) h = true → tb (aj2 6 p) h = true) ?_ (fun u hu => wp_some ?_)
    · refine it2_rule (I := fun z u => ∃ aj2, u = mk b fi fj ai aj2 ar ∧ (∀ a, a ≠ 5 → a ≠ 6 → a ≠ 7 → aj2 a = aj a) ∧ SpI lk rb S (fun _ _ => False) aj2 ∧ (z = 0 → ∀ p, p < 24 → ∀ h, tb (aj2 5 p) h = true → tb (aj2 6 p) h = true)) (μ := fun z u => if z = 0 then 0 else 769 - cnt (uAJ u 6)) _ (fun k z u hI hk => ?_) _ _ _ ⟨_, rfl, fun a ha5 ha6 ha7 => by rw [up2_a ha5]; exact g1 a ha5 ha6 ha7, hI0, fun h => absurd h (by decide)⟩ (by show (if (1 : Int32) = 0 then 0 else _) < FUEL; rw [if_neg (by decide)]; unfold FUEL; omega)
      obtain ⟨aj2, rfl, c1, c2, c3⟩ := hI
      show wp (fX12_spread_B50 0 k z (mk b fi fj ai aj2 ar)) _
      unfold fX12_spread_B50
      refine wp_if (fun hz => wp_some ⟨aj2, rfl, c1, c2, c3 hz⟩) (fun hz => ?_)
      refine wp_obw (m_spread_pass hs hb hN hK hbw hL hW h0 c2) (fun q hq => ?_)
      obtain ⟨aj3, e1, d1, d2, d3, d4⟩ := hq
      rw [e1]
      refine hk _ _ ⟨aj3, rfl, fun a ha5 ha6 ha7 => by rw [d1 a ha5 ha6 ha7, c1 a ha5 ha6 ha7], d2, d3⟩ ?_
      show (if q.1 = 0 then 0 else 769 - cnt (aj3 6)) < if z = 0 then 0 else 769 - cnt (aj2 6)
      rw [if_neg hz]
      have b1 := cnt_le (aj2 6)
      have b2 := cnt_le (aj3 6)
      split
      · omega
      · rename_i hq
        have := d4 hq
        omega
    · obtain ⟨aj2, rfl, c1, ⟨a1, a2, a3, a4, a5, a6⟩, c3⟩ := hu
      have hcl : ∀ q g, Rc lk rb S q g → tb (aj2 5 q) g = true := by
        intro q g hq
        have : q < 24 ∧ tb (aj2 5 q) g = true := Rc.least (A := fun q g => q < 24 ∧ tb (aj2 5 q) g = true) (fun p' h hh => ⟨(h0 p' h hh).1, a2 p' h hh⟩) (fun p' h q g H hS => ⟨(Sp1.rg hbw hL hW H.1 (hrg _ _ (a1 p' H.1 h H.2)).2 hS).1, a4 p' H.1 h (c3 p' H.1 h H.2) (fun z => z) q g hS⟩) hq
        exact this.2
      refine ⟨aj2, rfl, c1, fun q hq g => ⟨a1 q hq g, hcl q g⟩, fun q hq g => ⟨a6 q hq g, ?_⟩⟩
      rintro ⟨p', h, H1, H2⟩
      have hp' := (hrg _ _ H1).1
      exact a5 p' hp' h (c3 p' hp' h (hcl p' h H1)) (fun z => z) q g H2
end
