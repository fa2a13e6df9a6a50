/-- what holds between two steps of the class's flow -/
def FlI (T : TS) (aj : Nat → Nat → Int64) : Prop :=
  (∀ p, p < 24 → ∀ h, tb (aj 46 p) h = true → h < 2 ^ tB T) ∧ (∀ p, p < 24 → ∀ h, tb (aj 47 p) h = true → tb (aj 46 p) h = true) ∧
  (∀ p, p < 24 → ∀ h, tb (aj 46 p) h = true → tb (aj 47 p) h = false → ∀ q g, Sp1 (tL T) (tR T) p h q g → tb (aj 46 q) g = true) ∧ ∀ q, q < 24 → aj 48 q = 0
section
variable {b : UH} {fi : Nat → Nat → Nat → Int32} {fj : Nat → Nat → Nat → Int64} {ai : Nat → Nat → Int32} {aj : Nat → Nat → Int64} {ar : Nat → Nat → Option Nat} {T : TS} {x1 x2 : Int32} {p h : Nat} {s : Int64}
theorem x_goOneLink (hs : xst b) (hW : WF T) (hP : XPic T b fi fj ai ar) (hF : FlI T aj) : wp (fX2_goOneLink 45 (mk b fi fj ai aj ar)) (fun q => ∃ aj', q.2 = mk b fi fj ai aj' ar ∧ (∀ a, a ≠ 46 → a ≠ 47 → a ≠ 48 → aj' a = aj a) ∧ FlI T aj' ∧ (∀ q, q < 24 → ∀ g, tb (aj' 46 q) g = true ↔ tb (aj 46 q) g = true ∨ ∃ p h, p < 24 ∧ tb (aj 46 p) h = true ∧ Sp1 (tL T) (tR T) p h q g) ∧ (q.1 = 0 ∨ q.1 = 1) ∧ (q.1 = 0 → ∀ q, q < 24 → aj' 47 q = 0) ∧ (q.1 ≠ 0 → cnt (aj 46) < cnt (aj' 46)) ∧ (q.1 = 0 → ∀ q, q < 24 → aj' 46 q = aj 46 q)) := by
  obtain ⟨f1, f2, f3, f4⟩ := hF
  have hbw := hW.1
  unfold fX2_goOneLink
  refine wp_obw (Q := fun u => ∃ aj', u = mk b fi fj ai aj' ar ∧ (∀ a, a ≠ 48 → aj' a = aj a) ∧ ∀ q, q < 24 → ∀ g, tb (aj' 48 q) g = true ↔ (tb (aj 46 q) g = false ∧ ∃ p, p < 24 ∧ ∃ h, tb (aj 47 p) h = true ∧ Sp1 (tL T) (tR T) p h q g)) ?_ (fun u hu => ?_)
  · refine it2_up1F (show (0 : Int32) = nI 0 from rfl) 24 (by decide) (fun n u => ∃ aj', u = mk b fi fj ai aj' ar ∧ (∀ a, a ≠ 48 → aj' a = aj a) ∧ ∀ q, q < 24 → ∀ g, tb (aj' 48 q) g = true ↔ (tb (aj 46 q) g = false ∧ ∃ p, p < n ∧ ∃ h, tb (aj 47 p) h = true ∧ Sp1 (tL T) (tR T) p h q g)) (fun k n u hn hI hk => ?_) (Nat.zero_le _) ⟨aj, rfl, fun _ _ => rfl, fun q hq g => ⟨fun H => (by rw [f4 q hq, tb_0] at H; cases H), fun ⟨_, p, hp, _⟩ => absurd hp (Nat.not_lt_zero _)⟩⟩
    obtain ⟨aj', rfl, g1, g2⟩ := hI
    unfold fX2_goOneLink_B2
    refine wp_le (a := 24) rfl rfl (by decide) (by omega) (fun hc => wp_some ?_) (fun hc => ?_)
    · have : n = 24 := by omega
      subst this; exact ⟨aj', rfl, g1, g2⟩
    · have e47 : aj' 47 = aj 47 := g1 47 (by decide)
      refine oR (hs.1 45 3 rfl) (hs.2.2 2 2 45 47 rfl) (oLJ (hs.1 47 21 rfl) (hs.2.1 47 24 rfl) rfl hc (by decide) ?_)
      rw [e47]
      refine wp_if (fun h0 => ?_) (fun h0 => ?_)
      · refine hk hc _ _ (nI_1 n) ⟨aj', rfl, g1, fun q hq g => ?_⟩
        rw [g2 q hq g, ex_lt]
        constructor
        · rintro ⟨H, H2⟩; exact ⟨H, Or.inl H2⟩
        · rintro ⟨H, H2 | ⟨h, H2, _⟩⟩
          · exact ⟨H, H2⟩
          · rw [h0, tb_0] at H2; cases H2
      · refine oR (hs.1 45 3 rfl) (hs.2.2 2 2 45 47 rfl) (oLJ (hs.1 47 21 rfl) (hs.2.1 47 24 rfl) rfl hc (by decide) ?_)
        rw [e47]
        refine oKw (hs.1 45 3 rfl) (x_handle hs hW hP rfl hc (fun i hi => ?_)) (fun u hu => ?_)
        · cases hq : tb (aj 47 n) i with
          | false => rfl
          | true =>
            have := lt32 hbw (f1 n hc i (f2 n hc i hq))
            omega
        · obtain ⟨aj2, rfl, c1, c2⟩ := hu
          refine hk hc _ _ (nI_1 n) ⟨aj2, rfl, fun a ha => by rw [c1 a ha, g1 a ha], fun q hq g => ?_⟩
          rw [c2 q hq g, g2 q hq g, ex_lt, g1 46 (by decide)]
          constructor
          · rintro (⟨H, H2⟩ | ⟨H, H2⟩)
            · exact ⟨H, Or.inl H2⟩
            · exact ⟨H, Or.inr H2⟩
          · rintro ⟨H, H2 | H2⟩
            · exact Or.inl ⟨H, H2⟩
            · exact Or.inr ⟨H, H2⟩
  · obtain ⟨aj1, rfl, c1, c2⟩ := hu
    have e46 : aj1 46 = aj 46 := c1 46 (by decide)
    refine wp_obw (Q := fun q => ∃ aj', q.2 = mk b fi fj ai aj' ar ∧ (∀ a, a ≠ 46 → a ≠ 47 → a ≠ 48 → aj' a = aj a) ∧ (∀ q, q < 24 → aj' 46 q = aj 46 q ||| aj1 48 q ∧ aj' 47 q = aj1 48 q ∧ aj' 48 q = 0) ∧ ((q.1 = 0 ∧ ∀ q, q < 24 → aj1 48 q = 0) ∨ (q.1 = 1 ∧ ∃ q, q < 24 ∧ aj1 48 q ≠ 0))) ?_ (fun q hq => ?_)
    · refine it3_up2F (show (0 : Int32) = nI 0 from rfl) 24 (by decide) (fun n z u => ∃ aj', u = mk b fi fj ai aj' ar ∧ (∀ a, a ≠ 46 → a ≠ 47 → a ≠ 48 → aj' a = aj a) ∧ (∀ q, q < n → aj' 46 q = aj 46 q ||| aj1 48 q ∧ aj' 47 q = aj1 48 q ∧ aj' 48 q = 0) ∧ (∀ q, n ≤ q → aj' 46 q = aj 46 q ∧ aj' 48 q = aj1 48 q) ∧ ((z = 0 ∧ ∀ q, q < n → aj1 48 q = 0) ∨ (z = 1 ∧ ∃ q, q < 24 ∧ aj1 48 q ≠ 0))) (fun k n z u hn hI hk => ?_) (Nat.zero_le _) ⟨aj1, rfl, fun a h6 h7 h8 => c1 a h8, fun q hq => absurd hq (Nat.not_lt_zero _), fun q _ => ⟨by rw [e46], rfl⟩, Or.inl ⟨rfl, fun q hq => absurd hq (Nat.not_lt_zero _)⟩⟩
      obtain ⟨aj', rfl, g1, g2, g3, g4⟩ := hI
      unfold fX2_goOneLink_B40
      refine wp_le (a := 24) rfl rfl (by decide) (by omega) (fun hc => wp_some ?_) (fun hc => ?_)
      · have : n = 24 := by omega
        subst this; exact ⟨aj', rfl, g1, g2, g4⟩
      · obtain ⟨d1, d2⟩ := g3 n (Nat.le_refl _)
        refine oR (hs.1 45 3 rfl) (hs.2.2 2 2 45 47 rfl) (oR (hs.1 45 3 rfl) (hs.2.2 2 3 45 48 rfl) (oLJ (hs.1 48 21 rfl) (hs.2.1 48 24 rfl) rfl hc (by decide) (oSJ (hs.1 47 21 rfl) (hs.2.1 47 24 rfl) rfl hc (by decide) (oR (hs.1 45 3 rfl) (hs.2.2 2 1 45 46 rfl) (oLJ (hs.1 46 21 rfl) (hs.2.1 46 24 rfl) rfl hc (by decide) (oR (hs.1 45 3 rfl) (hs.2.2 2 3 45 48 rfl) (oLJ (hs.1 48 21 rfl) (hs.2.1 48 24 rfl) rfl hc (by decide) (oSJ (hs.1 46 21 rfl) (hs.2.1 46 24 rfl) rfl hc (by decide) ?_))))))))
        rw [up2_a (a' := 46) (by decide), up2_a (a' := 48) (by decide), d1, d2]
        generalize hz2 : up2 (up2 aj' 47 n (aj1 48 n)) 46 n (aj 46 n ||| aj1 48 n) = aj2
        have z48 : aj2 48 = aj' 48 := by rw [← hz2, up2_a (by decide), up2_a (by decide)]
        have fin : ∀ z' : Int32, ((z' = 0 ∧ z = 0 ∧ aj1 48 n = 0) ∨ (z' = 1 ∧ (z = 1 ∨ aj1 48 n ≠ 0))) → ∃ aj', mk b fi fj ai (up2 aj2 48 n 0) ar = mk b fi fj ai aj' ar ∧ (∀ a, a ≠ 46 → a ≠ 47 → a ≠ 48 → aj' a = aj a) ∧ (∀ q, q < n + 1 → aj' 46 q = aj 46 q ||| aj1 48 q ∧ aj' 47 q = aj1 48 q ∧ aj' 48 q = 0) ∧ (∀ q, n + 1 ≤ q → aj' 46 q = aj 46 q ∧ aj' 48 q = aj1 48 q) ∧ ((z' = 0 ∧ ∀ q, q < n + 1 → aj1 48 q = 0) ∨ (z' = 1 ∧ ∃ q, q < 24 ∧ aj1 48 q ≠ 0)) := by
          intro z' hz'
          refine ⟨_, rfl, fun a h6 h7 h8 => by rw [up2_a h8, ← hz2, up2_a h6, up2_a h7]; exact g1 a h6 h7 h8, fun q hq => ?_, fun q hq => ?_, ?_⟩
          · rw [up2_a (a' := 46) (by decide), up2_a (a' := 47) (by decide), up2_is, ← hz2, up2_is, up2_a (a' := 46) (by decide), up2_a (a' := 47) (by decide), up2_is, up2_a (a' := 48) (by decide), up2_a (a' := 48) (by decide)]
            by_cases e : q = n
            · rw [if_pos e, if_pos e, if_pos e, e]; exact ⟨rfl, rfl, rfl⟩
            · rw [if_neg e, if_neg e, if_neg e]; exact g2 q (by omega)
          · have e : q ≠ n := by omega
            rw [up2_a (a' := 46) (by decide), up2_is, if_neg e, ← hz2, up2_is, if_neg e, up2_a (a' := 46) (by decide), up2_a (a' := 48) (by decide), up2_a (a' := 48) (by decide)]
            exact g3 q (by omega)
          · rcases hz' with ⟨e1, e2, e3⟩ | ⟨e1, e2⟩
            · refine Or.inl ⟨e1, fun q hq => ?_⟩
              rcases g4 with ⟨_, g4⟩ | ⟨g4, _⟩
              · by_cases e : q = n
                · rw [e]; exact e3
                · exact g4 q (by omega)
              · rw [e2] at g4; exact absurd g4 (by decide)
            · refine Or.inr ⟨e1, ?_⟩
              rcases e2 with e2 | e2
              · rcases g4 with ⟨g4, _⟩ | ⟨_, g4⟩
                · rw [e2] at g4; exact absurd g4 (by decide)
                · exact g4
              · exact ⟨n, hc, e2⟩
        have z01 : z = 0 ∨ z = 1 := by
          rcases g4 with ⟨g4, _⟩ | ⟨g4, _⟩
          · exact Or.inl g4
          · exact Or.inr g4
        refine wp_if (fun hz0 => ?_) (fun hz0 => ?_)
        · refine oR (hs.1 45 3 rfl) (hs.2.2 2 3 45 48 rfl) (oLJ (hs.1 48 21 rfl) (hs.2.1 48 24 rfl) rfl hc (by decide) ?_)
          rw [z48, d2]
          refine wp_if (fun h0 => ?_) (fun h0 => ?_)
          · exact oR (hs.1 45 3 rfl) (hs.2.2 2 3 45 48 rfl) (oSJ (hs.1 48 21 rfl) (hs.2.1 48 24 rfl) rfl hc (by decide) (hk hc _ _ _ (nI_1 n) (fin 0 (Or.inl ⟨rfl, hz0, h0⟩))))
          · exact oR (hs.1 45 3 rfl) (hs.2.2 2 3 45 48 rfl) (oSJ (hs.1 48 21 rfl) (hs.2.1 48 24 rfl) rfl hc (by decide) (hk hc _ _ _ (nI_1 n) (fin 1 (Or.inr ⟨rfl, Or.inr h0⟩))))
        · have hz1 : z = 1 := by
            rcases z01 with h | h
            · exact absurd h hz0
            · exact h
          exact oR (hs.1 45 3 rfl) (hs.2.2 2 3 45 48 rfl) (oSJ (hs.1 48 21 rfl) (hs.2.1 48 24 rfl) rfl hc (by decide) (hk hc _ _ _ (nI_1 n) (fin 1 (Or.inr ⟨rfl, Or.inl hz1⟩))))
    · obtain ⟨aj', e1, g1, g2, g3⟩ := hq
      rw [e1]
      have hA : ∀ q, q < 24 → ∀ g, tb (aj' 46 q) g = true ↔ tb (aj 46 q) g = true ∨ ∃ p h, p < 24 ∧ tb (aj 46 p) h = true ∧ Sp1 (tL T) (tR T) p h q g := by
        intro q hq g
        rw [(g2 q hq).1, tb_or, Bool.or_eq_true, c2 q hq g]
        constructor
        · rintro (H | ⟨_, p, hp, h, H1, H2⟩)
          · exact Or.inl H
          · exact Or.inr ⟨p, h, hp, f2 p hp h H1, H2⟩
        · rintro (H | ⟨p, h, hp, H1, H2⟩)
          · exact Or.inl H
          · cases hq2 : tb (aj 47 p) h with
            | false => exact Or.inl (f3 p hp h H1 hq2 q g H2)
            | true =>
              cases hq3 : tb (aj 46 q) g with
              | true => exact Or.inl rfl
              | false => exact Or.inr ⟨rfl, p, hp, h, hq2, H2⟩
      have hFr : ∀ q, q < 24 → ∀ g, tb (aj' 47 q) g = true ↔ (tb (aj 46 q) g = false ∧ ∃ p, p < 24 ∧ ∃ h, tb (aj 47 p) h = true ∧ Sp1 (tL T) (tR T) p h q g) := by
        intro q hq g
        rw [(g2 q hq).2.1, c2 q hq g]
      have z01 : q.1 = 0 ∨ q.1 = 1 := by
        rcases g3 with ⟨g4, _⟩ | ⟨g4, _⟩
        · exact Or.inl g4
        · exact Or.inr g4
      refine wp_bz z01 (wp_some ⟨aj', rfl, g1, ⟨fun p hp h H => ?_, fun p hp h H => ?_, fun p hp h H H2 q g hS => ?_, fun q hq => (g2 q hq).2.2⟩, hA, z01, fun hz q hq => ?_, fun hz => ?_, fun hz q hq => ?_⟩)
      · rcases (hA p hp h).mp H with H | ⟨p', h', hp', H1, H2⟩
        · exact f1 p hp h H
        · exact (Sp1.rg hbw hW.2.1 hW.2.2.1 hp' (f1 p' hp' h' H1) H2).2
      · obtain ⟨_, p', hp', h', H1, H2⟩ := (hFr p hp h).mp H
        exact (hA p hp h).mpr (Or.inr ⟨p', h', hp', f2 p' hp' h' H1, H2⟩)
      · have hr : h < 2 ^ tB T := by
          rcases (hA p hp h).mp H with H | ⟨p', h', hp', H1, H3⟩
          · exact f1 p hp h H
          · exact (Sp1.rg hbw hW.2.1 hW.2.2.1 hp' (f1 p' hp' h' H1) H3).2
        have hq := (Sp1.rg hbw hW.2.1 hW.2.2.1 hp hr hS).1
        refine (hA q hq g).mpr (Or.inr ⟨p, h, hp, ?_, hS⟩)
        cases hq3 : tb (aj 46 p) h with
        | true => rfl
        | false =>
          exfalso
          have : tb (aj' 47 p) h = true := by
            rw [(g2 p hp).1, tb_or, hq3, Bool.false_or] at H
            rw [(g2 p hp).2.1]; exact H
          rw [H2] at this; cases this
      · rcases g3 with ⟨_, g4⟩ | ⟨g4, _⟩
        · rw [(g2 q hq).2.1]; exact g4 q hq
        · dsimp only at hz; rw [hz] at g4; exact absurd g4 (by decide)
      · rcases g3 with ⟨g4, _⟩ | ⟨_, q0, hq0, g4⟩
        · exact absurd g4 hz
        · obtain ⟨i, hi, ht⟩ := tb_nz g4
          have h47 : tb (aj' 47 q0) i = true := by rw [(g2 q0 hq0).2.1]; exact ht
          obtain ⟨e2, p', hp', h', H1, H2⟩ := (hFr q0 hq0 i).mp h47
          have h46 : tb (aj' 46 q0) i = true := (hA q0 hq0 i).mpr (Or.inr ⟨p', h', hp', f2 p' hp' h' H1, H2⟩)
          exact cnt_lt (fun q hq j hj H => (hA q hq j).mpr (Or.inl H)) hq0 (lt32 hbw (Sp1.rg hbw hW.2.1 hW.2.2.1 hp' (f1 p' hp' h' (f2 p' hp' h' H1)) H2).2) e2 h46
      · rcases g3 with ⟨_, g4⟩ | ⟨g4, _⟩
        · rw [(g2 q hq).1, g4 q hq]
          exact tb_ext (fun i _ => by rw [tb_or, tb_0, Bool.or_false])
        · dsimp only at hz; rw [hz] at g4; exact absurd g4 (by decide)
theorem x_spread (hs : xst b) (hW : WF T) (hP : XPic T b fi fj ai ar) (hF : FlI T aj) {S : PS} (hS : ∀ q g, S q g ↔ q < 24 ∧ tb (aj 46 q) g = true) : wp (fX2_spread 45 (mk b fi fj ai aj ar)) (fun u => ∃ aj', u = mk b fi fj ai aj' ar ∧ (∀ a, a ≠ 46 → a ≠ 47 → a ≠ 48 → aj' a = aj a) ∧ FlI T aj' ∧ (∀ q, q < 24 → aj' 47 q = 0) ∧ ∀ q, q < 24 → ∀ g, tb (aj' 46 q) g = true ↔ Rc (tL T) (tR T) S q g) := by
  have hbw := hW.1
  unfold fX2_spread
  refine wp_obw (Q := fun u => ∃ aj', u = mk b fi fj ai aj' ar ∧ (∀ a, a ≠ 46 → a ≠ 47 → a ≠ 48 → aj' a = aj a) ∧ FlI T aj' ∧ (∀ q, q < 24 → aj' 47 q = 0) ∧ ∀ q, q < 24 → ∀ g, tb (aj' 46 q) g = true ↔ Rc (tL T) (tR T) S q g) ?_ (fun u hu => wp_some hu)
  refine it3_up2F (show (0 : Int32) = nI 0 from rfl) 769 (by decide) (fun n z u => ∃ aj', u = mk b fi fj ai aj' ar ∧ (∀ a, a ≠ 46 → a ≠ 47 → a ≠ 48 → aj' a = aj a) ∧ FlI T aj' ∧ (z = 0 → ∀ q, q < 24 → aj' 47 q = 0) ∧ (z ≠ 0 → n ≤ cnt (aj' 46)) ∧ (∀ q, q < 24 → ∀ g, tb (aj' 46 q) g = true → Rc (tL T) (tR T) S q g) ∧ ∀ q g, S q g → tb (aj' 46 q) g = true) (fun k n z u hn hI hk => ?_) (Nat.zero_le _) ⟨aj, rfl, fun _ _ _ _ => rfl, hF, fun h => absurd h (by decide), fun _ => Nat.zero_le _, fun q hq g H => Rc.base ((hS q g).mpr ⟨hq, H⟩), fun q g H => ((hS q g).mp H).2⟩
  obtain ⟨aj', rfl, g1, g2, g3, g4, g5, g6⟩ := hI
  unfold fX2_spread_B4
  refine wp_if (fun hz => wp_some ⟨aj', rfl, g1, g2, g3 hz, fun q hq g => ⟨g5 q hq g, fun H => ?_⟩⟩) (fun hz => ?_)
  · have : q < 24 ∧ tb (aj' 46 q) g = true := Rc.least (A := fun q g => q < 24 ∧ tb (aj' 46 q) g = true) (fun p h H => ⟨((hS p h).mp H).1, g6 p h H⟩) (fun p h q g H H2 => ⟨(Sp1.rg hbw hW.2.1 hW.2.2.1 H.1 (g2.1 p H.1 h H.2) H2).1, g2.2.2.1 p H.1 h H.2 (by rw [g3 hz p H.1, tb_0]) q g H2⟩) H
    exact this.2
  · have hcn := g4 hz
    have hcl := cnt_le (aj' 46)
    refine wp_f (show ¬ (768 : Int32) < nI n from nI_nlt (a := 768) (by omega) (by decide)) ?_
    refine oK2 (hs.1 45 3 rfl) (x_goOneLink hs hW hP g2) (fun z' u hq => ?_)
    obtain ⟨aj2, e1, c1, c2, c3, c4, c5, c6, _⟩ := hq
    dsimp only at e1 c4 c5 c6
    subst e1
    refine hk (by omega) _ _ _ (nI_1 n) ⟨aj2, rfl, fun a h6 h7 h8 => by rw [c1 a h6 h7 h8, g1 a h6 h7 h8], c2, c5, fun hz' => by have := c6 hz'; omega, fun q hq g H => ?_, fun q g H => ?_⟩
    · rcases (c3 q hq g).mp H with H | ⟨p, h, hp, H1, H2⟩
      · exact g5 q hq g H
      · exact (g5 p hp h H1).step H2
    · exact (c3 q ((hS q g).mp H).1 g).mpr (Or.inl (g6 q g H))
theorem x_forget (hs : xst b) : wp (fX2_forget 45 (mk b fi fj ai aj ar)) (fun u => ∃ aj', u = mk b fi fj ai aj' ar ∧ (∀ a, a ≠ 46 → a ≠ 47 → a ≠ 48 → aj' a = aj a) ∧ ∀ q, q < 24 → aj' 46 q = 0 ∧ aj' 47 q = 0 ∧ aj' 48 q = 0) := by
  unfold fX2_forget
  refine oR (hs.1 45 3 rfl) (hs.2.2 2 1 45 46 rfl) (wp_obe (j_fillJ (hs.1 46 21 rfl) (hs.2.1 46 24 rfl) (by decide) _) (oR (hs.1 45 3 rfl) (hs.2.2 2 2 45 47 rfl) (wp_obe (j_fillJ (hs.1 47 21 rfl) (hs.2.1 47 24 rfl) (by decide) _) (oR (hs.1 45 3 rfl) (hs.2.2 2 3 45 48 rfl) (wp_obe (j_fillJ (hs.1 48 21 rfl) (hs.2.1 48 24 rfl) (by decide) _) (wp_some ⟨_, rfl, fun a h6 h7 h8 => by rw [filA_a h8, filA_a h7, filA_a h6], fun q hq => ⟨?_, ?_, filA_i hq⟩⟩))))))
  · rw [filA_a (by decide), filA_a (by decide)]; exact filA_i hq
  · rw [filA_a (by decide)]; exact filA_i hq
theorem x_enter (hs : xst b) (h1 : x1 = nI p) (hp : p < 24) : fX2_enter 45 x1 s (mk b fi fj ai aj ar) = some (mk b fi fj ai (up2 (up2 aj 47 p (s &&& (aj 46 p ^^^ -1))) 46 p (aj 46 p ||| s)) ar) := by
  refine of_wp ?_
  unfold fX2_enter
  refine oR (hs.1 45 3 rfl) (hs.2.2 2 2 45 47 rfl) (oR (hs.1 45 3 rfl) (hs.2.2 2 1 45 46 rfl) (oLJ (hs.1 46 21 rfl) (hs.2.1 46 24 rfl) h1 hp (by decide) (oSJ (hs.1 47 21 rfl) (hs.2.1 47 24 rfl) h1 hp (by decide) (oR (hs.1 45 3 rfl) (hs.2.2 2 1 45 46 rfl) (oLJ (hs.1 46 21 rfl) (hs.2.1 46 24 rfl) h1 hp (by decide) (oSJ (hs.1 46 21 rfl) (hs.2.1 46 24 rfl) h1 hp (by decide) (wp_some ?_)))))))
  rw [up2_a (a' := 46) (by decide)]
/-- a set enters where all that arrived has gone on -/
theorem FlI.enter (hF : FlI T aj) (h47 : ∀ q, q < 24 → aj 47 q = 0) (hp : p < 24) (hsr : ∀ h, tb s h = true → h < 2 ^ tB T) : FlI T (up2 (up2 aj 47 p (s &&& (aj 46 p ^^^ -1))) 46 p (aj 46 p ||| s)) := by
  obtain ⟨f1, f2, f3, f4⟩ := hF
  generalize hz : up2 (up2 aj 47 p (s &&& (aj 46 p ^^^ -1))) 46 p (aj 46 p ||| s) = aj2
  have e46 : ∀ q h, tb (aj2 46 q) h = true ↔ tb (aj 46 q) h = true ∨ (q = p ∧ tb s h = true) := by
    intro q h
    rw [← hz, up2_is]
    by_cases e : q = p
    · rw [if_pos e, tb_or, Bool.or_eq_true, e]
      exact ⟨fun H => H.elim Or.inl (fun z => Or.inr ⟨rfl, z⟩), fun H => H.elim Or.inl (fun z => Or.inr z.2)⟩
    · rw [if_neg e, up2_a (by decide)]
      exact ⟨Or.inl, fun H => H.elim id (fun z => absurd z.1 e)⟩
  have e47 : ∀ q, q < 24 → ∀ h, tb (aj2 47 q) h = true ↔ (q = p ∧ tb s h = true ∧ tb (aj 46 p) h = false) := by
    intro q hq h
    rw [← hz, up2_a (by decide), up2_is]
    by_cases e : q = p
    · rw [if_pos e, tb_diff]
      exact ⟨fun H => ⟨e, H⟩, fun H => H.2⟩
    · rw [if_neg e, h47 q hq, tb_0]
      exact ⟨fun H => (by cases H), fun H => absurd H.1 e⟩
  refine ⟨fun q hq h H => ?_, fun q hq h H => ?_, fun q hq h H H2 q' g hS => ?_, fun q hq => by rw [← hz, up2_a (by decide), up2_a (by decide)]; exact f4 q hq⟩
  · rcases (e46 q h).mp H with H | H
    · exact f1 q hq h H
    · exact hsr h H.2
  · have := (e47 q hq h).mp H
    exact (e46 q h).mpr (Or.inr ⟨this.1, this.2.1⟩)
  · refine (e46 q' g).mpr (Or.inl ?_)
    have H46 : tb (aj 46 q) h = true := by
      rcases (e46 q h).mp H with H | H
      · exact H
      · cases hq3 : tb (aj 46 q) h with
        | true => rfl
        | false =>
          exfalso
          have : tb (aj2 47 q) h = true := (e47 q hq h).mpr ⟨H.1, H.2, by rw [← H.1]; exact hq3⟩
          rw [H2] at this; cases this
    exact f3 q hq h H46 (by rw [h47 q hq, tb_0]) q' g hS
theorem FlI.zero (h : ∀ q, q < 24 → aj 46 q = 0 ∧ aj 47 q = 0 ∧ aj 48 q = 0) : FlI T aj := ⟨fun p hp h' H => (by rw [(h p hp).1, tb_0] at H; cases H), fun p hp h' H => (by rw [(h p hp).2.1, tb_0] at H; cases H), fun p hp h' H => (by rw [(h p hp).1, tb_0] at H; cases H), fun q hq => (h q hq).2.2⟩
theorem x_spreadFrom (hs : xst b) (hW : WF T) (hP : XPic T b fi fj ai ar) (h1 : x1 = nI p) (hp : p < 24) (hsr : ∀ h, tb s h = true → h < 2 ^ tB T) {S : PS} (hS : ∀ q g, S q g ↔ q = p ∧ tb s g = true) : wp (fX2_spreadFrom 45 x1 s (mk b fi fj ai aj ar)) (fun u => ∃ aj', u = mk b fi fj ai aj' ar ∧ ∀ q, q < 24 → ∀ g, tb (aj' 46 q) g = true ↔ Rc (tL T) (tR T) S q g) := by
  unfold fX2_spreadFrom
  refine oKw (hs.1 45 3 rfl) (x_forget hs) (fun u hu => ?_)
  obtain ⟨aj1, rfl, g1, g2⟩ := hu
  refine oE (hs.1 45 3 rfl) (x_enter hs h1 hp) ?_
  refine oKw (hs.1 45 3 rfl) (x_spread hs hW hP ((FlI.zero g2).enter (fun q hq => (g2 q hq).2.1) hp hsr) (S := S) (fun q g => ?_)) (fun u hu => ?_)
  · rw [hS q g, up2_is]
    by_cases e : q = p
    · rw [if_pos e, (g2 p hp).1, tb_or, tb_0, Bool.false_or]
      exact ⟨fun H => ⟨by omega, H.2⟩, fun H => ⟨e, H.2⟩⟩
    · rw [if_neg e, up2_a (by decide)]
      constructor
      · exact fun H => absurd H.1 e
      · rintro ⟨H1, H2⟩; rw [(g2 q H1).1, tb_0] at H2; cases H2
  · obtain ⟨aj2, rfl, _, _, _, c4⟩ := hu
    exact wp_some ⟨aj2, rfl, c4⟩
end
