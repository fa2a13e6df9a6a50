/-- all that is within n links is gone on from within n + 1: nothing new then means nothing new ever -/
theorem Wn_stop {lk : LK} {rb : RB} {S : PS} {n : Nat} (h : ∀ q g, Wn lk rb S (n + 1) q g → Wn lk rb S n q g) {q g : Nat} (hr : Rc lk rb S q g) : Wn lk rb S n q g := Rc.least (A := Wn lk rb S n) (fun p h hS => Wn.mono (Nat.zero_le n) (show Wn lk rb S 0 p h from hS)) (fun p h' q g h1 h2 => h q g (Or.inr ⟨p, h', h1, h2⟩)) hr
section
variable {b : UH} {fi : Nat → Nat → Nat → Int32} {fj : Nat → Nat → Nat → Int64} {ai : Nat → Nat → Int32} {aj : Nat → Nat → Int64} {ar : Nat → Nat → Option Nat} {T : TS} {x1 x2 x3 x4 : Int32} {i j p t h0 : Nat} {s : Int64}
theorem x_leastLinks (hs : xst b) (hW : WF T) (hP : XPic T b fi fj ai ar) (hp : p < 24) (ht : t < 2 ^ tB T) (h2 : x2 = nI t) : wp (fX2_leastLinks 45 (fi 11 10 0) x2 (nI p) (mk b fi fj ai aj ar)) (fun q => Lst (fun n => ∃ g, Wn (tL T) (tR T) (Sg (tI T).1 t) n p g) q.1 ∧ ∃ aj', q.2 = mk b fi fj ai aj' ar) := by
  have hp2 := (pow_b hW.1).2
  have h24 : (tI T).1 < 24 := hW.2.2.2.2.1.1
  have hen : fi 11 10 0 = nI (tI T).1 := hP.2.2.2.2.2.2.1.1
  rw [hen]
  unfold fX2_leastLinks
  refine oKw (hs.1 45 3 rfl) (x_forget hs) (fun u hu => ?_)
  obtain ⟨aj1, rfl, _, g2⟩ := hu
  rw [h2]
  refine oE (hs.1 45 3 rfl) (x_enter hs rfl h24) ?_
  have hF0 := (FlI.zero (T := T) g2).enter (s := jlsl 1 (nI t)) (fun q hq => (g2 q hq).2.1) h24 (fun h hh => by rw [(tb_sg (by omega) h).mp hh]; exact ht)
  generalize hz0 : up2 (up2 aj1 47 (tI T).1 (jlsl 1 (nI t) &&& (aj1 46 (tI T).1 ^^^ -1))) 46 (tI T).1 (aj1 46 (tI T).1 ||| jlsl 1 (nI t)) = aj2 at hF0
  have hA0 : ∀ q, q < 24 → ∀ g, tb (aj2 46 q) g = true ↔ Wn (tL T) (tR T) (Sg (tI T).1 t) 0 q g := by
    intro q hq g
    show _ ↔ Sg (tI T).1 t q g
    unfold Sg
    rw [← hz0, up2_is]
    by_cases e : q = (tI T).1
    · rw [if_pos e, tb_orT _ (by omega), (g2 _ h24).1, tb_0]
      exact ⟨fun H => ⟨e, H.elim (fun z => by cases z) id⟩, fun H => Or.inr H.2⟩
    · rw [if_neg e, up2_a (by decide), (g2 q hq).1, tb_0]
      exact ⟨fun H => (by cases H), fun H => absurd H.1 e⟩
  refine wp_oew (Q := fun q => match q with | .inl u => False | .inr q => Lst (fun n => ∃ g, Wn (tL T) (tR T) (Sg (tI T).1 t) n p g) q.1 ∧ ∃ aj', q.2 = mk b fi fj ai aj' ar) ?_ (fun u hu => False.elim hu) (fun q hq => wp_some hq)
  refine it2_up1F (show (0 : Int32) = nI 0 from rfl) 769 (by decide) (fun n u => (∀ k, k < n → ¬ ∃ g, Wn (tL T) (tR T) (Sg (tI T).1 t) k p g) ∧ ∃ aj', u = mk b fi fj ai aj' ar ∧ FlI T aj' ∧ n ≤ cnt (aj' 46) ∧ ∀ q, q < 24 → ∀ g, tb (aj' 46 q) g = true ↔ Wn (tL T) (tR T) (Sg (tI T).1 t) n q g) (fun k n u hn hI hk => ?_) (Nat.zero_le _) ⟨fun k hk => absurd hk (Nat.not_lt_zero _), aj2, rfl, hF0, Nat.zero_le _, hA0⟩
  obtain ⟨hI, aj', rfl, d1, d2, d3⟩ := hI
  have hcl := cnt_le (aj' 46)
  unfold fX2_leastLinks_B15
  refine wp_f (show ¬ (768 : Int32) < nI n from nI_nlt (a := 768) (by omega) (by decide)) ?_
  refine oR (hs.1 45 3 rfl) (hs.2.2 2 1 45 46 rfl) (oLJ (hs.1 46 21 rfl) (hs.2.1 46 24 rfl) rfl hp (by decide) ?_)
  refine wp_if (fun hz => ?_) (fun hz => ?_)
  · have hno : ¬ ∃ g, Wn (tL T) (tR T) (Sg (tI T).1 t) n p g := by
      rintro ⟨g, hg⟩
      have := (d3 p hp g).mpr hg
      rw [hz, tb_0] at this; cases this
    have nxt : ∀ k, k < n + 1 → ¬ ∃ g, Wn (tL T) (tR T) (Sg (tI T).1 t) k p g := by
      intro k hk
      rcases Nat.lt_or_ge k n with h | h
      · exact hI k h
      · have : k = n := by omega
        subst this; exact hno
    refine oK2 (hs.1 45 3 rfl) (x_goOneLink hs hW hP d1) (fun z u hq => ?_)
    obtain ⟨aj3, e1, c1, c2, c3, c4, c5, c6, c7⟩ := hq
    dsimp only at e1 c4 c5 c6 c7
    subst e1
    have hA1 : ∀ q, q < 24 → ∀ g, tb (aj3 46 q) g = true ↔ Wn (tL T) (tR T) (Sg (tI T).1 t) (n + 1) q g := by
      intro q hq g
      rw [c3 q hq g, d3 q hq g]
      constructor
      · rintro (H | ⟨p', h', hp', H1, H2⟩)
        · exact Or.inl H
        · exact Or.inr ⟨p', h', (d3 p' hp' h').mp H1, H2⟩
      · rintro (H | ⟨p', h', H1, H2⟩)
        · exact Or.inl H
        · have hr := Wn.rg hW.1 hW.2.1 hW.2.2.1 (S := Sg (tI T).1 t) (fun q g e => ⟨by rw [e.1]; exact h24, by rw [e.2]; exact ht⟩) n p' h' H1
          exact Or.inr ⟨p', h', hr.1, (d3 p' hr.1 h').mpr H1, H2⟩
    refine wp_if (fun hz0 => ?_) (fun hz0 => ?_)
    · refine wp_some ⟨Or.inr ⟨rfl, fun k hk => hno ?_⟩, aj3, rfl⟩
      obtain ⟨g, hg⟩ := hk
      refine ⟨g, Wn_stop (fun q g H => ?_) ⟨k, hg⟩⟩
      have hr := Wn.rg hW.1 hW.2.1 hW.2.2.1 (S := Sg (tI T).1 t) (fun q g e => ⟨by rw [e.1]; exact h24, by rw [e.2]; exact ht⟩) (n + 1) q g H
      have := (hA1 q hr.1 g).mpr H
      rw [c7 hz0 q hr.1] at this
      exact (d3 q hr.1 g).mp this
    · exact hk (by omega) _ _ (nI_1 n) ⟨nxt, aj3, rfl, c2, by have := c6 hz0; omega, hA1⟩
  · obtain ⟨g, hg, ht2⟩ := tb_nz hz
    exact wp_some ⟨Or.inl ⟨n, by omega, rfl, ⟨g, (d3 p hp g).mp ht2⟩, hI⟩, aj', rfl⟩
theorem m_dist_B193 {bits : Nat} {lk : LK} {rb : RB} (hs : mst b) (hb : fi 12 0 0 = nI bits) (hN : NowP (ai 2) rb) (hK : LkP (ai 1) lk) (hbw : BW bits) (hL : LKW lk) (hW : RBW bits rb) (hp : p < 24) : wp (it2 (fX12_distance_B193 0 (nI p)) FUEL 0 (mk b fi fj ai aj ar)) (fun u => ∃ aj', u = mk b fi fj ai aj' ar ∧ (∀ a, a ≠ 5 → a ≠ 7 → aj' a = aj a) ∧ ∀ q, q < 24 → ∀ g, tb (aj' 5 q) g = true ↔ tb (aj 5 q) g = true ∨ ∃ h, h < 2 ^ bits ∧ tb (aj 8 p) h = true ∧ Sp1 lk rb p h q g) := by
  have hp2 := (pow_b hbw).2
  refine it2_up1F (show (0 : Int32) = nI 0 from rfl) (2 ^ bits) (by omega) (fun n u => ∃ aj', u = mk b fi fj ai aj' ar ∧ (∀ a, a ≠ 5 → a ≠ 7 → aj' a = aj a) ∧ ∀ q, q < 24 → ∀ g, tb (aj' 5 q) g = true ↔ tb (aj 5 q) g = true ∨ ∃ h, h < n ∧ tb (aj 8 p) h = true ∧ Sp1 lk rb p h q g) (fun k n u hn hI hk => ?_) (Nat.zero_le _) ⟨aj, rfl, fun _ _ _ => rfl, fun q _ g => ⟨Or.inl, fun H => by rcases H with H | ⟨o, ho, _⟩; exact H; exact absurd ho (Nat.not_lt_zero _)⟩⟩
  obtain ⟨aj', rfl, g1, g2⟩ := hI
  unfold fX12_distance_B193
  refine mE hs (m_headers hs hb hbw) (wp_le rfl rfl (by omega) (by omega) (fun hc => wp_some ?_) (fun hc => ?_))
  · have : n = 2 ^ bits := by omega
    subst this; exact ⟨aj', rfl, g1, g2⟩
  · refine mR hs rfl (mLJ hs rfl rfl (by decide) rfl hp ?_)
    rw [g1 8 (by decide) (by decide)]
    refine wp_tb1 rfl (by omega) (fun ht => ?_) (fun hf => ?_)
    · refine mKw hs (m_goOn hs hN hK hbw hL hW rfl hp rfl hc) (fun u hu => ?_)
      obtain ⟨aj2, rfl, c1, c2, _⟩ := hu
      refine hk hc _ _ (nI_1 n) ⟨aj2, rfl, fun a h5 h7 => by rw [c1 a h5 h7, g1 a h5 h7], fun q hq g => ?_⟩
      rw [c2 q hq g, g2 q hq g, ex_lt]
      constructor
      · rintro ((H | H) | H)
        · exact Or.inl H
        · exact Or.inr (Or.inl H)
        · exact Or.inr (Or.inr ⟨ht, H⟩)
      · rintro (H | H | H)
        · exact Or.inl (Or.inl H)
        · exact Or.inl (Or.inr H)
        · exact Or.inr H.2
    · refine hk hc _ _ (nI_1 n) ⟨aj', rfl, g1, fun q hq g => ?_⟩
      rw [g2 q hq g, ex_lt]
      constructor
      · rintro (H | H)
        · exact Or.inl H
        · exact Or.inr (Or.inl H)
      · rintro (H | H | H)
        · exact Or.inl H
        · exact Or.inr H
        · rw [hf] at H; cases H.1
theorem m_dist_B183 {bits : Nat} {lk : LK} {rb : RB} (hs : mst b) (hb : fi 12 0 0 = nI bits) (hN : NowP (ai 2) rb) (hK : LkP (ai 1) lk) (hbw : BW bits) (hL : LKW lk) (hW : RBW bits rb) : wp (it2 (fX12_distance_B183 0) FUEL 0 (mk b fi fj ai aj ar)) (fun u => ∃ aj', u = mk b fi fj ai aj' ar ∧ (∀ a, a ≠ 5 → a ≠ 7 → aj' a = aj a) ∧ ∀ q, q < 24 → ∀ g, tb (aj' 5 q) g = true ↔ tb (aj 5 q) g = true ∨ ∃ p, p < 24 ∧ ∃ h, h < 2 ^ bits ∧ tb (aj 8 p) h = true ∧ Sp1 lk rb p h q g) := by
  refine it2_up1F (show (0 : Int32) = nI 0 from rfl) 24 (by decide) (fun n u => ∃ aj', u = mk b fi fj ai aj' ar ∧ (∀ a, a ≠ 5 → a ≠ 7 → aj' a = aj a) ∧ ∀ q, q < 24 → ∀ g, tb (aj' 5 q) g = true ↔ tb (aj 5 q) g = true ∨ ∃ p, p < n ∧ ∃ h, h < 2 ^ bits ∧ tb (aj 8 p) h = true ∧ Sp1 lk rb p h q g) (fun k n u hn hI hk => ?_) (Nat.zero_le _) ⟨aj, rfl, fun _ _ _ => rfl, fun q _ g => ⟨Or.inl, fun H => by rcases H with H | ⟨o, ho, _⟩; exact H; exact absurd ho (Nat.not_lt_zero _)⟩⟩
  obtain ⟨aj', rfl, g1, g2⟩ := hI
  unfold fX12_distance_B183
  refine wp_le (a := 24) rfl rfl (by decide) (by omega) (fun hc => wp_some ?_) (fun hc => ?_)
  · have : n = 24 := by omega
    subst this; exact ⟨aj', rfl, g1, g2⟩
  · refine wp_obw (m_dist_B193 hs hb hN hK hbw hL hW hc) (fun u hu => ?_)
    obtain ⟨aj2, rfl, c1, c2⟩ := hu
    refine hk hc _ _ (nI_1 n) ⟨aj2, rfl, fun a h5 h7 => by rw [c1 a h5 h7, g1 a h5 h7], fun q hq g => ?_⟩
    rw [c2 q hq g, g2 q hq g, ex_lt, g1 8 (by decide) (by decide)]
    constructor
    · rintro ((H | H) | H)
      · exact Or.inl H
      · exact Or.inr (Or.inl H)
      · exact Or.inr (Or.inr H)
    · rintro (H | H | H)
      · exact Or.inl (Or.inl H)
      · exact Or.inl (Or.inr H)
      · exact Or.inr H
theorem m_dist_B100 (hs : mst b) : wp (it3 (fX12_distance_B100 0) FUEL 0 0 (mk b fi fj ai aj ar)) (fun q => ∃ aj', q.2 = mk b fi fj ai aj' ar ∧ (∀ a, a ≠ 6 → a ≠ 8 → aj' a = aj a) ∧ (∀ q, q < 24 → aj' 8 q = aj 5 q &&& (aj 6 q ^^^ -1) ∧ aj' 6 q = aj 6 q ||| (aj 5 q &&& (aj 6 q ^^^ -1))) ∧ ((q.1 = 0 ∧ ∀ q, q < 24 → aj 5 q &&& (aj 6 q ^^^ -1) = 0) ∨ (q.1 = 1 ∧ ∃ q, q < 24 ∧ aj 5 q &&& (aj 6 q ^^^ -1) ≠ 0))) := by
  refine it3_up2F (show (0 : Int32) = nI 0 from rfl) 24 (by decide) (fun n z u => ∃ aj', u = mk b fi fj ai aj' ar ∧ (∀ a, a ≠ 6 → a ≠ 8 → aj' a = aj a) ∧ (∀ q, q < n → aj' 8 q = aj 5 q &&& (aj 6 q ^^^ -1) ∧ aj' 6 q = aj 6 q ||| (aj 5 q &&& (aj 6 q ^^^ -1))) ∧ (∀ q, n ≤ q → aj' 6 q = aj 6 q) ∧ ((z = 0 ∧ ∀ q, q < n → aj 5 q &&& (aj 6 q ^^^ -1) = 0) ∨ (z = 1 ∧ ∃ q, q < 24 ∧ aj 5 q &&& (aj 6 q ^^^ -1) ≠ 0))) (fun k n z u hn hI hk => ?_) (Nat.zero_le _) ⟨aj, rfl, fun _ _ _ => rfl, fun q hq => absurd hq (Nat.not_lt_zero _), fun _ _ => rfl, Or.inl ⟨rfl, fun q hq => absurd hq (Nat.not_lt_zero _)⟩⟩
  obtain ⟨aj', rfl, g1, g2, g3, g4⟩ := hI
  unfold fX12_distance_B100
  refine wp_le (a := 24) rfl rfl (by decide) (by omega) (fun hc => wp_some ?_) (fun hc => ?_)
  · have : n = 24 := by omega
    subst this; exact ⟨aj', rfl, g1, g2, g4⟩
  · refine mR hs rfl (mR hs rfl (mLJ hs rfl rfl (by decide) rfl hc (mR hs rfl (mLJ hs rfl rfl (by decide) rfl hc (mSJ hs rfl rfl (by decide) rfl hc (mR hs rfl (mLJ hs rfl rfl (by decide) rfl hc (mR hs rfl (mLJ hs rfl rfl (by decide) rfl hc (mSJ hs rfl rfl (by decide) rfl hc ?_))))))))))
    rw [g1 5 (by decide) (by decide), g3 n (Nat.le_refl _), up2_s, up2_a (a' := 6) (by decide), g3 n (Nat.le_refl _)]
    generalize hy : aj 5 n &&& (aj 6 n ^^^ -1) = y
    have fin : ∀ z' : Int32, ((z' = 0 ∧ z = 0 ∧ y = 0) ∨ (z' = 1 ∧ (z = 1 ∨ y ≠ 0))) → ∃ aj'', mk b fi fj ai (up2 (up2 aj' 8 n y) 6 n (aj 6 n ||| y)) ar = mk b fi fj ai aj'' ar ∧ (∀ a, a ≠ 6 → a ≠ 8 → aj'' a = aj a) ∧ (∀ q, q < n + 1 → aj'' 8 q = aj 5 q &&& (aj 6 q ^^^ -1) ∧ aj'' 6 q = aj 6 q ||| (aj 5 q &&& (aj 6 q ^^^ -1))) ∧ (∀ q, n + 1 ≤ q → aj'' 6 q = aj 6 q) ∧ ((z' = 0 ∧ ∀ q, q < n + 1 → aj 5 q &&& (aj 6 q ^^^ -1) = 0) ∨ (z' = 1 ∧ ∃ q, q < 24 ∧ aj 5 q &&& (aj 6 q ^^^ -1) ≠ 0)) := by
      intro z' hz'
      refine ⟨_, rfl, fun a h6 h8 => by rw [up2_a h6, up2_a h8]; exact g1 a h6 h8, fun q hq => ?_, fun q hq => ?_, ?_⟩
      · rw [up2_a (a' := 8) (by decide), up2_is, up2_is, up2_a (a' := 6) (by decide)]
        by_cases e : q = n
        · rw [if_pos e, if_pos e, e, hy]; exact ⟨rfl, rfl⟩
        · rw [if_neg e, if_neg e]; exact g2 q (by omega)
      · rw [up2_is, if_neg (by omega), up2_a (by decide)]; exact g3 q (by omega)
      · rcases hz' with ⟨e1, e2, e3⟩ | ⟨e1, e2⟩
        · refine Or.inl ⟨e1, fun q hq => ?_⟩
          rcases g4 with ⟨_, g4⟩ | ⟨g4, _⟩
          · by_cases e : q = n
            · rw [e, hy]; exact e3
            · exact g4 q (by omega)
          · rw [e2] at g4; exact absurd g4 (by decide)
        · refine Or.inr ⟨e1, ?_⟩
          rcases e2 with e2 | e2
          · rcases g4 with ⟨g4, _⟩ | ⟨_, g4⟩
            · rw [e2] at g4; exact absurd g4 (by decide)
            · exact g4
          · exact ⟨n, hc, by rw [hy]; exact e2⟩
    refine wp_if (fun hz0 => ?_) (fun hz0 => ?_)
    · refine mR hs rfl (mLJ hs rfl rfl (by decide) rfl hc ?_)
      rw [up2_a (a' := 8) (by decide), up2_s]
      refine wp_if (fun h0 => ?_) (fun h0 => ?_)
      · exact hk hc _ _ _ (nI_1 n) (fin 0 (Or.inl ⟨rfl, hz0, h0⟩))
      · exact hk hc _ _ _ (nI_1 n) (fin 1 (Or.inr ⟨rfl, Or.inr h0⟩))
    · have hz1 : z = 1 := by
        rcases g4 with ⟨g4, _⟩ | ⟨g4, _⟩
        · exact absurd g4 hz0
        · exact g4
      exact hk hc _ _ _ (nI_1 n) (fin 1 (Or.inr ⟨rfl, Or.inl hz1⟩))
theorem m_distance (hW : WF T) (hms : mst b) (hM : MPic T fi ai) (hi : i < 6) (hj : j < 4) (ht : t < 2 ^ tB T) (hin : t &&& (tI T).2.1 = (tI T).2.2) : wp (fX12_distance 0 (nI t) (nI i) (nI j) (mk b fi fj ai aj ar)) (fun q => Lst (fun n => ∃ g, Wn (tL T) (tR T) (Sg (tI T).1 t) n (4 * i + j) g) q.1 ∧ ∃ aj', q.2 = mk b fi fj ai aj' ar) := by
  have hp2 := (pow_b hW.1).2
  have hp : 4 * i + j < 24 := by omega
  have h24 : (tI T).1 < 24 := hW.2.2.2.2.1.1
  have hSr : RgS (tB T) (Sg (tI T).1 t) := fun q g e => ⟨by rw [e.1]; exact h24, by rw [e.2]; exact ht⟩
  have hWr := Wn.rg hW.1 hW.2.1 hW.2.2.1 hSr
  unfold fX12_distance
  refine mE hms (m_isInjected hms hM.1 hW.1 hW.2.2.2.2.1 hM.2.2.2.2.2.1.2.1 hM.2.2.2.2.2.1.2.2 rfl ht) ?_
  rw [if_pos hin]
  refine wp_f (by decide) (wp_obe (m_noPlace_ok _ rfl rfl hi hj) (wp_t rfl ?_))
  refine wp_obw (Q := fun u => ∃ aj', u = mk b fi fj ai aj' ar ∧ ∀ q, q < 24 → aj' 5 q = 0 ∧ aj' 6 q = 0) ?_ (fun u hu => ?_)
  · refine it2_up1F (show (0 : Int32) = nI 0 from rfl) 24 (by decide) (fun n u => ∃ aj', u = mk b fi fj ai aj' ar ∧ ∀ q, q < n → aj' 5 q = 0 ∧ aj' 6 q = 0) (fun k n u hn hI hk => ?_) (Nat.zero_le _) ⟨aj, rfl, fun q hq => absurd hq (Nat.not_lt_zero _)⟩
    obtain ⟨aj', rfl, g2⟩ := hI
    unfold fX12_distance_B24
    refine wp_le (a := 24) rfl rfl (by decide) (by omega) (fun hc => wp_some ⟨aj', rfl, fun q hq => g2 q (by omega)⟩) (fun hc => ?_)
    refine mR hms rfl (mSJ hms rfl rfl (by decide) rfl hc (mR hms rfl (mSJ hms rfl rfl (by decide) rfl hc (hk hc _ _ (nI_1 n) ⟨_, rfl, fun q hq => ?_⟩))))
    rw [up2_a (a' := 5) (by decide), up2_is, up2_is, up2_a (a' := 6) (by decide)]
    by_cases e : q = n
    · rw [if_pos e, if_pos e]; exact ⟨rfl, rfl⟩
    · rw [if_neg e, if_neg e]; exact g2 q (by omega)
  · obtain ⟨aj1, rfl, g2⟩ := hu
    refine mR hms rfl (mI hms ?_)
    rw [hM.2.2.2.2.2.1.1]
    refine mSJ hms rfl rfl (by decide) rfl h24 ?_
    refine wp_oew (Q := fun q => match q with | .inl u => (∀ k, ¬ ∃ g, Wn (tL T) (tR T) (Sg (tI T).1 t) k (4 * i + j) g) ∧ ∃ aj', u = mk b fi fj ai aj' ar | .inr q => Lst (fun n => ∃ g, Wn (tL T) (tR T) (Sg (tI T).1 t) n (4 * i + j) g) q.1 ∧ ∃ aj', q.2 = mk b fi fj ai aj' ar) ?_ (fun u hu => wp_some ⟨Or.inr ⟨rfl, hu.1⟩, hu.2⟩) (fun q hq => wp_some hq)
    refine it3_up2F (show (0 : Int32) = nI 0 from rfl) 769 (by decide) (fun n z u => (∀ k, k < n → ¬ ∃ g, Wn (tL T) (tR T) (Sg (tI T).1 t) k (4 * i + j) g) ∧ (z = 0 → ∀ k, ¬ ∃ g, Wn (tL T) (tR T) (Sg (tI T).1 t) k (4 * i + j) g) ∧ ∃ aj', u = mk b fi fj ai aj' ar ∧ (∀ q, q < 24 → ∀ g, tb (aj' 5 q) g = true ↔ Wn (tL T) (tR T) (Sg (tI T).1 t) n q g) ∧ (∀ q, q < 24 → ∀ g, tb (aj' 6 q) g = true ↔ ∃ k, n = k + 1 ∧ Wn (tL T) (tR T) (Sg (tI T).1 t) k q g) ∧ (z ≠ 0 → n ≤ cnt (aj' 6))) (fun k n z u hn hI hk => ?_) (Nat.zero_le _) ⟨fun k hk => absurd hk (Nat.not_lt_zero _), fun h => absurd h (by decide), _, rfl, fun q hq g => ?_, fun q hq g => ?_, fun _ => Nat.zero_le _⟩
    · obtain ⟨hI, hI0, aj', rfl, d1, d2, d3⟩ := hI
      unfold fX12_distance_B71
      refine wp_if (fun hz => wp_some ⟨hI0 hz, aj', rfl⟩) (fun hz => ?_)
      rw [pl1]
      refine mR hms rfl (mLJ hms rfl rfl (by decide) rfl hp ?_)
      refine wp_if (fun h0 => ?_) (fun h0 => ?_)
      · have hno : ¬ ∃ g, Wn (tL T) (tR T) (Sg (tI T).1 t) n (4 * i + j) g := by
          rintro ⟨g, hg⟩
          have := (d1 _ hp g).mpr hg
          rw [h0, tb_0] at this; cases this
        have nxt : ∀ k, k < n + 1 → ¬ ∃ g, Wn (tL T) (tR T) (Sg (tI T).1 t) k (4 * i + j) g := by
          intro k hk
          rcases Nat.lt_or_ge k n with h | h
          · exact hI k h
          · have : k = n := by omega
            subst this; exact hno
        refine wp_obw (m_dist_B100 hms) (fun q hq => ?_)
        obtain ⟨aj2, e1, c1, c2, c3⟩ := hq
        rw [e1]
        refine wp_obw (m_dist_B183 hms hM.1 hM.2.2.2.1 hM.2.1 hW.1 hW.2.1 hW.2.2.1) (fun u hu => ?_)
        obtain ⟨aj3, rfl, f1, f2⟩ := hu
        have h8 : ∀ p, p < 24 → ∀ h, tb (aj2 8 p) h = true ↔ tb (aj' 5 p) h = true ∧ tb (aj' 6 p) h = false := fun p hp h => by rw [(c2 p hp).1, tb_diff]
        have h6 : ∀ p, p < 24 → ∀ h, tb (aj3 6 p) h = true ↔ Wn (tL T) (tR T) (Sg (tI T).1 t) n p h := by
          intro p hp h
          rw [f1 6 (by decide) (by decide), (c2 p hp).2, tb_or, Bool.or_eq_true, tb_diff, ← d1 p hp h]
          constructor
          · rintro (H | H)
            · obtain ⟨k', rfl, H⟩ := (d2 p hp h).mp H
              exact (d1 p hp h).mpr (Or.inl H)
            · exact H.1
          · intro H
            cases hq : tb (aj' 6 p) h with
            | true => exact Or.inl rfl
            | false => exact Or.inr ⟨H, rfl⟩
        have h5 : ∀ q, q < 24 → ∀ g, tb (aj3 5 q) g = true ↔ Wn (tL T) (tR T) (Sg (tI T).1 t) (n + 1) q g := by
          intro q hq g
          rw [f2 q hq g, c1 5 (by decide) (by decide), d1 q hq g]
          constructor
          · rintro (H | ⟨p', hp', h', _, H1, H2⟩)
            · exact Or.inl H
            · exact Or.inr ⟨p', h', (d1 p' hp' h').mp ((h8 p' hp' h').mp H1).1, H2⟩
          · rintro (H | ⟨p', h', H1, H2⟩)
            · exact Or.inl H
            · obtain ⟨hp', hh'⟩ := hWr n p' h' H1
              cases hq6 : tb (aj' 6 p') h' with
              | false => exact Or.inr ⟨p', hp', h', hh', (h8 p' hp' h').mpr ⟨(d1 p' hp' h').mpr H1, hq6⟩, H2⟩
              | true =>
                obtain ⟨k', rfl, H⟩ := (d2 p' hp' h').mp hq6
                exact Or.inl (Or.inr ⟨p', h', H, H2⟩)
        refine hk ?_ _ _ _ (nI_1 n) ⟨nxt, fun hz0 k' hk' => hno ?_, aj3, rfl, h5, fun q hq g => ?_, fun hz0 => ?_⟩
        · have := d3 hz
          have := cnt_le (aj' 6)
          omega
        · rcases c3 with ⟨_, c4⟩ | ⟨c4, _⟩
          · obtain ⟨g, hg⟩ := hk'
            refine ⟨g, Wn_stop (fun q' g' H => ?_) ⟨k', hg⟩⟩
            rcases H with H | ⟨p', h', H1, H2⟩
            · exact H
            · obtain ⟨hp', hh'⟩ := hWr n p' h' H1
              have hq6 : tb (aj' 6 p') h' = true := by
                cases hq6 : tb (aj' 6 p') h' with
                | true => rfl
                | false =>
                  have : tb (aj' 5 p' &&& (aj' 6 p' ^^^ -1)) h' = true := (tb_diff _ _ _).mpr ⟨(d1 p' hp' h').mpr H1, hq6⟩
                  rw [c4 p' hp', tb_0] at this; cases this
              obtain ⟨k2, rfl, H⟩ := (d2 p' hp' h').mp hq6
              exact Or.inr ⟨p', h', H, H2⟩
          · rw [hz0] at c4; exact absurd c4 (by decide)
        · rw [h6 q hq g]
          exact ⟨fun H => ⟨n, rfl, H⟩, fun ⟨k', e, H⟩ => by cases e; exact H⟩
        · rcases c3 with ⟨c4, _⟩ | ⟨_, q0, hq0, c4⟩
          · exact absurd c4 hz0
          · obtain ⟨g, hg, ht2⟩ := tb_nz c4
            have ht3 := (tb_diff _ _ _).mp ht2
            have hg32 := lt32 hW.1 (hWr n q0 g ((d1 q0 hq0 g).mp ht3.1)).2
            have hlt : cnt (aj' 6) < cnt (aj3 6) := cnt_lt (fun p hp h hh H => (h6 p hp h).mpr (by
              obtain ⟨k', rfl, H⟩ := (d2 p hp h).mp H
              exact Or.inl H)) hq0 hg32 ht3.2 ((h6 q0 hq0 g).mpr ((d1 q0 hq0 g).mp ht3.1))
            have := d3 hz
            omega
      · obtain ⟨g, hg, ht2⟩ := tb_nz h0
        have := d3 hz
        have := cnt_le (aj' 6)
        exact wp_some ⟨Or.inl ⟨n, by omega, rfl, ⟨g, (d1 _ hp g).mp ht2⟩, hI⟩, aj', rfl⟩
    · show _ ↔ Sg (tI T).1 t q g
      unfold Sg
      rw [up2_is]
      by_cases e : q = (tI T).1
      · rw [if_pos e, tb_sg (by omega)]
        exact ⟨fun H => ⟨e, H⟩, fun H => H.2⟩
      · rw [if_neg e, (g2 q hq).1, tb_0]
        exact ⟨fun H => (by cases H), fun H => absurd H.1 e⟩
    · rw [up2_a (by decide), (g2 q hq).2, tb_0]
      exact ⟨fun H => (by cases H), fun ⟨k', e, _⟩ => by cases e⟩
end
section PUB
variable {T : TS} {x m : UH} {x1 x2 x3 x4 x5 x6 : Int32}
theorem x_isInjected (hs : xst x) (hW : WF T) (hP : XPic T x (uI x) (uJ x) (uAI x) (uAR x)) {h : Nat} (h1 : x1 = nI h) (hh : h < 2 ^ tB T) : fX11_isInjected 0 x1 (mk x (uI x) (uJ x) (uAI x) (uAJ x) (uAR x)) = some (if h &&& (tI T).2.1 = (tI T).2.2 then 1 else 0) := by
  have hp2 := (pow_b hW.1).2
  have hE : EntP (tB T) (tI T) (uJ x 11 11 0) := hP.2.2.2.2.2.2.1.2
  refine of_wp ?_
  unfold fX11_isInjected
  refine oR (hs.1 0 12 rfl) (hs.2.2 11 0 0 1 rfl) (oE (hs.1 1 5 rfl) (x_isHeader_ok hs hP.2.1 hW.1 h1 hh) (wp_f (by decide) (oJ (hs.1 0 12 rfl) (wp_obe (x_hasHeader _ h1 (by omega)) ?_))))
  by_cases e : h &&& (tI T).2.1 = (tI T).2.2
  · rw [if_pos e, if_pos ((EntP.iff hW.1 hE h).mpr ⟨hh, e⟩)]
    exact wp_f (by decide) (wp_some rfl)
  · rw [if_neg e, if_neg (fun z => e ((EntP.iff hW.1 hE h).mp z).2)]
    exact wp_t rfl (wp_some rfl)
theorem x_isInjected_bad (hs : xst x) (hW : WF T) (hP : XPic T x (uI x) (uJ x) (uAI x) (uAR x)) (h1 : bad x1 (2 ^ tB T)) : fX11_isInjected 0 x1 (mk x (uI x) (uJ x) (uAI x) (uAJ x) (uAR x)) = some 0 := by
  refine of_wp ?_
  unfold fX11_isInjected
  exact oR (hs.1 0 12 rfl) (hs.2.2 11 0 0 1 rfl) (oE (hs.1 1 5 rfl) (x_isHeader_bad hs hP.2.1 hW.1 h1) (wp_t rfl (wp_some rfl)))
theorem inj_or (hW : WF T) (hs : xst x) (hP : XPic T x (uI x) (uJ x) (uAI x) (uAR x)) (hms : mst m) (hM : MPic T (uI m) (uAI m)) (x1 : Int32) : (∃ h, h < 2 ^ tB T ∧ x1 = nI h ∧ h &&& (tI T).2.1 = (tI T).2.2 ∧ fX11_isInjected 0 x1 (mk x (uI x) (uJ x) (uAI x) (uAJ x) (uAR x)) = some 1 ∧ fX12_isInjected 0 x1 (mk m (uI m) (uJ m) (uAI m) (uAJ m) (uAR m)) = some 1) ∨ (fX11_isInjected 0 x1 (mk x (uI x) (uJ x) (uAI x) (uAJ x) (uAR x)) = some 0 ∧ fX12_isInjected 0 x1 (mk m (uI m) (uJ m) (uAI m) (uAJ m) (uAR m)) = some 0) := by
  have hp2 := (pow_b hW.1).2
  rcases ix x1 (2 ^ tB T) (by omega) with ⟨h, hh, e⟩ | e
  · have hx := x_isInjected hs hW hP e hh
    have hm := m_isInjected (fj := uJ m) (ai := uAI m) (aj := uAJ m) (ar := uAR m) hms hM.1 hW.1 hW.2.2.2.2.1 hM.2.2.2.2.2.1.2.1 hM.2.2.2.2.2.1.2.2 e hh
    by_cases ee : h &&& (tI T).2.1 = (tI T).2.2
    · rw [if_pos ee] at hx hm; exact Or.inl ⟨h, hh, e, ee, hx, hm⟩
    · rw [if_neg ee] at hx hm; exact Or.inr ⟨hx, hm⟩
  · exact Or.inr ⟨x_isInjected_bad hs hW hP e, m_isInjected_bad hms hM.1 hW.1 e⟩
theorem s_distance (hR : RR T x m) : SIM T (fX11_distance 0 x1 x2 x3 x) (fX12_distance 0 x1 x2 x3 m) := by
  obtain ⟨hW, ⟨hs, hd, hP⟩, hms, hM⟩ := hR
  rcases inj_or hW hs hP hms hM x1 with ⟨t, ht, rfl, hin, i1, i2⟩ | ⟨i1, i2⟩
  · rcases pl_or x2 x3 with ⟨i, j, hi, hj, rfl, rfl⟩ | hb
    · obtain ⟨⟨r, u⟩, e1, hr, aj1, hu⟩ := m_distance (fj := uJ m) (aj := uAJ m) (ar := uAR m) hW hms hM hi hj ht hin
      dsimp only at hr hu
      subst hu
      refine sim (T' := T) (r := r) hW ?_ ⟨_, e1, rfl, MR_mk hms hM⟩
      show wp (fX11_distance 0 (nI t) (nI i) (nI j) (mk x (uI x) (uJ x) (uAI x) (uAJ x) (uAR x))) _
      unfold fX11_distance
      refine oE (hs.1 0 12 rfl) i1 (wp_f (by decide) (wp_obe (x_isPlace_ok _ rfl rfl hi hj) (wp_f (by decide) (oR (hs.1 0 12 rfl) (hs.2.2 11 2 0 45 rfl) (oi (hs.1 0 12 rfl) (wp_obe (x_placeOf _ rfl rfl) ?_))))))
      refine oK2 (hs.1 45 3 rfl) (x_leastLinks hs hW hP (p := 4 * i + j) (by omega) ht rfl) (fun y u hq => ?_)
      obtain ⟨q1, aj2, q2⟩ := hq
      dsimp only at q1 q2
      subst q2
      exact wp_some ⟨q1.eq hr, XR_mk hs hd hP⟩
    · refine sim (T' := T) (r := -1) hW ?_ ?_
      · show wp (fX11_distance 0 (nI t) x2 x3 (mk x (uI x) (uJ x) (uAI x) (uAJ x) (uAR x))) _
        unfold fX11_distance
        exact oE (hs.1 0 12 rfl) i1 (wp_f (by decide) (wp_obe (x_isPlace_bad _ hb) (wp_t rfl (wp_some ⟨rfl, hs, hd, hP⟩))))
      · show wp (fX12_distance 0 (nI t) x2 x3 (mk m (uI m) (uJ m) (uAI m) (uAJ m) (uAR m))) _
        unfold fX12_distance
        exact mE hms i2 (wp_f (by decide) (wp_obe (m_noPlace_bad _ hb) (wp_f (by decide) (wp_some ⟨rfl, hms, hM⟩))))
  · refine sim (T' := T) (r := -3) hW ?_ ?_
    · show wp (fX11_distance 0 x1 x2 x3 (mk x (uI x) (uJ x) (uAI x) (uAJ x) (uAR x))) _
      unfold fX11_distance
      exact oE (hs.1 0 12 rfl) i1 (wp_t rfl (wp_some ⟨rfl, hs, hd, hP⟩))
    · show wp (fX12_distance 0 x1 x2 x3 (mk m (uI m) (uJ m) (uAI m) (uAJ m) (uAR m))) _
      unfold fX12_distance
      exact mE hms i2 (wp_t rfl (wp_some ⟨rfl, hms, hM⟩))
end PUB
