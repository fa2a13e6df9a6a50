def Sg (p h : Nat) : PS := fun q g => q = p ∧ g = h
theorem Rc_un {lk : LK} {rb : RB} {S : PS} {q g : Nat} : Rc lk rb S q g ↔ ∃ p h, S p h ∧ Rc lk rb (Sg p h) q g := by
  constructor
  · exact Rc.least (A := fun q g => ∃ p h, S p h ∧ Rc lk rb (Sg p h) q g) (fun p h hS => ⟨p, h, hS, Rc.base ⟨rfl, rfl⟩⟩) (fun p h q g ⟨p0, h0, a1, a2⟩ hS => ⟨p0, h0, a1, a2.step hS⟩)
  · rintro ⟨p, h, hS, hr⟩
    exact Rc.least (A := Rc lk rb S) (fun p' h' e => by rw [e.1, e.2]; exact Rc.base hS) Rc.clo hr
theorem Rc_sub {lk : LK} {rb : RB} {S S' : PS} (h : ∀ p h, S p h → Rc lk rb S' p h) {q g : Nat} (hr : Rc lk rb S q g) : Rc lk rb S' q g := Rc.least h Rc.clo hr
theorem tb_sg {n : Nat} (hn : n < 64) (g : Nat) : tb (jlsl 1 (nI n)) g = true ↔ g = n := by
  rcases Nat.lt_or_ge g 64 with h | h
  · rw [tb_sh1 hn h, decide_eq_true_eq]
  · rw [tb_big h]
    exact ⟨fun z => (by cases z), fun z => by omega⟩
/-- the least number that has a property, or none -/
def Lst (P : Nat → Prop) (q : Int32) : Prop := (∃ n, n ≤ 768 ∧ q = nI n ∧ P n ∧ ∀ k, k < n → ¬ P k) ∨ (q = -6 ∧ ∀ k, ¬ P k)
theorem Lst.eq {P : Nat → Prop} {q q' : Int32} (h : Lst P q) (h' : Lst P q') : q = q' := by
  rcases h with ⟨n, hn, rfl, h1, h2⟩ | ⟨rfl, h1⟩
  · rcases h' with ⟨n', hn', rfl, h1', h2'⟩ | ⟨rfl, h1'⟩
    · congr 1
      rcases Nat.lt_trichotomy n n' with h | h | h
      · exact absurd h1 (h2' n h)
      · exact h
      · exact absurd h1' (h2 n' h)
    · exact absurd h1 (h1' n)
  · rcases h' with ⟨n', hn', rfl, h1', h2'⟩ | ⟨rfl, h1'⟩
    · exact absurd h1' (h1 n')
    · rfl
section
variable {b : UH} {fi : Nat → Nat → Nat → Int32} {fj : Nat → Nat → Nat → Int64} {ai : Nat → Nat → Int32} {aj : Nat → Nat → Int64} {ar : Nat → Nat → Option Nat} {T : TS} {x1 x2 x3 x4 : Int32} {i j p t h0 : Nat} {s : Int64}
theorem m_origin (hW : WF T) (hms : mst b) (hM : MPic T fi ai) (hi : i < 6) (hj : j < 4) (ht : t < 2 ^ tB T) : wp (fX12_origin 0 (nI i) (nI j) (nI t) (mk b fi fj ai aj ar)) (fun q => Lst (fun n => ST T (tI T).1 n ∧ Rc (tL T) (tR T) (Sg (tI T).1 n) (4 * i + j) t) q.1 ∧ ∃ aj', q.2 = mk b fi fj ai aj' ar) := by
  have hp2 := (pow_b hW.1).2
  have hp : 4 * i + j < 24 := by omega
  have h24 : (tI T).1 < 24 := hW.2.2.2.2.1.1
  unfold fX12_origin
  refine wp_obe (m_noPlace_ok _ rfl rfl hi hj) (wp_t rfl (mE hms (m_noHeader_ok hms hM.1 hW.1 rfl ht) (wp_t rfl ?_)))
  refine wp_oew (Q := fun q => match q with | .inl u => (∀ k, ¬ (ST T (tI T).1 k ∧ Rc (tL T) (tR T) (Sg (tI T).1 k) (4 * i + j) t)) ∧ ∃ aj', u = mk b fi fj ai aj' ar | .inr q => Lst (fun n => ST T (tI T).1 n ∧ Rc (tL T) (tR T) (Sg (tI T).1 n) (4 * i + j) t) q.1 ∧ ∃ aj', q.2 = mk b fi fj ai aj' ar) ?_ (fun u hu => wp_some ⟨Or.inr ⟨rfl, hu.1⟩, hu.2⟩) (fun q hq => wp_some hq)
  refine it2_up1F (show (0 : Int32) = nI 0 from rfl) (2 ^ tB T) (by omega) (fun n u => (∀ k, k < n → ¬ (ST T (tI T).1 k ∧ Rc (tL T) (tR T) (Sg (tI T).1 k) (4 * i + j) t)) ∧ ∃ aj', u = mk b fi fj ai aj' ar) (fun k n u hn hI hk => ?_) (Nat.zero_le _) ⟨fun k hk => absurd hk (Nat.not_lt_zero _), aj, rfl⟩
  obtain ⟨hI, aj', rfl⟩ := hI
  unfold fX12_origin_B24
  refine mE hms (m_headers hms hM.1 hW.1) (wp_le rfl rfl (by omega) (by omega) (fun hc => wp_some ⟨fun k hk => ?_, aj', rfl⟩) (fun hc => ?_))
  · exact hI k (by have := hk.1.2.1; omega) hk
  · refine mE hms (m_isInjected hms hM.1 hW.1 hW.2.2.2.2.1 hM.2.2.2.2.2.1.2.1 hM.2.2.2.2.2.1.2.2 rfl hc) ?_
    have nxt : ¬ (ST T (tI T).1 n ∧ Rc (tL T) (tR T) (Sg (tI T).1 n) (4 * i + j) t) → ∀ k, k < n + 1 → ¬ (ST T (tI T).1 k ∧ Rc (tL T) (tR T) (Sg (tI T).1 k) (4 * i + j) t) := by
      intro hno k hk
      rcases Nat.lt_or_ge k n with h | h
      · exact hI k h
      · have : k = n := by omega
        subst this; exact hno
    by_cases he : n &&& (tI T).2.1 = (tI T).2.2
    · rw [if_pos he]
      refine wp_f (by decide) (mI hms ?_)
      rw [hM.2.2.2.2.2.1.1]
      refine mKw hms (m_spread hms hM.1 hM.2.2.2.1 hM.2.1 hW.1 hW.2.1 hW.2.2.1 rfl h24 (s := jlsl 1 (nI n)) (fun h hh => by rw [(tb_sg (by omega) h).mp hh]; exact hc) (S := Sg (tI T).1 n) (fun q g => by rw [tb_sg (by omega)]; rfl)) (fun u hu => ?_)
      obtain ⟨aj2, rfl, _, h5, _⟩ := hu
      rw [pl1]
      refine mR hms rfl (mLJ hms rfl rfl (by decide) rfl hp (wp_tb1 rfl (by omega) (fun hbt => wp_some ⟨Or.inl ⟨n, by omega, rfl, ⟨⟨rfl, hc, he⟩, (h5 _ hp t).mp hbt⟩, hI⟩, aj2, rfl⟩) (fun hbf => hk hc _ _ (nI_1 n) ⟨nxt (fun H => ?_), aj2, rfl⟩)))
      have := (h5 _ hp t).mpr H.2
      rw [hbf] at this; cases this
    · rw [if_neg he]
      exact wp_t rfl (hk hc _ _ (nI_1 n) ⟨nxt (fun H => he H.1.2.2), aj', rfl⟩)
theorem x_leastOrigin (hs : xst b) (hW : WF T) (hP : XPic T b fi fj ai ar) (hp : p < 24) (ht : t < 2 ^ tB T) : wp (fX2_leastOrigin 45 (fi 11 10 0) (fj 11 11 0) (nI p) (nI t) (mk b fi fj ai aj ar)) (fun q => Lst (fun n => ST T (tI T).1 n ∧ Rc (tL T) (tR T) (Sg (tI T).1 n) p t) q.1 ∧ ∃ aj', q.2 = mk b fi fj ai aj' ar) := by
  have hp2 := (pow_b hW.1).2
  have h24 : (tI T).1 < 24 := hW.2.2.2.2.1.1
  have hE : EntP (tB T) (tI T) (fj 11 11 0) := hP.2.2.2.2.2.2.1.2
  have hen : fi 11 10 0 = nI (tI T).1 := hP.2.2.2.2.2.2.1.1
  rw [hen]
  unfold fX2_leastOrigin
  refine oKw (hs.1 45 3 rfl) (x_forget hs) (fun u hu => ?_)
  obtain ⟨aj1, rfl, _, g2⟩ := hu
  refine wp_oew (Q := fun q => match q with | .inl u => (∀ k, ¬ (ST T (tI T).1 k ∧ Rc (tL T) (tR T) (Sg (tI T).1 k) p t)) ∧ ∃ aj', u = mk b fi fj ai aj' ar | .inr q => Lst (fun n => ST T (tI T).1 n ∧ Rc (tL T) (tR T) (Sg (tI T).1 n) p t) q.1 ∧ ∃ aj', q.2 = mk b fi fj ai aj' ar) ?_ (fun u hu => wp_some ⟨Or.inr ⟨rfl, hu.1⟩, hu.2⟩) (fun q hq => wp_some hq)
  refine it2_up1F (show (0 : Int32) = nI 0 from rfl) 32 (by decide) (fun n u => (∀ k, k < n → ¬ (ST T (tI T).1 k ∧ Rc (tL T) (tR T) (Sg (tI T).1 k) p t)) ∧ ∃ aj', u = mk b fi fj ai aj' ar ∧ FlI T aj' ∧ (∀ q, q < 24 → aj' 47 q = 0) ∧ ∀ q, q < 24 → ∀ g, tb (aj' 46 q) g = true ↔ Rc (tL T) (tR T) (fun q g => ST T q g ∧ g < n) q g) (fun k n u hn hI hk => ?_) (Nat.zero_le _) ⟨fun k hk => absurd hk (Nat.not_lt_zero _), aj1, rfl, FlI.zero g2, fun q hq => (g2 q hq).2.1, fun q hq g => ⟨fun H => (by rw [(g2 q hq).1, tb_0] at H; cases H), fun H => ?_⟩⟩
  · obtain ⟨hI, aj', rfl, d1, d2, d3⟩ := hI
    unfold fX2_leastOrigin_B7
    refine wp_le (a := 32) rfl rfl (by decide) (by omega) (fun hc => wp_some ⟨fun k hk => ?_, aj', rfl⟩) (fun hc => ?_)
    · exact hI k (by have := hk.1.2.1; omega) hk
    · have nxt : ¬ (ST T (tI T).1 n ∧ Rc (tL T) (tR T) (Sg (tI T).1 n) p t) → ∀ k, k < n + 1 → ¬ (ST T (tI T).1 k ∧ Rc (tL T) (tR T) (Sg (tI T).1 k) p t) := by
        intro hno k hk
        rcases Nat.lt_or_ge k n with h | h
        · exact hI k h
        · have : k = n := by omega
          subst this; exact hno
      refine wp_obe (x_hasHeader _ rfl (by omega)) ?_
      cases hq : tb (fj 11 11 0) n with
      | false =>
        have hno : ¬ ST T (tI T).1 n := fun H => by
          have := ((ST_S hW.1 hE _ _).mp H).2
          rw [hq] at this; cases this
        refine wp_t rfl (hk hc _ _ (nI_1 n) ⟨nxt (fun H => hno H.1), aj', rfl, d1, d2, fun q hq2 g => ?_⟩)
        rw [d3 q hq2 g]
        have : (fun q g => ST T q g ∧ g < n) = (fun q g => ST T q g ∧ g < n + 1) := by
          funext q g
          apply propext
          constructor
          · exact fun H => ⟨H.1, by omega⟩
          · rintro ⟨H1, H2⟩
            refine ⟨H1, ?_⟩
            have : g ≠ n := fun e => hno (by rw [e] at H1; exact ⟨rfl, H1.2⟩)
            omega
        rw [this]
      | true =>
        have hST : ST T (tI T).1 n := (ST_S hW.1 hE _ _).mpr ⟨rfl, hq⟩
        have hn2 : n < 2 ^ tB T := hST.2.1
        refine wp_f (by decide) (oE (hs.1 45 3 rfl) (x_enter hs rfl h24) ?_)
        have hS0 : ∀ q g, (q < 24 ∧ (Rc (tL T) (tR T) (fun q g => ST T q g ∧ g < n) q g ∨ (q = (tI T).1 ∧ g = n))) ↔ q < 24 ∧ tb (up2 (up2 aj' 47 (tI T).1 (jlsl 1 (nI n) &&& (aj' 46 (tI T).1 ^^^ -1))) 46 (tI T).1 (aj' 46 (tI T).1 ||| jlsl 1 (nI n)) 46 q) g = true := by
          intro q g
          rw [up2_is]
          by_cases e : q = (tI T).1
          · rw [if_pos e, tb_orT _ (by omega)]
            constructor
            · rintro ⟨H1, H2⟩
              refine ⟨H1, ?_⟩
              rcases H2 with H2 | H2
              · exact Or.inl (by rw [← e]; exact (d3 q H1 g).mpr H2)
              · exact Or.inr H2.2
            · rintro ⟨H1, H2⟩
              refine ⟨H1, ?_⟩
              rcases H2 with H2 | H2
              · exact Or.inl ((d3 q H1 g).mp (by rw [e]; exact H2))
              · exact Or.inr ⟨e, H2⟩
          · rw [if_neg e, up2_a (by decide)]
            constructor
            · rintro ⟨H1, H2⟩
              refine ⟨H1, ?_⟩
              rcases H2 with H2 | H2
              · exact (d3 q H1 g).mpr H2
              · exact absurd H2.1 e
            · rintro ⟨H1, H2⟩
              exact ⟨H1, Or.inl ((d3 q H1 g).mp H2)⟩
        refine oKw (hs.1 45 3 rfl) (x_spread hs hW hP (d1.enter d2 h24 (fun h hh => by rw [(tb_sg (by omega) h).mp hh]; exact hn2)) hS0) (fun u hu => ?_)
        obtain ⟨aj2, rfl, _, c2, c3, c4⟩ := hu
        have hR : ∀ q, q < 24 → ∀ g, tb (aj2 46 q) g = true ↔ Rc (tL T) (tR T) (fun q g => ST T q g ∧ g < n + 1) q g := by
          intro q hq2 g
          rw [c4 q hq2 g]
          constructor
          · refine Rc_sub (fun p' h' H => ?_)
            rcases H.2 with H | H
            · exact Rc_sub (fun p2 h2 H2 => Rc.base ⟨H2.1, by have := H2.2; omega⟩) H
            · refine Rc.base ⟨?_, by rw [H.2]; omega⟩
              rw [H.1, H.2]; exact hST
          · refine Rc_sub (fun p' h' H => Rc.base ⟨?_, ?_⟩)
            · rw [H.1.1]; exact h24
            · by_cases e : h' = n
              · exact Or.inr ⟨H.1.1, e⟩
              · exact Or.inl (Rc.base ⟨H.1, by have := H.2; omega⟩)
        refine oR (hs.1 45 3 rfl) (hs.2.2 2 1 45 46 rfl) (oLJ (hs.1 46 21 rfl) (hs.2.1 46 24 rfl) rfl hp (by decide) (wp_obe (x_hasHeader _ rfl (by omega)) ?_))
        cases hq3 : tb (aj2 46 p) t with
        | false =>
          refine wp_t rfl (hk hc _ _ (nI_1 n) ⟨nxt (fun H => ?_), aj2, rfl, c2, c3, hR⟩)
          have := (hR p hp t).mpr (Rc_un.mpr ⟨(tI T).1, n, ⟨H.1, by omega⟩, H.2⟩)
          rw [hq3] at this; cases this
        | true =>
          refine wp_f (by decide) (wp_some ⟨Or.inl ⟨n, by omega, rfl, ⟨hST, ?_⟩, hI⟩, aj2, rfl⟩)
          obtain ⟨p', h', H1, H2⟩ := Rc_un.mp ((hR p hp t).mp hq3)
          by_cases e : h' = n
          · rw [e, H1.1.1] at H2; exact H2
          · rw [H1.1.1] at H2
            have hlt : h' < n := by have := H1.2; omega
            exact absurd ⟨⟨rfl, H1.1.2⟩, H2⟩ (hI h' hlt)
  · have : False := Rc.least (A := fun _ _ => False) (fun p h H => absurd H.2 (Nat.not_lt_zero _)) (fun _ _ _ _ H _ => H) H
    exact this.elim
end
section PUB
variable {T : TS} {x m : UH} {x1 x2 x3 x4 x5 x6 : Int32}
theorem s_origin (hR : RR T x m) : SIM T (fX11_origin 0 x1 x2 x3 x) (fX12_origin 0 x1 x2 x3 m) := by
  obtain ⟨hW, ⟨hs, hd, hP⟩, hms, hM⟩ := hR
  have hp2 := (pow_b hW.1).2
  rcases pl_or x1 x2 with ⟨i, j, hi, hj, rfl, rfl⟩ | hb
  · rcases ix x3 (2 ^ tB T) (by omega) with ⟨t, ht, rfl⟩ | ht
    · obtain ⟨⟨r, u⟩, e1, hr, aj1, hu⟩ := m_origin (fj := uJ m) (aj := uAJ m) (ar := uAR m) hW hms hM hi hj ht
      dsimp only at hr hu
      subst hu
      refine sim (T' := T) (r := r) hW ?_ ⟨_, e1, rfl, MR_mk hms hM⟩
      show wp (fX11_origin 0 (nI i) (nI j) (nI t) (mk x (uI x) (uJ x) (uAI x) (uAJ x) (uAR x))) _
      unfold fX11_origin
      refine wp_obe (x_isPlace_ok _ rfl rfl hi hj) (wp_f (by decide) (oR (hs.1 0 12 rfl) (hs.2.2 11 0 0 1 rfl) (oE (hs.1 1 5 rfl) (x_isHeader_ok hs hP.2.1 hW.1 rfl ht) (wp_f (by decide) (oR (hs.1 0 12 rfl) (hs.2.2 11 2 0 45 rfl) (oi (hs.1 0 12 rfl) (oJ (hs.1 0 12 rfl) (wp_obe (x_placeOf _ rfl rfl) ?_))))))))
      refine oK2 (hs.1 45 3 rfl) (x_leastOrigin hs hW hP (p := 4 * i + j) (by omega) ht) (fun y u hq => ?_)
      obtain ⟨q1, aj2, q2⟩ := hq
      dsimp only at q1 q2
      subst q2
      exact wp_some ⟨q1.eq hr, XR_mk hs hd hP⟩
    · refine sim (T' := T) (r := -3) hW ?_ ?_
      · show wp (fX11_origin 0 (nI i) (nI j) x3 (mk x (uI x) (uJ x) (uAI x) (uAJ x) (uAR x))) _
        unfold fX11_origin
        exact wp_obe (x_isPlace_ok _ rfl rfl hi hj) (wp_f (by decide) (oR (hs.1 0 12 rfl) (hs.2.2 11 0 0 1 rfl) (oE (hs.1 1 5 rfl) (x_isHeader_bad hs hP.2.1 hW.1 ht) (wp_t rfl (wp_some ⟨rfl, hs, hd, hP⟩)))))
      · show wp (fX12_origin 0 (nI i) (nI j) x3 (mk m (uI m) (uJ m) (uAI m) (uAJ m) (uAR m))) _
        unfold fX12_origin
        exact wp_obe (m_noPlace_ok _ rfl rfl hi hj) (wp_t rfl (mE hms (m_noHeader_bad hms hM.1 hW.1 ht) (wp_f (by decide) (wp_some ⟨rfl, hms, hM⟩))))
  · refine sim (T' := T) (r := -1) hW ?_ ?_
    · unfold fX11_origin
      exact wp_obe (x_isPlace_bad _ hb) (wp_t rfl (wp_some ⟨rfl, hs, hd, hP⟩))
    · unfold fX12_origin
      exact wp_obe (m_noPlace_bad _ hb) (wp_f (by decide) (wp_some ⟨rfl, hms, hM⟩))
end PUB
