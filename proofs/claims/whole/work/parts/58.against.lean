/-- the counterexamples of a policy -/
def AgP (T : TS) (p : RT) (h : Nat) : Prop := (h < 2 ^ tB T ∧ h &&& p 3 = p 4) ∧ (De (tL T) (tR T) (p 2) (p 1) h ↔ p 0 = 0)
section
variable {b : UH} {fi : Nat → Nat → Nat → Int32} {fj : Nat → Nat → Nat → Int64} {ai : Nat → Nat → Int32} {aj : Nat → Nat → Int64} {ar : Nat → Nat → Option Nat} {T : TS} {x1 x2 x3 : Int32} {h i : Nat} {s : Int64}
theorem x_against {p : RT} (hs : xst b) (hW : WF T) (hP : XPic T b fi fj ai ar) (hp : (tP T)[i]? = some p) : wp (fX11_against 0 (65 + i) (mk b fi fj ai aj ar)) (fun q => (∀ h, tb q.1 h = true ↔ AgP T p h) ∧ ∃ aj', q.2 = mk b fi fj ai aj' ar) := by
  have hp2 := (pow_b hW.1).2
  have hi : i < 8 := by
    have := (List.getElem?_eq_some_iff.mp hp).1
    have := hW.2.2.2.2.2.1.1
    omega
  obtain ⟨w0, w1, w2, w3, w4, w5⟩ := hW.2.2.2.2.2.1.2 p (List.mem_of_getElem? hp)
  obtain ⟨q0, q1, q2, q3⟩ : PolP (tB T) fi fj (65 + i) p := hP.2.2.2.2.2.2.2.1.2 i p hp
  have hk : uKd b (65 + i) = 5 + 1 := hs.1 _ _ (xK_pol i hi)
  unfold fX11_against
  refine oR (hs.1 0 12 rfl) (hs.2.2 11 3 0 49 rfl) (oi hk ?_)
  rw [q2]
  refine oKw (hs.1 49 2 rfl) (x_findD hs hW hP w2) (fun u hu => ?_)
  obtain ⟨aj1, rfl, hA⟩ := hu
  refine oR (hs.1 0 12 rfl) (hs.2.2 11 3 0 49 rfl) (oR (hs.1 49 2 rfl) (hs.2.2 1 1 49 50 rfl) (oi hk (oLJ (hs.1 50 21 rfl) (hs.2.1 50 24 rfl) q1 w1 (by decide) (oJ hk (oi hk ?_)))))
  have hh : ∀ h, tb (fj 5 3 (65 + i)) h = true ↔ h < 2 ^ tB T ∧ h &&& p 3 = p 4 := by
    intro h
    rcases Nat.lt_or_ge h 64 with h1 | h1
    · rw [q3 h h1, Bool.and_eq_true, decide_eq_true_eq, decide_eq_true_eq]
    · rw [tb_big h1]
      exact ⟨fun z => (by cases z), fun z => absurd z.1 (by omega)⟩
  refine wp_eqq (b := 0) q0 rfl (by omega) (by decide) (fun e => wp_some ⟨fun h => ?_, aj1, rfl⟩) (fun e => wp_some ⟨fun h => ?_, aj1, rfl⟩)
  · rw [tb_and, Bool.and_eq_true, hh, hA _ w1 h]
    exact ⟨fun H => ⟨H.1, fun _ => e, fun _ => H.2.2⟩, fun H => ⟨H.1, H.1.1, H.2.mpr e⟩⟩
  · rw [tb_diff, hh]
    constructor
    · rintro ⟨H1, H2⟩
      refine ⟨H1, fun z => ?_, fun z => absurd z e⟩
      have := (hA _ w1 h).mpr ⟨H1.1, z⟩
      rw [H2] at this; cases this
    · rintro ⟨H1, H2⟩
      refine ⟨H1, ?_⟩
      cases hq : tb (aj1 50 (p 1)) h with
      | false => rfl
      | true => exact absurd (H2.mp ((hA _ w1 h).mp hq).2) e
theorem m_against {p : RT} (hW : WF T) (hms : mst b) (hM : MPic T fi ai) (hp : (tP T)[i]? = some p) : wp (fX12_against 0 (nI i) (mk b fi fj ai aj ar)) (fun q => (∀ h, tb q.1 h = true ↔ AgP T p h) ∧ ∃ aj', q.2 = mk b fi fj ai aj' ar) := by
  have hp2 := (pow_b hW.1).2
  have hi : i < 8 := by
    have := (List.getElem?_eq_some_iff.mp hp).1
    have := hW.2.2.2.2.2.1.1
    omega
  obtain ⟨w0, w1, w2, w3, w4, w5⟩ := hW.2.2.2.2.2.1.2 p (List.mem_of_getElem? hp)
  obtain ⟨q0, q1, q2, q3, q4⟩ := hM.2.2.2.2.2.2.1.2 i p hp
  unfold fX12_against
  refine wp_obw (Q := fun q => (∀ h, tb q.1 h = true ↔ AgP T p h) ∧ ∃ aj', q.2 = mk b fi fj ai aj' ar) ?_ (fun q hq => wp_some hq)
  refine it3_up2F (show (0 : Int32) = nI 0 from rfl) (2 ^ tB T) (by omega) (fun n z u => (∀ h, tb z h = true ↔ h < n ∧ AgP T p h) ∧ ∃ aj', u = mk b fi fj ai aj' ar) (fun k n z u hn hI hk => ?_) (Nat.zero_le _) ⟨fun h => ⟨fun H => (by rw [tb_0] at H; cases H), fun H => absurd H.1 (Nat.not_lt_zero _)⟩, aj, rfl⟩
  obtain ⟨hz, aj', rfl⟩ := hI
  unfold fX12_against_B5
  refine mE hms (m_headers hms hM.1 hW.1) (wp_le rfl rfl (by omega) (by omega) (fun hc => wp_some ⟨fun h => ?_, aj', rfl⟩) (fun hc => ?_))
  · rw [hz h]
    exact ⟨fun H => H.2, fun H => ⟨by have := H.1.1; omega, H⟩⟩
  have no : ¬ AgP T p n → ∀ h, tb z h = true ↔ h < n + 1 ∧ AgP T p h := by
    intro hno h
    rw [hz h]
    refine ⟨fun H => ⟨by omega, H.2⟩, fun H => ⟨?_, H.2⟩⟩
    have : h ≠ n := fun e => by rw [e] at H; exact hno H.2
    omega
  have yes : AgP T p n → ∀ h, tb (z ||| jlsl 1 (nI n)) h = true ↔ h < n + 1 ∧ AgP T p h := by
    intro hy h
    rw [tb_orT _ (by omega), hz h]
    constructor
    · rintro (H | H)
      · exact ⟨by omega, H.2⟩
      · rw [H]; exact ⟨by omega, hy⟩
    · rintro ⟨H1, H2⟩
      by_cases e : h = n
      · exact Or.inr e
      · exact Or.inl ⟨by omega, H2⟩
  refine mR hms rfl (mL hms rfl rfl (by decide) rfl hi (mR hms rfl (mL hms rfl rfl (by decide) rfl hi ?_)))
  rw [q3, q4, nx_and]
  have hlt : n &&& p 3 < 2 ^ tB T := and_lt w3
  refine wp_eqq rfl rfl (by omega) (by omega) (fun e => ?_) (fun e => hk hc _ _ _ (nI_1 n) ⟨no (fun H => e H.1.2), aj', rfl⟩)
  refine mR hms rfl (mL hms rfl rfl (by decide) rfl hi ?_)
  rw [q1]
  refine mKw hms (m_spread hms hM.1 hM.2.2.2.1 hM.2.1 hW.1 hW.2.1 hW.2.2.1 rfl w1 (s := jlsl 1 (nI n)) (fun h hh => by rw [(tb_sg (by omega) h).mp hh]; exact hc) (S := Sg (p 1) n) (fun q g => by rw [tb_sg (by omega)]; rfl)) (fun u hu => ?_)
  obtain ⟨aj2, rfl, _, _, h7⟩ := hu
  refine mR hms rfl (mR hms rfl (mL hms rfl rfl (by decide) rfl hi ?_))
  rw [q2]
  refine mLJ hms rfl rfl (by decide) rfl w2 ?_
  have hor : ∀ y : Int64, y ||| 0 = y := fun y => tb_ext (fun i _ => by rw [tb_or, tb_0, Bool.or_false])
  have g67 : ∀ v : Nat, (v = 0 ∨ v = 1) → (v = 1 ↔ De (tL T) (tR T) (p 2) (p 1) n) → wp (fX12_against_67 k 0 (nI i) z (nI n) (nI v) (mk b fi fj ai aj2 ar)) (fun q => (∀ h, tb q.1 h = true ↔ AgP T p h) ∧ ∃ aj', q.2 = mk b fi fj ai aj' ar) := by
    intro v hv hD
    unfold fX12_against_67
    refine mR hms rfl (mL hms rfl rfl (by decide) rfl hi ?_)
    rw [q0]
    refine wp_eqq rfl rfl (by omega) (by omega) (fun e2 => wp_lt ?_) (fun e2 => wp_lt ?_)
    · rw [hor]
      refine hk hc _ _ _ (nI_1 n) ⟨no (fun H => ?_), aj2, rfl⟩
      have := H.2
      rw [← hD] at this
      omega
    · refine hk hc _ _ _ (nI_1 n) ⟨yes ⟨⟨hc, e⟩, ?_⟩, aj2, rfl⟩
      rw [← hD]
      omega
  refine wp_if (fun h0 => g67 0 (Or.inl rfl) ⟨fun z => (by cases z), fun H => ?_⟩) (fun h0 => g67 1 (Or.inr rfl) ⟨fun _ => ?_, fun _ => rfl⟩)
  · obtain ⟨q', h', H1, g, H2⟩ := H
    have := (h7 _ w2 g).mpr ⟨q', h', H1, H2⟩
    rw [h0, tb_0] at this; cases this
  · obtain ⟨g, _, hg⟩ := tb_nz h0
    obtain ⟨q', h', H1, H2⟩ := (h7 _ w2 g).mp hg
    exact ⟨q', h', H1, g, H2⟩
end
section PUB
variable {T : TS} {x m : UH} {x1 x2 x3 x4 x5 x6 : Int32}
theorem s_counterexamples (hR : RR T x m) : SIM T (fX11_counterexamples 0 x1 x) (fX12_counterexamples 0 x1 m) := by
  obtain ⟨hW, ⟨hs, hd, hP⟩, hms, hM⟩ := hR
  have h8 := hW.2.2.2.2.2.1.1
  rcases ix x1 (tP T).length (by omega) with ⟨i, hi, rfl⟩ | hb
  · have hp : (tP T)[i]? = some ((tP T)[i]) := List.getElem?_eq_getElem hi
    generalize (tP T)[i] = p at hp
    obtain ⟨⟨r, u⟩, e1, hr, aj1, hu⟩ := m_against (fj := uJ m) (aj := uAJ m) (ar := uAR m) hW hms hM hp
    dsimp only at hr hu
    subst hu
    refine sim (T' := T) (r := r) hW ?_ ?_
    · show wp (fX11_counterexamples 0 (nI i) (mk x (uI x) (uJ x) (uAI x) (uAJ x) (uAR x))) _
      unfold fX11_counterexamples
      refine oE (hs.1 0 12 rfl) (x_isPolicy_ok hs hP.2.2.2.2.2.2.2.1.1 h8 rfl hi) (wp_f (by decide) (oR (hs.1 0 12 rfl) (hs.2.2 11 8 0 64 rfl) (oLR (hs.1 64 24 rfl) (hs.2.1 64 8 rfl) rfl (by omega) (by decide) (hP.1.2.2 i (by omega)) ?_)))
      refine oK2 (hs.1 0 12 rfl) (x_against hs hW hP hp) (fun y u hq => ?_)
      obtain ⟨q1, aj2, q2⟩ := hq
      dsimp only at q1 q2
      subst q2
      exact wp_some ⟨set_eq q1 hr, XR_mk hs hd hP⟩
    · show wp (fX12_counterexamples 0 (nI i) (mk m (uI m) (uJ m) (uAI m) (uAJ m) (uAR m))) _
      unfold fX12_counterexamples
      exact mE hms (m_noPolicy_ok hms hM.2.2.2.2.2.2.1.1 h8 rfl hi) (wp_t rfl (mE2 hms e1 (wp_some ⟨rfl, MR_mk hms hM⟩)))
  · refine sim (T' := T) (r := -9223372036854775808) hW ?_ ?_
    · show wp (fX11_counterexamples 0 x1 (mk x (uI x) (uJ x) (uAI x) (uAJ x) (uAR x))) _
      unfold fX11_counterexamples
      exact oE (hs.1 0 12 rfl) (x_isPolicy_bad hs hP.2.2.2.2.2.2.2.1.1 hb) (wp_t rfl (wp_some ⟨rfl, hs, hd, hP⟩))
    · show wp (fX12_counterexamples 0 x1 (mk m (uI m) (uJ m) (uAI m) (uAJ m) (uAR m))) _
      unfold fX12_counterexamples
      exact mE hms (m_noPolicy_bad hms hM.2.2.2.2.2.2.1.1 h8 hb) (wp_f (by decide) (wp_obe (v := -9223372036854775808) rfl (wp_some ⟨rfl, hms, hM⟩)))
/-- the violated ones of the first n policies -/
def ViP (T : TS) (n : Nat) (z : Int32) : Prop := ∃ v, z = nI v ∧ v < 2 ^ n ∧ ∀ i, v.testBit i = true ↔ i < n ∧ ∃ p, (tP T)[i]? = some p ∧ ∃ h, AgP T p h
theorem ViP.no {T : TS} {n : Nat} {z : Int32} {p : RT} (h : ViP T n z) (hp : (tP T)[n]? = some p) (hno : ¬ ∃ h, AgP T p h) : ViP T (n + 1) z := by
  obtain ⟨v, e1, e2, e3⟩ := h
  have := Nat.two_pow_pos n
  refine ⟨v, e1, by rw [Nat.pow_succ]; omega, fun i => ?_⟩
  rw [e3 i]
  refine ⟨fun H => ⟨by omega, H.2⟩, fun H => ⟨?_, H.2⟩⟩
  have : i ≠ n := fun e => by
    obtain ⟨_, p', H1, H2⟩ := H
    rw [e, hp] at H1; cases H1; exact hno H2
  omega
theorem ViP.yes {T : TS} {n : Nat} {z : Int32} {p : RT} (h : ViP T n z) (hn : n < 8) (hp : (tP T)[n]? = some p) (hy : ∃ h, AgP T p h) : ViP T (n + 1) (z ||| jsl 1 (nI n)) := by
  obtain ⟨v, e1, e2, e3⟩ := h
  refine ⟨v ||| 2 ^ n, by rw [e1, jsl_1 (by omega), nx_or], Nat.or_lt_two_pow (Nat.lt_trans e2 (Nat.pow_lt_pow_right (by decide) (by omega))) (Nat.pow_lt_pow_right (by decide) (by omega)), fun i => ?_⟩
  rw [Nat.testBit_or, Bool.or_eq_true, e3 i, Nat.testBit_two_pow, decide_eq_true_eq]
  constructor
  · rintro (H | H)
    · exact ⟨by omega, H.2⟩
    · subst H; exact ⟨by omega, p, hp, hy⟩
  · rintro ⟨H1, H2⟩
    by_cases e : n = i
    · exact Or.inr e
    · exact Or.inl ⟨by omega, H2⟩
theorem ViP.eq {T : TS} {n : Nat} {z z' : Int32} (h : ViP T n z) (h' : ViP T n z') : z = z' := by
  obtain ⟨v, rfl, _, e3⟩ := h
  obtain ⟨v', rfl, _, e3'⟩ := h'
  congr 1
  apply Nat.eq_of_testBit_eq
  intro i
  rw [Bool.eq_iff_iff, e3 i, e3' i]
theorem ViP.zero {T : TS} : ViP T 0 0 := ⟨0, rfl, by decide, fun i => ⟨fun H => (by simp at H), fun H => absurd H.1 (Nat.not_lt_zero _)⟩⟩
theorem s_violated (hR : RR T x m) : SIM T (fX11_violated 0 x) (fX12_violated 0 m) := by
  obtain ⟨hW, ⟨hs, hd, hP⟩, hms, hM⟩ := hR
  have h8 := hW.2.2.2.2.2.1.1
  have hm : wp (fX12_violated 0 (mk m (uI m) (uJ m) (uAI m) (uAJ m) (uAR m))) (fun q => ViP T (tP T).length q.1 ∧ ∃ aj', q.2 = mk m (uI m) (uJ m) (uAI m) aj' (uAR m)) := by
    unfold fX12_violated
    refine wp_obw (Q := fun q => ViP T (tP T).length q.1 ∧ ∃ aj', q.2 = mk m (uI m) (uJ m) (uAI m) aj' (uAR m)) ?_ (fun q hq => wp_some hq)
    refine it3_up2F (show (0 : Int32) = nI 0 from rfl) (tP T).length (by omega) (fun n z u => ViP T n z ∧ ∃ aj', u = mk m (uI m) (uJ m) (uAI m) aj' (uAR m)) (fun k n z u hn hI hk => ?_) (Nat.zero_le _) ⟨ViP.zero, uAJ m, rfl⟩
    obtain ⟨hz, aj', rfl⟩ := hI
    unfold fX12_violated_B4
    refine mI hms (wp_le hM.2.2.2.2.2.2.1.1 rfl (by omega) (by omega) (fun hc => wp_some ?_) (fun hc => ?_))
    · have : n = (tP T).length := by omega
      subst this; exact ⟨hz, aj', rfl⟩
    have hp : (tP T)[n]? = some ((tP T)[n]) := List.getElem?_eq_getElem hc
    generalize (tP T)[n] = p at hp
    refine mK2 hms (m_against hW hms hM hp) (fun y u hq => ?_)
    obtain ⟨q1, aj2, q2⟩ := hq
    dsimp only at q1 q2
    subst q2
    refine wp_if (fun e => wp_lt ?_) (fun e => wp_lt ?_)
    · rw [show z ||| (0 : Int32) = z from b_ext (fun i _ => by rw [b_or, b_0, Bool.or_false])]
      exact hk hc _ _ _ (nI_1 n) ⟨hz.no hp (fun ⟨h, H⟩ => by have := (q1 h).mpr H; rw [e, tb_0] at this; cases this), aj2, rfl⟩
    · obtain ⟨g, _, hg⟩ := tb_nz e
      exact hk hc _ _ _ (nI_1 n) ⟨hz.yes (by omega) hp ⟨g, (q1 g).mp hg⟩, aj2, rfl⟩
  obtain ⟨⟨r, u⟩, e1, hr, aj1, hu⟩ := hm
  dsimp only at hr hu
  subst hu
  refine sim (T' := T) (r := r) hW ?_ ⟨_, e1, rfl, MR_mk hms hM⟩
  show wp (fX11_violated 0 (mk x (uI x) (uJ x) (uAI x) (uAJ x) (uAR x))) _
  unfold fX11_violated
  refine wp_obw (Q := fun q => ViP T (tP T).length q.1 ∧ ∃ aj', q.2 = mk x (uI x) (uJ x) (uAI x) aj' (uAR x)) ?_ (fun q hq => ?_)
  · refine it3_up2F (show (0 : Int32) = nI 0 from rfl) (tP T).length (by omega) (fun n z u => ViP T n z ∧ ∃ aj', u = mk x (uI x) (uJ x) (uAI x) aj' (uAR x)) (fun k n z u hn hI hk => ?_) (Nat.zero_le _) ⟨ViP.zero, uAJ x, rfl⟩
    obtain ⟨hz, aj', rfl⟩ := hI
    unfold fX11_violated_B4
    refine oi (hs.1 0 12 rfl) (wp_le hP.2.2.2.2.2.2.2.1.1 rfl (by omega) (by omega) (fun hc => wp_some ?_) (fun hc => ?_))
    · have : n = (tP T).length := by omega
      subst this; exact ⟨hz, aj', rfl⟩
    have hp : (tP T)[n]? = some ((tP T)[n]) := List.getElem?_eq_getElem hc
    generalize (tP T)[n] = p at hp
    refine oR (hs.1 0 12 rfl) (hs.2.2 11 8 0 64 rfl) (oLR (hs.1 64 24 rfl) (hs.2.1 64 8 rfl) rfl (by omega) (by decide) (hP.1.2.2 n (by omega)) ?_)
    refine oK2 (hs.1 0 12 rfl) (x_against hs hW hP hp) (fun y u hq => ?_)
    obtain ⟨q1, aj2, q2⟩ := hq
    dsimp only at q1 q2
    subst q2
    refine wp_if (fun e => ?_) (fun e => wp_lt ?_)
    · exact hk hc _ _ _ (nI_1 n) ⟨hz.no hp (fun ⟨h, H⟩ => by have := (q1 h).mpr H; rw [e, tb_0] at this; cases this), aj2, rfl⟩
    · obtain ⟨g, _, hg⟩ := tb_nz e
      exact hk hc _ _ _ (nI_1 n) ⟨hz.yes (by omega) hp ⟨g, (q1 g).mp hg⟩, aj2, rfl⟩
  · obtain ⟨q1, aj2, q2⟩ := hq
    rw [q2]
    exact wp_some ⟨q1.eq hr, XR_mk hs hd hP⟩
end PUB
