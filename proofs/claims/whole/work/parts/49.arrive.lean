/-- what is injected -/
def ST (T : TS) : PS := fun q g => q = (tI T).1 ∧ g < 2 ^ tB T ∧ g &&& (tI T).2.1 = (tI T).2.2
theorem EntP.iff {b : Nat} {j : Nat × Nat × Nat} {s : Int64} (hb : BW b) (h : EntP b j s) (g : Nat) : tb s g = true ↔ g < 2 ^ b ∧ g &&& j.2.1 = j.2.2 := by
  have hp := (pow_b hb).2
  rcases Nat.lt_or_ge g 64 with h1 | h1
  · rw [h g h1, Bool.and_eq_true, decide_eq_true_eq, decide_eq_true_eq]
  · rw [tb_big h1]
    exact ⟨fun z => (by cases z), fun z => absurd z.1 (by omega)⟩
theorem ST_S {T : TS} {s : Int64} (hb : BW (tB T)) (h : EntP (tB T) (tI T) s) (q g : Nat) : ST T q g ↔ q = (tI T).1 ∧ tb s g = true := by
  unfold ST; rw [h.iff hb g]
theorem set_eq {x y : Int64} {P : Nat → Prop} (h1 : ∀ g, tb x g = true ↔ P g) (h2 : ∀ g, tb y g = true ↔ P g) : x = y := tb_ext (fun i _ => by rw [Bool.eq_iff_iff, h1 i, h2 i])
section
variable {T : TS} {x m : UH} {x1 x2 x3 x4 x5 x6 : Int32}
abbrev Arr (T : TS) : PS := Rc (tL T) (tR T) (ST T)
theorem Arr.rg (hW : WF T) : RgS (tB T) (Arr T) := Rc.rg hW.1 hW.2.1 hW.2.2.1 (fun q g h => ⟨by rw [h.1]; exact hW.2.2.2.2.1.1, h.2.1⟩)
theorem m_spreadAll (hW : WF T) (hms : mst m) (hM : MPic T (uI m) (uAI m)) : wp (fX12_spreadAll 0 (mk m (uI m) (uJ m) (uAI m) (uAJ m) (uAR m))) (fun u => ∃ aj', u = mk m (uI m) (uJ m) (uAI m) aj' (uAR m) ∧ (∀ q, q < 24 → ∀ g, tb (aj' 5 q) g = true ↔ Arr T q g) ∧ ∀ q, q < 24 → ∀ g, tb (aj' 7 q) g = true ↔ ∃ p' h, Arr T p' h ∧ Dlv (tL T) (tR T) p' h q g) := by
  unfold fX12_spreadAll
  refine mI hms (mKw hms (m_injected hms hM.1 hW.1 hW.2.2.2.2.1 hM.2.2.2.2.2.1.2.1 hM.2.2.2.2.2.1.2.2) (fun s hs => ?_))
  rw [hM.2.2.2.2.2.1.1]
  refine mKw hms (m_spread hms hM.1 hM.2.2.2.1 hM.2.1 hW.1 hW.2.1 hW.2.2.1 rfl hW.2.2.2.2.1.1 (s := s) (fun h hh => ((EntP.iff hW.1 hs h).mp hh).1) (S := ST T) (ST_S hW.1 hs)) (fun u hu => ?_)
  obtain ⟨aj', rfl, _, g1, g2⟩ := hu
  exact wp_some ⟨aj', rfl, g1, g2⟩
theorem x_spreadAll (hW : WF T) (hs : xst x) (hP : XPic T x (uI x) (uJ x) (uAI x) (uAR x)) : ∃ aj', fX2_spreadFrom 45 (uI x 11 10 0) (uJ x 11 11 0) (mk x (uI x) (uJ x) (uAI x) (uAJ x) (uAR x)) = some (mk x (uI x) (uJ x) (uAI x) aj' (uAR x)) ∧ ∀ q, q < 24 → ∀ g, tb (aj' 46 q) g = true ↔ Arr T q g := by
  have hE : EntP (tB T) (tI T) (uJ x 11 11 0) := hP.2.2.2.2.2.2.1.2
  obtain ⟨u, e, aj', rfl, h⟩ := x_spreadFrom (aj := uAJ x) hs hW hP hP.2.2.2.2.2.2.1.1 hW.2.2.2.2.1.1 (s := uJ x 11 11 0) (fun h hh => ((EntP.iff hW.1 hE h).mp hh).1) (S := ST T) (ST_S hW.1 hE)
  exact ⟨aj', e, h⟩
theorem s_arriving (hR : RR T x m) : SIM T (fX11_arriving 0 x1 x2 x) (fX12_arriving 0 x1 x2 m) := by
  obtain ⟨hW, ⟨hs, hd, hP⟩, hms, hM⟩ := hR
  rcases pl_or x1 x2 with ⟨i, j, hi, hj, rfl, rfl⟩ | hb
  · have hp : 4 * i + j < 24 := by omega
    obtain ⟨aj1, e1, hA⟩ := x_spreadAll hW hs hP
    refine sim (T' := T) (r := aj1 46 (4 * i + j)) hW ?_ ?_
    · show wp (fX11_arriving 0 (nI i) (nI j) (mk x (uI x) (uJ x) (uAI x) (uAJ x) (uAR x))) _
      unfold fX11_arriving
      refine wp_obe (x_isPlace_ok _ rfl rfl hi hj) (wp_f (by decide) (oR (hs.1 0 12 rfl) (hs.2.2 11 2 0 45 rfl) (oi (hs.1 0 12 rfl) (oJ (hs.1 0 12 rfl) (oE (hs.1 45 3 rfl) e1 ?_)))))
      exact oR (hs.1 0 12 rfl) (hs.2.2 11 2 0 45 rfl) (oR (hs.1 45 3 rfl) (hs.2.2 2 1 45 46 rfl) (wp_obe (x_placeOf _ rfl rfl) (oLJ (hs.1 46 21 rfl) (hs.2.1 46 24 rfl) rfl hp (by decide) (wp_some ⟨rfl, XR_mk hs hd hP⟩))))
    · show wp (fX12_arriving 0 (nI i) (nI j) (mk m (uI m) (uJ m) (uAI m) (uAJ m) (uAR m))) _
      unfold fX12_arriving
      refine wp_obe (m_noPlace_ok _ rfl rfl hi hj) (wp_t rfl (mKw hms (m_spreadAll hW hms hM) (fun u hu => ?_)))
      obtain ⟨aj2, rfl, h5, _⟩ := hu
      rw [pl1]
      refine mR hms rfl (mLJ hms rfl rfl (by decide) rfl hp (wp_some ⟨?_, MR_mk hms hM⟩))
      exact set_eq (h5 _ hp) (hA _ hp)
  · refine sim (T' := T) (r := -9223372036854775808) hW ?_ ?_
    · unfold fX11_arriving
      exact wp_obe (x_isPlace_bad _ hb) (wp_t rfl (wp_some ⟨rfl, hs, hd, hP⟩))
    · unfold fX12_arriving
      exact wp_obe (m_noPlace_bad _ hb) (wp_f (by decide) (wp_obe (v := -9223372036854775808) rfl (wp_some ⟨rfl, hms, hM⟩)))
end
section
variable {b : UH} {fi : Nat → Nat → Nat → Int32} {fj : Nat → Nat → Nat → Int64} {ai : Nat → Nat → Int32} {aj : Nat → Nat → Int64} {ar : Nat → Nat → Option Nat} {T : TS} {x1 x2 : Int32} {box n port : Nat}
theorem x_allHandled (hs : xst b) (hW : WF T) (hP : XPic T b fi fj ai ar) (h1 : x1 = nI box) (hb : box < 6) (h2 : x2 = nI n) (hn : n < (tR T box).length) : wp (fX2_allHandled 45 x1 x2 (mk b fi fj ai aj ar)) (fun y => ∀ h, tb y h = true ↔ h < 32 ∧ ∃ port, port < 4 ∧ tb (aj 46 (4 * box + port)) h = true ∧ hd (tR T box) port h = some n) := by
  have hL := hP.2.2.2.2.1 box hb
  have hA := LA_box box hb
  have hRW := (hW.2.2.1 box hb).2
  unfold fX2_allHandled
  refine oR (hs.1 45 3 rfl) (hs.2.2 2 0 45 1 rfl) (oR (hs.1 1 5 rfl) (hs.2.2 4 3 1 3 rfl) (oLR (hs.1 3 26 rfl) (hs.2.1 3 6 rfl) h1 hb (by decide) (hP.1.1 _ hb) ?_))
  refine wp_obw (Q := fun y => ∀ h, tb y h = true ↔ h < 32 ∧ ∃ port, port < 4 ∧ tb (aj 46 (4 * box + port)) h = true ∧ hd (tR T box) port h = some n) ?_ (fun y hy => wp_some hy)
  refine it2_up2F (show (0 : Int32) = nI 0 from rfl) 4 (by decide) (fun q y => ∀ h, tb y h = true ↔ h < 32 ∧ ∃ port, port < q ∧ tb (aj 46 (4 * box + port)) h = true ∧ hd (tR T box) port h = some n) (fun k q y hq hI hk => ?_) (Nat.zero_le _) (fun h => ⟨fun z => (by rw [tb_0] at z; cases z), fun ⟨_, port, hp, _⟩ => absurd hp (Nat.not_lt_zero _)⟩)
  unfold fX2_allHandled_B16
  refine wp_le (a := 4) rfl rfl (by decide) (by omega) (fun hc => wp_some ?_) (fun hc => ?_)
  · have : q = 4 := by omega
    subst this; exact hI
  · refine oR (hs.1 45 3 rfl) (hs.2.2 2 1 45 46 rfl) (wp_obe (x_placeOf _ h1 rfl) (oLJ (hs.1 46 21 rfl) (hs.2.1 46 24 rfl) rfl (by omega) (by decide) ?_))
    refine oKw (hs.1 _ _ hA.1) (x_handled hs hA hL hRW h2 hn rfl hc _) (fun w hw => wp_lt (hk hc _ _ (nI_1 q) (fun h => ?_)))
    rw [tb_or, Bool.or_eq_true, hI h, ex_lt]
    constructor
    · rintro (⟨H, H2⟩ | H)
      · exact ⟨H, Or.inl H2⟩
      · obtain ⟨a1, a2, a3⟩ := (hw h (tb_lt64 H)).mp H
        exact ⟨a2, Or.inr ⟨a1, a3⟩⟩
    · rintro ⟨H, H2 | ⟨H2, H3⟩⟩
      · exact Or.inl ⟨H, H2⟩
      · exact Or.inr ((hw h (by omega)).mpr ⟨H2, H, H3⟩)
theorem x_deliveredAt (hs : xst b) (hW : WF T) (hP : XPic T b fi fj ai ar) (h46 : ∀ q, q < 24 → ∀ g, tb (aj 46 q) g = true ↔ Arr T q g) (h1 : x1 = nI box) (hb : box < 6) (h2 : x2 = nI port) (hpo : port < 4) : wp (fX2_deliveredAt 45 x1 x2 (mk b fi fj ai aj ar)) (fun y => ∀ g, tb y g = true ↔ ∃ p' h, Arr T p' h ∧ Dlv (tL T) (tR T) p' h (4 * box + port) g) := by
  have hL := hP.2.2.2.2.1 box hb
  have h6 := hL.2.1
  have hA := LA_box box hb
  have hRW := (hW.2.2.1 box hb).2
  have hpl : 4 * box + port < 24 := by omega
  have hrg := Arr.rg hW
  unfold fX2_deliveredAt
  refine oR (hs.1 45 3 rfl) (hs.2.2 2 0 45 1 rfl) (oR (hs.1 1 5 rfl) (hs.2.2 4 2 1 2 rfl) (wp_obe (x_placeOf _ h1 h2) (oL (hs.1 2 20 rfl) (hs.2.1 2 24 rfl) rfl hpl (by decide) ?_)))
  rw [hP.2.2.1 _ hpl]
  cases hlk : tL T (4 * box + port) with
  | some q0 =>
    have hq0 := (hW.2.1 _ _ hlk).2.1
    refine wp_f (fun e => by have := (oI_m1 (o := some q0) (fun q hq => by cases hq; omega)).mp e; cases this) (wp_some (fun g => ⟨fun H => (by rw [tb_0] at H; cases H), ?_⟩))
    rintro ⟨p', h, _, o, _, _, H⟩
    rw [hlk] at H; cases H
  | none =>
    refine wp_t rfl (oR (hs.1 45 3 rfl) (hs.2.2 2 0 45 1 rfl) (oR (hs.1 1 5 rfl) (hs.2.2 4 3 1 3 rfl) (oLR (hs.1 3 26 rfl) (hs.2.1 3 6 rfl) h1 hb (by decide) (hP.1.1 _ hb) ?_)))
    have hD : ∀ g, (∃ p' h, Arr T p' h ∧ Dlv (tL T) (tR T) p' h (4 * box + port) g) ↔ ∃ i r, (tR T box)[i]? = some r ∧ (r 3).testBit port = true ∧ ∃ h, h < 32 ∧ g = rw5 r h ∧ ∃ po, po < 4 ∧ tb (aj 46 (4 * box + po)) h = true ∧ hd (tR T box) po h = some i := by
      intro g
      constructor
      · rintro ⟨p', h, a1, o, ⟨ho, i, r, a2, a3, a4, a5⟩, a6, _⟩
        have hp' := hrg _ _ a1
        have eb : p' / 4 = box := by omega
        have eo : o = port := by omega
        rw [eb] at a2 a3
        subst eo
        refine ⟨i, r, a3, a4, h, lt32 hW.1 hp'.2, a5, p' % 4, Nat.mod_lt _ (by decide), ?_, a2⟩
        rw [show 4 * box + p' % 4 = p' by omega]
        exact (h46 p' hp'.1 h).mpr a1
      · rintro ⟨i, r, a1, a2, h, a3, a4, po, a5, a6, a7⟩
        refine ⟨4 * box + po, h, (h46 _ (by omega) h).mp a6, port, ⟨hpo, i, r, ?_, ?_, a2, a4⟩, by omega, hlk⟩
        · rw [show (4 * box + po) / 4 = box by omega, show (4 * box + po) % 4 = po by omega]; exact a7
        · rw [show (4 * box + po) / 4 = box by omega]; exact a1
    refine wp_obw (Q := fun y => ∀ g, tb y g = true ↔ ∃ p' h, Arr T p' h ∧ Dlv (tL T) (tR T) p' h (4 * box + port) g) ?_ (fun y hy => wp_some hy)
    refine it2_up2F (show (0 : Int32) = nI 0 from rfl) (tR T box).length (by omega) (fun n y => ∀ g, tb y g = true ↔ ∃ i, i < n ∧ ∃ r, (tR T box)[i]? = some r ∧ (r 3).testBit port = true ∧ ∃ h, h < 32 ∧ g = rw5 r h ∧ ∃ po, po < 4 ∧ tb (aj 46 (4 * box + po)) h = true ∧ hd (tR T box) po h = some i) (fun k n y hn hI hk => ?_) (Nat.zero_le _) (fun h => ⟨fun z => (by rw [tb_0] at z; cases z), fun ⟨_, hp, _⟩ => absurd hp (Nat.not_lt_zero _)⟩)
    unfold fX2_deliveredAt_B35
    refine oi (hs.1 _ _ hA.1) ?_
    rw [hL.1]
    refine wp_le rfl rfl (by omega) (by omega) (fun hc => wp_some (fun g => ?_)) (fun hc => ?_)
    · rw [hI g, hD g]
      constructor
      · rintro ⟨i, _, r, H⟩; exact ⟨i, r, H⟩
      · rintro ⟨i, r, H, H2⟩
        have := (List.getElem?_eq_some_iff.mp H).1
        exact ⟨i, by omega, r, H, H2⟩
    · have hr : (tR T box)[n]? = some ((tR T box)[n]'hc) := List.getElem?_eq_getElem hc
      generalize (tR T box)[n] = r at hr
      have hrw := hRW r (List.mem_of_getElem? hr)
      obtain ⟨ra, e1, e2⟩ := hL.2.2.2 n r hr
      have hr3 := hrw.2.2.2.2.2.1
      refine oR (hs.1 _ _ hA.1) (hs.2.2 _ _ _ _ hA.2.2.2) (oLR (hs.1 _ _ hA.2.1) (hs.2.1 _ _ hA.2.2.1) rfl (by omega) (by decide) e1 (oi e2.1 (wp_obe (x_hasPort _ (e2.2.1 3 (by decide)) h2 (by omega) (by omega)) ?_)))
      cases ht : (r 3).testBit port with
      | false =>
        refine wp_t rfl (hk hc _ _ (nI_1 n) (fun g => ?_))
        rw [hI g, ex_lt]
        constructor
        · exact Or.inl
        · rintro (H | ⟨r', H1, H2, _⟩)
          · exact H
          · rw [hr] at H1; cases H1
            rw [ht] at H2; cases H2
      | true =>
        refine wp_f (by decide) (oKw (hs.1 45 3 rfl) (x_allHandled hs hW hP h1 hb rfl hc) (fun y2 hy2 => ?_))
        have h32 : In32 y2 := fun i hi => by
          cases hq : tb y2 i with
          | false => rfl
          | true =>
            have := ((hy2 i).mp hq).1
            omega
        refine oKw e2.1 (x_rewrittenSet e2 hW.1 hrw h32) (fun w hw => wp_lt (hk hc _ _ (nI_1 n) (fun g => ?_)))
        rw [tb_or, Bool.or_eq_true, hI g, ex_lt]
        constructor
        · rintro (H | H)
          · exact Or.inl H
          · obtain ⟨h, a1, a2, a3⟩ := (hw.2 g (hw.1.lt H)).mp H
            exact Or.inr ⟨r, hr, ht, h, a1, a3.symm, ((hy2 h).mp a2).2⟩
        · rintro (H | ⟨r', H1, H2, h, a1, a2, a3⟩)
          · exact Or.inl H
          · rw [hr] at H1; cases H1
            refine Or.inr ((hw.2 g ?_).mpr ⟨h, a1, (hy2 h).mpr ⟨a1, a3⟩, a2.symm⟩)
            rw [a2]; unfold rw5
            exact Nat.or_lt_two_pow (n := 5) (Nat.lt_of_le_of_lt Nat.and_le_left a1) (lt32 hW.1 hrw.2.2.2.2.2.2.2.1)
end
section PUB
variable {T : TS} {x m : UH} {x1 x2 x3 x4 x5 x6 : Int32}
theorem s_delivered (hR : RR T x m) : SIM T (fX11_delivered 0 x1 x2 x) (fX12_delivered 0 x1 x2 m) := by
  obtain ⟨hW, ⟨hs, hd, hP⟩, hms, hM⟩ := hR
  rcases pl_or x1 x2 with ⟨i, j, hi, hj, rfl, rfl⟩ | hb
  · have hp : 4 * i + j < 24 := by omega
    obtain ⟨aj1, e1, hA⟩ := x_spreadAll hW hs hP
    obtain ⟨y, e2, hy⟩ := x_deliveredAt (aj := aj1) hs hW hP hA (x1 := nI i) (x2 := nI j) rfl hi rfl hj
    refine sim (T' := T) (r := y) hW ?_ ?_
    · show wp (fX11_delivered 0 (nI i) (nI j) (mk x (uI x) (uJ x) (uAI x) (uAJ x) (uAR x))) _
      unfold fX11_delivered
      refine wp_obe (x_isPlace_ok _ rfl rfl hi hj) (wp_f (by decide) (oR (hs.1 0 12 rfl) (hs.2.2 11 2 0 45 rfl) (oi (hs.1 0 12 rfl) (oJ (hs.1 0 12 rfl) (oE (hs.1 45 3 rfl) e1 ?_)))))
      exact oR (hs.1 0 12 rfl) (hs.2.2 11 2 0 45 rfl) (oE (hs.1 45 3 rfl) e2 (wp_some ⟨rfl, XR_mk hs hd hP⟩))
    · show wp (fX12_delivered 0 (nI i) (nI j) (mk m (uI m) (uJ m) (uAI m) (uAJ m) (uAR m))) _
      unfold fX12_delivered
      refine wp_obe (m_noPlace_ok _ rfl rfl hi hj) (wp_t rfl (mKw hms (m_spreadAll hW hms hM) (fun u hu => ?_)))
      obtain ⟨aj2, rfl, _, h7⟩ := hu
      rw [pl1]
      refine mR hms rfl (mLJ hms rfl rfl (by decide) rfl hp (wp_some ⟨?_, MR_mk hms hM⟩))
      exact set_eq (h7 _ hp) hy
  · refine sim (T' := T) (r := -9223372036854775808) hW ?_ ?_
    · unfold fX11_delivered
      exact wp_obe (x_isPlace_bad _ hb) (wp_t rfl (wp_some ⟨rfl, hs, hd, hP⟩))
    · unfold fX12_delivered
      exact wp_obe (m_noPlace_bad _ hb) (wp_f (by decide) (wp_obe (v := -9223372036854775808) rfl (wp_some ⟨rfl, hms, hM⟩)))
end PUB
