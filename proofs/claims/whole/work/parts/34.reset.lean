section
variable {b : UH} {fi : Nat → Nat → Nat → Int32} {fj : Nat → Nat → Nat → Int64} {ai : Nat → Nat → Int32} {aj : Nat → Nat → Int64} {ar : Nat → Nat → Option Nat} {bits : Nat}
theorem x_startAnew (hs : xst b) (ha : xar ar) (x1 : Int32) : wp (fX4_startAnew 1 x1 (mk b fi fj ai aj ar)) (fun u => ∃ fi', u = mk b fi' fj (filA ai 2 24 (-1)) aj ar ∧ fi' 4 0 1 = x1 ∧ fi' 4 1 1 = 0 ∧ (∀ c k a, c ≠ 7 → c ≠ 4 → fi' c k a = fi c k a) ∧ ∀ j, j < 6 → fi' 7 1 (5 + 2 * j) = 0) := by
  unfold fX4_startAnew
  refine oW (hs.1 1 5 rfl) (oW (hs.1 1 5 rfl) (oR (hs.1 1 5 rfl) (hs.2.2 4 2 1 2 rfl) (wp_obe (j_fillI (hs.1 2 20 rfl) (hs.2.1 2 24 rfl) (by decide) _) ?_)))
  refine wp_obw (Q := fun u => ∃ fi', u = mk b fi' fj (filA ai 2 24 (-1)) aj ar ∧ (∀ c k a, c ≠ 7 → fi' c k a = up3 (up3 fi 4 0 1 x1) 4 1 1 0 c k a) ∧ ∀ j, j < 6 → fi' 7 1 (5 + 2 * j) = 0) ?_ (fun u hu => ?_)
  · refine it2_up1F (show (0 : Int32) = nI 0 from rfl) 6 (by decide) (fun i u => ∃ fi', u = mk b fi' fj (filA ai 2 24 (-1)) aj ar ∧ (∀ c k a, c ≠ 7 → fi' c k a = up3 (up3 fi 4 0 1 x1) 4 1 1 0 c k a) ∧ ∀ j, j < i → fi' 7 1 (5 + 2 * j) = 0) (fun k i u hi hI hk => ?_) (Nat.zero_le _) ⟨_, rfl, fun _ _ _ _ => rfl, fun j hj => absurd hj (Nat.not_lt_zero _)⟩
    unfold fX4_startAnew_B20
    refine wp_le (a := 6) rfl rfl (by decide) (by omega) (fun hc => wp_some ?_) (fun hc => ?_)
    · have : i = 6 := by omega
      subst this; exact hI
    · obtain ⟨fi', rfl, h1, h2⟩ := hI
      refine oR (hs.1 1 5 rfl) (hs.2.2 4 3 1 3 rfl) (oLR (hs.1 3 26 rfl) (hs.2.1 3 6 rfl) rfl hc (by decide) (ha.1 i hc) (oW (hs.1 _ _ (LA_box i hc).1) (hk hc _ _ (nI_1 i) ⟨_, rfl, fun c k a hc7 => by rw [up3_c hc7]; exact h1 c k a hc7, fun j hj => ?_⟩)))
      by_cases e : j = i
      · subst e; exact up3_s
      · rw [up3_a (by omega)]; exact h2 j (by omega)
  · obtain ⟨fi', rfl, h1, h2⟩ := hu
    exact wp_some ⟨fi', rfl, by rw [h1 _ _ _ (by decide), up3_k (by decide), up3_s], by rw [h1 _ _ _ (by decide), up3_s], fun c k a h7 h4 => by rw [h1 c k a h7, up3_c h4, up3_c h4], h2⟩
theorem m_begin (hs : mst b) : wp (fX12_begin 0 (mk b fi fj ai aj ar)) (fun u => ∃ ai', u = mk b (up3 (up3 (up3 (up3 (up3 (up3 fi 12 2 0 0) 12 4 0 0) 12 5 0 0) 12 6 0 0) 12 19 0 0) 12 7 0 0) fj ai' aj ar ∧ (∀ a, a ≠ 1 → a ≠ 2 → ai' a = ai a) ∧ (∀ p, p < 24 → ai' 1 p = -1) ∧ ∀ j, j < 6 → ai' 2 (252 + j) = 0) := by
  unfold fX12_begin
  refine wp_obw (Q := fun u => ∃ ai', u = mk b fi fj ai' aj ar ∧ (∀ a, a ≠ 1 → ai' a = ai a) ∧ ∀ p, p < 24 → ai' 1 p = -1) ?_ (fun u hu => ?_)
  · refine it2_up1F (show (0 : Int32) = nI 0 from rfl) 24 (by decide) (fun i u => ∃ ai', u = mk b fi fj ai' aj ar ∧ (∀ a, a ≠ 1 → ai' a = ai a) ∧ ∀ p, p < i → ai' 1 p = -1) (fun k i u hi hI hk => ?_) (Nat.zero_le _) ⟨_, rfl, fun _ _ => rfl, fun j hj => absurd hj (Nat.not_lt_zero _)⟩
    unfold fX12_begin_B2
    refine wp_le (a := 24) rfl rfl (by decide) (by omega) (fun hc => wp_some ?_) (fun hc => ?_)
    · have : i = 24 := by omega
      subst this; exact hI
    · obtain ⟨ai', rfl, h1, h2⟩ := hI
      refine mR hs rfl (mS hs rfl rfl (by decide) rfl hc (hk hc _ _ (nI_1 i) ⟨_, rfl, fun a ha => by rw [up2_a ha]; exact h1 a ha, fun j hj => ?_⟩))
      rw [up2_is]
      split
      · rfl
      · exact h2 j (by omega)
  · obtain ⟨ai1, rfl, h1, h2⟩ := hu
    refine mW hs (wp_obw (Q := fun u => ∃ ai', u = mk b (up3 fi 12 2 0 0) fj ai' aj ar ∧ (∀ a, a ≠ 2 → ai' a = ai1 a) ∧ ∀ j, j < 6 → ai' 2 (252 + j) = 0) ?_ (fun u hu => ?_))
    · refine it2_up1F (show (0 : Int32) = nI 0 from rfl) 6 (by decide) (fun i u => ∃ ai', u = mk b (up3 fi 12 2 0 0) fj ai' aj ar ∧ (∀ a, a ≠ 2 → ai' a = ai1 a) ∧ ∀ j, j < i → ai' 2 (252 + j) = 0) (fun k i u hi hI hk => ?_) (Nat.zero_le _) ⟨_, rfl, fun _ _ => rfl, fun j hj => absurd hj (Nat.not_lt_zero _)⟩
      unfold fX12_begin_B28
      refine wp_le (a := 6) rfl rfl (by decide) (by omega) (fun hc => wp_some ?_) (fun hc => ?_)
      · have : i = 6 := by omega
        subst this; exact hI
      · obtain ⟨ai', rfl, h1, h2⟩ := hI
        refine mR hs rfl (mS hs rfl rfl (by decide) (i := 252 + i) (nI_add 252 i) (by omega) (hk hc _ _ (nI_1 i) ⟨_, rfl, fun a ha => by rw [up2_a ha]; exact h1 a ha, fun j hj => ?_⟩))
        rw [up2_is]
        split
        · rfl
        · exact h2 j (by omega)
    · obtain ⟨ai2, rfl, h3, h4⟩ := hu
      refine mW hs (mW hs (mW hs (mW hs (mW hs (wp_some ⟨ai2, rfl, fun a ha1 ha2 => by rw [h3 a ha2, h1 a ha1], fun p hp => by rw [h3 1 (by decide)]; exact h2 p hp, h4⟩)))))
end
section PUB
variable {T : TS} {x m : UH} {x1 x2 x3 x4 x5 : Int32}
theorem s_reset (hR : RR T x m) : SIM T (fX11_reset 0 x1 x) (fX12_reset 0 x1 m) := by
  obtain ⟨hW, ⟨hs, hd, hP⟩, hms, hM⟩ := hR
  have bads : (x1 < 1 ∨ (5 : Int32) < x1) → SIM T (fX11_reset 0 x1 x) (fX12_reset 0 x1 m) := by
    intro hb
    refine sim (T' := T) (r := -3) hW ?_ ?_
    · unfold fX11_reset
      refine wp_if (fun _ => wp_some ⟨rfl, hs, hd, hP⟩) (fun h1 => wp_if (fun h5 => ?_) (fun _ => wp_some ⟨rfl, hs, hd, hP⟩))
      rcases hb with hb | hb
      · exact absurd hb h1
      · exact absurd h5 (Int32.not_le.mpr hb)
    · unfold fX12_reset
      have hin : fX12_in x1 1 5 m = some 0 := by
        unfold fX12_in
        by_cases h1 : x1 < 1
        · rw [if_pos h1]
        · rcases hb with hb | hb
          · exact absurd hb h1
          · rw [if_neg h1, if_pos hb]
      exact wp_obe hin (wp_t rfl (wp_some ⟨rfl, hms, hM⟩))
  rcases ix x1 6 (by decide) with ⟨n, hn, rfl⟩ | hb
  · rcases Nat.eq_zero_or_pos n with h0 | h0
    · subst h0; exact bads (Or.inl (by decide))
    · have hin : fX12_in (nI n) 1 5 m = some 1 := by
        unfold fX12_in
        rw [if_neg (show ¬ nI n < (1 : Int32) from nI_nlt (b := 1) h0 (by omega)), if_neg (show ¬ (5 : Int32) < nI n from nI_nlt (a := 5) (by omega) (by decide))]
      have hbw : BW n := ⟨h0, by omega⟩
      have hp := (pow_b hbw).1
      refine sim (T' := (n, fun _ => none, 0, fun _ => [], [], (0, 0, 0), [], tT T)) (r := nI (tB T)) ?_ ?_ ?_
      · refine ⟨hbw, fun p q h => (by cases h), fun box _ => ⟨Nat.zero_le _, fun r hr => by cases hr⟩, ⟨Nat.zero_le _, fun H hH => by cases hH⟩, ⟨(show 0 < 24 by decide), ?_, ?_, (show (0 : Nat) &&& 0 = 0 by decide)⟩, ⟨Nat.zero_le _, fun H hH => by cases hH⟩, hW.2.2.2.2.2.2⟩
        · show 0 < 2 ^ n; omega
        · show 0 < 2 ^ n; omega
      · show wp (fX11_reset 0 (nI n) (mk x (uI x) (uJ x) (uAI x) (uAJ x) (uAR x))) _
        unfold fX11_reset
        refine wp_f (show ¬ nI n < nI 1 from nI_nlt h0 (by omega)) (wp_t (show nI n ≤ nI 5 from nI_le (by omega) (by decide)) ?_)
        refine oR (hs.1 0 12 rfl) (hs.2.2 11 0 0 1 rfl) (oi (hs.1 1 5 rfl) (oR (hs.1 0 12 rfl) (hs.2.2 11 0 0 1 rfl) (oKw (hs.1 1 5 rfl) (x_startAnew hs hP.1 _) (fun u hu => ?_))))
        obtain ⟨fi', rfl, e1, e2, e3, e4⟩ := hu
        refine oR (hs.1 0 12 rfl) (hs.2.2 11 1 0 17 rfl) (oW (hs.1 17 4 rfl) (oW (hs.1 0 12 rfl) (oW (hs.1 0 12 rfl) (oR (hs.1 0 12 rfl) (hs.2.2 11 0 0 1 rfl) ?_))))
        refine oKw (hs.1 1 5 rfl) (x_allHeaders hs (by rw [up3_c (by decide), up3_c (by decide), up3_c (by decide)]; exact e1) hbw) (fun s es => oWJ (hs.1 0 12 rfl) (wp_some ⟨hP.2.1, XR_mk hs hd ?_⟩))
        obtain ⟨p1, p2, p3, p4, p5, ⟨p6, nx, p7, p8, p9⟩, ⟨p10, p11⟩, ⟨p12, p13⟩, p14, p15⟩ := hP
        refine ⟨p1, by rw [up3_c (by decide), up3_c (by decide), up3_c (by decide)]; exact e1, fun p hp => filA_i hp, by rw [up3_c (by decide), up3_c (by decide), up3_c (by decide)]; exact e2, fun box hb => ?_, ⟨by rw [up3_c (by decide), up3_c (by decide), up3_s]; rfl, nx, p7, by rw [up3_c (by decide), up3_c (by decide), up3_k (by decide), e3 _ _ _ (by decide) (by decide)]; exact p8, trivial⟩, ⟨by rw [up3_s]; rfl, by rw [up3_s]; exact fun h hh => by rw [es h hh]; simp [tB, tI]; rfl⟩, ⟨by rw [up3_k (by decide), up3_s]; rfl, fun i p hp => by cases hp⟩, by rw [up3_c (by decide), up3_c (by decide), up3_c (by decide), e3 _ _ _ (by decide) (by decide)]; exact p14, fun i c hc => by rw [filA_a (by decide)]; exact p15 i c hc⟩
        refine ⟨by rw [up3_c (by decide), up3_c (by decide), up3_c (by decide)]; exact e4 box hb, Nat.zero_le _, (p5 box hb).2.2.1, fun i r hr => by cases hr⟩
      · show wp (fX12_reset 0 (nI n) (mk m (uI m) (uJ m) (uAI m) (uAJ m) (uAR m))) _
        unfold fX12_reset
        refine wp_obe hin (wp_f (by decide) (mI hms (mW hms (mKw hms (m_begin hms) (fun u hu => ?_)))))
        obtain ⟨ai', rfl, e1, e2, e3⟩ := hu
        refine wp_some ⟨hM.1, MR_mk hms ?_⟩
        obtain ⟨p1, p2, p3, p4, ⟨p5, p6⟩, ⟨p7, p8, p9⟩, ⟨p10, p11⟩, p12, p13⟩ := hM
        refine ⟨by rw [up3_k (by decide), up3_k (by decide), up3_k (by decide), up3_k (by decide), up3_k (by decide), up3_k (by decide), up3_s]; rfl, fun p hp => e2 p hp, by rw [up3_k (by decide), up3_k (by decide), up3_k (by decide), up3_k (by decide), up3_k (by decide), up3_s]; rfl, fun box hb => ⟨e3 box hb, fun i r hr => by cases hr⟩, ⟨by rw [up3_s]; rfl, fun j H hH => by cases hH⟩, ⟨by rw [up3_k (by decide), up3_k (by decide), up3_k (by decide), up3_k (by decide), up3_s]; rfl, by rw [up3_k (by decide), up3_k (by decide), up3_k (by decide), up3_s]; rfl, by rw [up3_k (by decide), up3_k (by decide), up3_s]; rfl⟩, ⟨by rw [up3_k (by decide), up3_s]; rfl, fun i p hp => by cases hp⟩, by rw [up3_k (by decide), up3_k (by decide), up3_k (by decide), up3_k (by decide), up3_k (by decide), up3_k (by decide), up3_k (by decide)]; exact p12, by rw [e1 17 (by decide) (by decide)]; exact p13⟩
  · refine bads ?_
    rcases hb with h | h
    · exact Or.inl (Int32.lt_trans h (by decide))
    · exact Or.inr (Int32.lt_of_lt_of_le (by decide) h)
end PUB
