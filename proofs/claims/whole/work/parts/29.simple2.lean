section PUB
variable {T : TS} {x m : UH} {x1 x2 x3 x4 x5 : Int32}
theorem s_clearPolicies (hR : RR T x m) : SIM T (fX11_clearPolicies 0 x) (fX12_clearPolicies 0 m) := by
  obtain ⟨hW, ⟨hs, hd, hP⟩, hms, hM⟩ := hR
  refine sim (T' := (tB T, tL T, tN T, tR T, tH T, tI T, [], tT T)) (r := nI (tP T).length) ?_ ?_ ?_
  · obtain ⟨w1, w2, w3, w4, w5, w6, w7⟩ := hW
    exact ⟨w1, w2, w3, w4, w5, ⟨Nat.zero_le _, fun p hp => by cases hp⟩, w7⟩
  · show wp (fX11_clearPolicies 0 (mk x (uI x) (uJ x) (uAI x) (uAJ x) (uAR x))) _
    unfold fX11_clearPolicies
    refine oi (hs.1 0 12 rfl) (oW (hs.1 0 12 rfl) (wp_some ⟨?_, XR_mk hs hd ?_⟩))
    · exact hP.2.2.2.2.2.2.2.1.1
    · have hP0 := hP
      obtain ⟨p1, p2, p3, p4, p5, ⟨p6, nx, p7, p8, p9⟩, ⟨p10, p11⟩, ⟨p12, p13⟩, p14, p15⟩ := hP
      exact hP0.keep ⟨rfl, rfl⟩ (fun c k a hc => up3_c (by omega)) (fun _ _ => rfl) rfl ((up3_c (by decide)).trans p2) p3 ((up3_c (by decide)).trans p4) ((up3_k (by decide)).trans p10) p11 up3_s (fun i p hp => by cases hp) ((up3_c (by decide)).trans p14) p15
  · show wp (fX12_clearPolicies 0 (mk m (uI m) (uJ m) (uAI m) (uAJ m) (uAR m))) _
    unfold fX12_clearPolicies
    refine mI hms (mW hms (wp_some ⟨hM.2.2.2.2.2.2.1.1, MR_mk hms ?_⟩))
    obtain ⟨p1, p2, p3, p4, ⟨p5, p6⟩, ⟨p7, p8, p9⟩, ⟨p10, p11⟩, p12, p13⟩ := hM
    exact ⟨(up3_k (by decide)).trans p1, p2, (up3_k (by decide)).trans p3, p4, ⟨(up3_k (by decide)).trans p5, p6⟩, ⟨(up3_k (by decide)).trans p7, (up3_k (by decide)).trans p8, (up3_k (by decide)).trans p9⟩, ⟨up3_s, fun i p hp => by cases hp⟩, (up3_k (by decide)).trans p12, p13⟩
/-- a list with one more at its end -/
theorem get_snoc {α : Type} {l : List α} {v w : α} {i : Nat} (h : (l ++ [v])[i]? = some w) : (i < l.length ∧ l[i]? = some w) ∨ (i = l.length ∧ w = v) := by
  rcases Nat.lt_or_ge i l.length with h1 | h1
  · rw [List.getElem?_append_left h1] at h; exact Or.inl ⟨h1, h⟩
  · rw [List.getElem?_append_right h1] at h
    have h2 : i - l.length < 1 := (List.getElem?_eq_some_iff.mp h).1
    rw [show i - l.length = 0 by omega] at h
    cases h
    exact Or.inr ⟨by omega, rfl⟩
theorem s_type (hR : RR T x m) : SIM T (fX11_type 0 x1 x) (fX12_type 0 x1 m) := by
  obtain ⟨hW, ⟨hs, hd, hP⟩, hms, hM⟩ := hR
  have h40 : (tT T).length ≤ 40 := hW.2.2.2.2.2.2
  have e14 : uI x 9 1 60 = nI (tT T).length := hP.2.2.2.2.2.2.2.2.1
  have e12 : uI m 12 25 0 = nI (tT T).length := hM.2.2.2.2.2.2.2.1
  by_cases hf : (tT T).length = 40
  · refine sim (T' := T) (r := -5) hW ?_ ?_
    · show wp (fX11_type 0 x1 (mk x (uI x) (uJ x) (uAI x) (uAJ x) (uAR x))) _
      unfold fX11_type
      refine oR (hs.1 0 12 rfl) (hs.2.2 11 6 0 60 rfl) (oi (hs.1 60 10 rfl) ?_)
      rw [e14, hf]
      exact wp_f (by decide) (wp_some ⟨rfl, hs, hd, hP⟩)
    · show wp (fX12_type 0 x1 (mk m (uI m) (uJ m) (uAI m) (uAJ m) (uAR m))) _
      unfold fX12_type
      refine mI hms ?_
      rw [e12, hf]
      exact wp_t rfl (wp_some ⟨rfl, hms, hM⟩)
  · have hlt : (tT T).length < 40 := by omega
    refine sim (T' := (tB T, tL T, tN T, tR T, tH T, tI T, tP T, tT T ++ [vp_nar .char x1])) (r := nI ((tT T).length + 1)) ?_ ?_ ?_
    · obtain ⟨w1, w2, w3, w4, w5, w6, w7⟩ := hW
      exact ⟨w1, w2, w3, w4, w5, w6, by show (tT T ++ [_]).length ≤ 40; rw [List.length_append]; simp; omega⟩
    · show wp (fX11_type 0 x1 (mk x (uI x) (uJ x) (uAI x) (uAJ x) (uAR x))) _
      unfold fX11_type
      refine oR (hs.1 0 12 rfl) (hs.2.2 11 6 0 60 rfl) (oi (hs.1 60 10 rfl) ?_)
      rw [e14]
      refine wp_t (nI_lt hlt (by decide)) ?_
      refine oR (hs.1 0 12 rfl) (hs.2.2 11 6 0 60 rfl) (oR (hs.1 60 10 rfl) (hs.2.2 9 0 60 61 rfl) (oR (hs.1 0 12 rfl) (hs.2.2 11 6 0 60 rfl) (oi (hs.1 60 10 rfl) ?_)))
      refine oSC (hs.1 61 22 rfl) (hs.2.1 61 40 rfl) e14 hlt (by decide) ?_
      refine oR (hs.1 0 12 rfl) (hs.2.2 11 6 0 60 rfl) (oi (hs.1 60 10 rfl) (oW (hs.1 60 10 rfl) (oR (hs.1 0 12 rfl) (hs.2.2 11 6 0 60 rfl) (oi (hs.1 60 10 rfl) (wp_some ⟨?_, XR_mk hs hd ?_⟩)))))
      · dsimp only; rw [up3_s, e14]; exact nI_1 _
      · have hP0 := hP
        obtain ⟨p1, p2, p3, p4, p5, ⟨p6, nx, p7, p8, p9⟩, ⟨p10, p11⟩, ⟨p12, p13⟩, p14, p15⟩ := hP
        refine hP0.keep ⟨rfl, rfl⟩ (fun c k a hc => up3_c (by omega)) (fun _ _ => rfl) (up2_a (by decide)) ((up3_c (by decide)).trans p2) (by rw [up2_a (by decide)]; exact p3) ((up3_c (by decide)).trans p4) ((up3_c (by decide)).trans p10) p11 ((up3_c (by decide)).trans p12) (fun i p hp => ?_) ?_ (fun i c hc => ?_)
        · obtain ⟨q1, q2, q3, q4⟩ := p13 i p hp
          exact ⟨(up3_c (by decide)).trans q1, (up3_c (by decide)).trans q2, (up3_c (by decide)).trans q3, q4⟩
        · rw [up3_s, e14]
          show nI _ + 1 = nI (tT T ++ [_]).length
          rw [List.length_append]; exact nI_1 _
        · rcases get_snoc hc with ⟨h1, h2⟩ | ⟨h1, h2⟩
          · rw [up2_i (by omega)]; exact p15 i c h2
          · rw [h1, h2, up2_s]
    · show wp (fX12_type 0 x1 (mk m (uI m) (uJ m) (uAI m) (uAJ m) (uAR m))) _
      unfold fX12_type
      refine mI hms ?_
      refine wp_f (by rw [e12]; exact fun h => hf ((nI_eq (by omega) (by decide)).mp (h.trans (show (40 : Int32) = nI 40 from rfl)))) ?_
      refine mR hms rfl (mI hms (mSC hms rfl rfl (by decide) e12 hlt (mI hms (mW hms (mI hms (wp_some ⟨?_, MR_mk hms ?_⟩))))))
      · dsimp only; rw [up3_s, e12]; exact nI_1 _
      · obtain ⟨p1, p2, p3, p4, ⟨p5, p6⟩, ⟨p7, p8, p9⟩, ⟨p10, p11⟩, p12, p13⟩ := hM
        have ea : ∀ a, a ≠ 17 → up2 (uAI m) 17 (tT T).length (vp_nar .char x1) a = uAI m a := fun a ha => up2_a ha
        refine ⟨(up3_k (by decide)).trans p1, by rw [ea _ (by decide)]; exact p2, (up3_k (by decide)).trans p3, by rw [ea _ (by decide)]; exact p4, ⟨(up3_k (by decide)).trans p5, by rw [ea 3 (by decide)]; exact p6⟩, ⟨(up3_k (by decide)).trans p7, (up3_k (by decide)).trans p8, (up3_k (by decide)).trans p9⟩, ⟨(up3_k (by decide)).trans p10, ?_⟩, ?_, fun i c hc => ?_⟩
        · rw [ea 12 (by decide), ea 13 (by decide), ea 14 (by decide), ea 15 (by decide), ea 16 (by decide)]; exact p11
        · rw [up3_s, e12]
          show nI _ + 1 = nI (tT T ++ [_]).length
          rw [List.length_append]; exact nI_1 _
        · rcases get_snoc hc with ⟨h1, h2⟩ | ⟨h1, h2⟩
          · rw [up2_i (by omega)]; exact p13 i c h2
          · rw [h1, h2, up2_s]
/-! links -/
def lkSet (lk : LK) (a b : Nat) (va vb : Option Nat) : LK := fun p => if p = a then va else if p = b then vb else lk p
theorem s_connect (hR : RR T x m) : SIM T (fX11_connect 0 x1 x2 x3 x4 x) (fX12_connect 0 x1 x2 x3 x4 m) := by
  obtain ⟨hW, ⟨hs, hd, hP⟩, hms, hM⟩ := hR
  have bd := fun p => lk_bnd hW.2.1 (p := p)
  have hl : LkP (uAI x 2) (tL T) := hP.2.2.1
  have hl2 : LkP (uAI m 1) (tL T) := hM.2.1
  rcases pl_or x1 x2 with ⟨i, j, hi, hj, rfl, rfl⟩ | hb
  · rcases pl_or x3 x4 with ⟨i', j', hi', hj', rfl, rfl⟩ | hb
    · have hp : 4 * i + j < 24 := by omega
      have hq : 4 * i' + j' < 24 := by omega
      generalize ea : 4 * i + j = a at hp
      generalize eb : 4 * i' + j' = b at hq
      by_cases hc : a = b ∨ tL T a ≠ none ∨ tL T b ≠ none
      · refine sim (T' := T) (r := -4) hW ?_ ?_
        · show wp (fX11_connect 0 (nI i) (nI j) (nI i') (nI j') (mk x (uI x) (uJ x) (uAI x) (uAJ x) (uAR x))) _
          unfold fX11_connect
          refine wp_obe (x_isPlace_ok _ rfl rfl hi hj) (wp_f (by decide) (wp_obe (x_isPlace_ok _ rfl rfl hi' hj') (wp_f (by decide) (wp_obe (x_placeOf _ rfl rfl) (wp_obe (x_placeOf _ rfl rfl) ?_)))))
          rw [ea, eb]
          refine wp_eqq rfl rfl (by omega) (by omega) (fun _ => wp_some ⟨rfl, hs, hd, hP⟩) (fun hne => ?_)
          refine oR (hs.1 0 12 rfl) (hs.2.2 11 0 0 1 rfl) (oR (hs.1 1 5 rfl) (hs.2.2 4 2 1 2 rfl) (oL (hs.1 2 20 rfl) (hs.2.1 2 24 rfl) rfl hp (by decide) ?_))
          rw [hl _ hp]
          refine wp_if (fun h1 => ?_) (fun h1 => wp_some ⟨rfl, hs, hd, hP⟩)
          refine oR (hs.1 0 12 rfl) (hs.2.2 11 0 0 1 rfl) (oR (hs.1 1 5 rfl) (hs.2.2 4 2 1 2 rfl) (oL (hs.1 2 20 rfl) (hs.2.1 2 24 rfl) rfl hq (by decide) ?_))
          rw [hl _ hq]
          refine wp_if (fun h2 => ?_) (fun h2 => wp_some ⟨rfl, hs, hd, hP⟩)
          rcases hc with hc | hc | hc
          · exact absurd hc hne
          · exact absurd ((oI_m1 (bd a)).mp h1) hc
          · exact absurd ((oI_m1 (bd b)).mp h2) hc
        · show wp (fX12_connect 0 (nI i) (nI j) (nI i') (nI j') (mk m (uI m) (uJ m) (uAI m) (uAJ m) (uAR m))) _
          unfold fX12_connect
          refine wp_obe (m_noPlace_ok _ rfl rfl hi hj) (wp_t rfl (wp_obe (m_noPlace_ok _ rfl rfl hi' hj') (wp_t rfl (wp_lt (wp_lt ?_)))))
          rw [pl1, pl1, ea, eb]
          refine wp_eqq rfl rfl (by omega) (by omega) (fun _ => wp_some ⟨rfl, hms, hM⟩) (fun hne => ?_)
          refine mR hms rfl (mL hms rfl rfl (by decide) rfl hp ?_)
          rw [hl2 _ hp]
          refine wp_if (fun h1 => wp_some ⟨rfl, hms, hM⟩) (fun h1 => ?_)
          refine mR hms rfl (mL hms rfl rfl (by decide) rfl hq ?_)
          rw [hl2 _ hq]
          refine wp_if (fun h2 => ?_) (fun h2 => wp_some ⟨rfl, hms, hM⟩)
          rcases hc with hc | hc | hc
          · exact absurd hc hne
          · exact absurd ((oI_nn (bd a)).mpr hc) h1
          · exact absurd ((oI_neg (bd b)).mp h2) hc
      · have hne : a ≠ b := fun h => hc (Or.inl h)
        have na : tL T a = none := Classical.byContradiction fun h => hc (Or.inr (Or.inl h))
        have nb : tL T b = none := Classical.byContradiction fun h => hc (Or.inr (Or.inr h))
        have newP : ∀ row : Nat → Nat → Int32, ∀ q, LkP (row q) (tL T) → LkP (up2 (up2 row q a (nI b)) q b (nI a) q) (lkSet (tL T) a b (some b) (some a)) := by
          intro row q h p hp24
          unfold lkSet
          rw [up2_is]
          by_cases e1 : p = b
          · subst e1; rw [if_pos rfl, if_neg (Ne.symm hne), if_pos rfl]; rfl
          · rw [if_neg e1, up2_is]
            by_cases e2 : p = a
            · subst e2; rw [if_pos rfl, if_pos rfl]; rfl
            · rw [if_neg e2, if_neg e2, if_neg e1]; exact h p hp24
        refine sim (T' := (tB T, lkSet (tL T) a b (some b) (some a), tN T + 1, tR T, tH T, tI T, tP T, tT T)) (r := tN T + 1) ?_ ?_ ?_
        · obtain ⟨w1, w2, w3, w4, w5, w6, w7⟩ := hW
          refine ⟨w1, ?_, w3, w4, w5, w6, w7⟩
          intro p q hpq
          replace hpq : lkSet (tL T) a b (some b) (some a) p = some q := hpq
          show p < 24 ∧ q < 24 ∧ lkSet (tL T) a b (some b) (some a) q = some p ∧ p ≠ q
          unfold lkSet at hpq ⊢
          by_cases e1 : p = a
          · rw [if_pos e1] at hpq; cases hpq
            subst e1
            rw [if_neg (Ne.symm hne), if_pos rfl]
            exact ⟨hp, hq, rfl, hne⟩
          · rw [if_neg e1] at hpq
            by_cases e2 : p = b
            · rw [if_pos e2] at hpq; cases hpq
              subst e2
              rw [if_pos rfl]
              exact ⟨hq, hp, rfl, Ne.symm hne⟩
            · rw [if_neg e2] at hpq
              obtain ⟨z1, z2, z3, z4⟩ := w2 p q hpq
              have e3 : q ≠ a := fun h => by subst h; rw [na] at z3; cases z3
              have e4 : q ≠ b := fun h => by subst h; rw [nb] at z3; cases z3
              rw [if_neg e3, if_neg e4]
              exact ⟨z1, z2, z3, z4⟩
        · show wp (fX11_connect 0 (nI i) (nI j) (nI i') (nI j') (mk x (uI x) (uJ x) (uAI x) (uAJ x) (uAR x))) _
          unfold fX11_connect
          refine wp_obe (x_isPlace_ok _ rfl rfl hi hj) (wp_f (by decide) (wp_obe (x_isPlace_ok _ rfl rfl hi' hj') (wp_f (by decide) (wp_obe (x_placeOf _ rfl rfl) (wp_obe (x_placeOf _ rfl rfl) ?_)))))
          rw [ea, eb]
          refine wp_eqq rfl rfl (by omega) (by omega) (fun h => absurd h hne) (fun _ => ?_)
          refine oR (hs.1 0 12 rfl) (hs.2.2 11 0 0 1 rfl) (oR (hs.1 1 5 rfl) (hs.2.2 4 2 1 2 rfl) (oL (hs.1 2 20 rfl) (hs.2.1 2 24 rfl) rfl hp (by decide) ?_))
          rw [hl _ hp, na]
          refine wp_t rfl ?_
          refine oR (hs.1 0 12 rfl) (hs.2.2 11 0 0 1 rfl) (oR (hs.1 1 5 rfl) (hs.2.2 4 2 1 2 rfl) (oL (hs.1 2 20 rfl) (hs.2.1 2 24 rfl) rfl hq (by decide) ?_))
          rw [hl _ hq, nb]
          refine wp_t rfl ?_
          refine oR (hs.1 0 12 rfl) (hs.2.2 11 0 0 1 rfl) (oR (hs.1 1 5 rfl) (hs.2.2 4 2 1 2 rfl) (oS (hs.1 2 20 rfl) (hs.2.1 2 24 rfl) rfl hp (by decide) ?_))
          refine oR (hs.1 0 12 rfl) (hs.2.2 11 0 0 1 rfl) (oR (hs.1 1 5 rfl) (hs.2.2 4 2 1 2 rfl) (oS (hs.1 2 20 rfl) (hs.2.1 2 24 rfl) rfl hq (by decide) ?_))
          refine oR (hs.1 0 12 rfl) (hs.2.2 11 0 0 1 rfl) (oi (hs.1 1 5 rfl) (oW (hs.1 1 5 rfl) (oR (hs.1 0 12 rfl) (hs.2.2 11 0 0 1 rfl) (oi (hs.1 1 5 rfl) (wp_some ⟨?_, XR_mk hs hd ?_⟩)))))
          · dsimp only; rw [up3_s, hP.2.2.2.1]
          · have hP0 := hP
            obtain ⟨p1, p2, p3, p4, p5, ⟨p6, nx, p7, p8, p9⟩, ⟨p10, p11⟩, ⟨p12, p13⟩, p14, p15⟩ := hP
            refine hP0.keep ⟨rfl, rfl⟩ (fun c k a hc => up3_c (by omega)) (fun _ _ => rfl) (by rw [up2_a (by decide), up2_a (by decide)]) ((up3_k (by decide)).trans p2) (newP _ _ p3) (by rw [up3_s, p4]; rfl) ((up3_c (by decide)).trans p10) p11 ((up3_c (by decide)).trans p12) (fun i p hp => ?_) ((up3_c (by decide)).trans p14) (fun i c hc => by rw [up2_a (by decide), up2_a (by decide)]; exact p15 i c hc)
            obtain ⟨q1, q2, q3, q4⟩ := p13 i p hp
            exact ⟨(up3_c (by decide)).trans q1, (up3_c (by decide)).trans q2, (up3_c (by decide)).trans q3, q4⟩
        · show wp (fX12_connect 0 (nI i) (nI j) (nI i') (nI j') (mk m (uI m) (uJ m) (uAI m) (uAJ m) (uAR m))) _
          unfold fX12_connect
          refine wp_obe (m_noPlace_ok _ rfl rfl hi hj) (wp_t rfl (wp_obe (m_noPlace_ok _ rfl rfl hi' hj') (wp_t rfl (wp_lt (wp_lt ?_)))))
          rw [pl1, pl1, ea, eb]
          refine wp_eqq rfl rfl (by omega) (by omega) (fun h => absurd h hne) (fun _ => ?_)
          refine mR hms rfl (mL hms rfl rfl (by decide) rfl hp ?_)
          rw [hl2 _ hp, na]
          refine wp_f (by decide) (mR hms rfl (mL hms rfl rfl (by decide) rfl hq ?_))
          rw [hl2 _ hq, nb]
          refine wp_t (by decide) (mR hms rfl (mS hms rfl rfl (by decide) rfl hp (mR hms rfl (mS hms rfl rfl (by decide) rfl hq (mI hms (mW hms (mI hms (wp_some ⟨?_, MR_mk hms ?_⟩))))))))
          · dsimp only; rw [up3_s, hM.2.2.1]
          · obtain ⟨p1, p2, p3, p4, ⟨p5, p6⟩, ⟨p7, p8, p9⟩, ⟨p10, p11⟩, p12, p13⟩ := hM
            have ea : ∀ q, q ≠ 1 → up2 (up2 (uAI m) 1 a (nI b)) 1 b (nI a) q = uAI m q := fun q hq => by rw [up2_a hq, up2_a hq]
            refine ⟨(up3_k (by decide)).trans p1, newP _ _ p2, by rw [up3_s, p3]; rfl, by rw [ea _ (by decide)]; exact p4, ⟨(up3_k (by decide)).trans p5, by rw [ea 3 (by decide)]; exact p6⟩, ⟨(up3_k (by decide)).trans p7, (up3_k (by decide)).trans p8, (up3_k (by decide)).trans p9⟩, ⟨(up3_k (by decide)).trans p10, ?_⟩, (up3_k (by decide)).trans p12, by rw [ea 17 (by decide)]; exact p13⟩
            rw [ea 12 (by decide), ea 13 (by decide), ea 14 (by decide), ea 15 (by decide), ea 16 (by decide)]; exact p11
    · refine sim (T' := T) (r := -1) hW ?_ ?_
      · unfold fX11_connect
        exact wp_obe (x_isPlace_ok _ rfl rfl hi hj) (wp_f (by decide) (wp_obe (x_isPlace_bad _ hb) (wp_t rfl (wp_some ⟨rfl, hs, hd, hP⟩))))
      · unfold fX12_connect
        exact wp_obe (m_noPlace_ok _ rfl rfl hi hj) (wp_t rfl (wp_obe (m_noPlace_bad _ hb) (wp_f (by decide) (wp_some ⟨rfl, hms, hM⟩))))
  · refine sim (T' := T) (r := -1) hW ?_ ?_
    · unfold fX11_connect
      exact wp_obe (x_isPlace_bad _ hb) (wp_t rfl (wp_some ⟨rfl, hs, hd, hP⟩))
    · unfold fX12_connect
      exact wp_obe (m_noPlace_bad _ hb) (wp_f (by decide) (wp_some ⟨rfl, hms, hM⟩))
end PUB
