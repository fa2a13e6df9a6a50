theorem xK_pol : ∀ i, i < 8 → xKd (65 + i) = some 6 := by decide
theorem x_isPolicy_ok {b : UH} {fi : Nat → Nat → Nat → Int32} {fj : Nat → Nat → Nat → Int64} {ai : Nat → Nat → Int32} {aj : Nat → Nat → Int64} {ar : Nat → Nat → Option Nat} {x1 : Int32} {n i : Nat} (hs : xst b) (h : fi 11 9 0 = nI n) (hn : n ≤ 8) (hx : x1 = nI i) (hi : i < n) : fX11_isPolicy 0 x1 (mk b fi fj ai aj ar) = some 1 := by
  refine of_wp ?_
  unfold fX11_isPolicy
  rw [hx]
  refine wp_f (nI_pos (by omega)) (oi (hs.1 0 12 rfl) ?_)
  rw [h]
  exact wp_f (nI_ge hi (by omega)) (wp_some rfl)
theorem x_isPolicy_bad {b : UH} {fi : Nat → Nat → Nat → Int32} {fj : Nat → Nat → Nat → Int64} {ai : Nat → Nat → Int32} {aj : Nat → Nat → Int64} {ar : Nat → Nat → Option Nat} {x1 : Int32} {n : Nat} (hs : xst b) (h : fi 11 9 0 = nI n) (hx : bad x1 n) : fX11_isPolicy 0 x1 (mk b fi fj ai aj ar) = some 0 := by
  refine of_wp ?_
  unfold fX11_isPolicy
  rcases hx with hx | hx
  · exact wp_t hx (wp_some rfl)
  · refine wp_if (fun _ => wp_some rfl) (fun _ => oi (hs.1 0 12 rfl) ?_)
    rw [h]
    exact wp_t hx (wp_some rfl)
theorem m_noPolicy_ok {b : UH} {fi : Nat → Nat → Nat → Int32} {fj : Nat → Nat → Nat → Int64} {ai : Nat → Nat → Int32} {aj : Nat → Nat → Int64} {ar : Nat → Nat → Option Nat} {x1 : Int32} {n i : Nat} (hs : mst b) (h : fi 12 19 0 = nI n) (hn : n ≤ 8) (hx : x1 = nI i) (hi : i < n) : fX12_noPolicy 0 x1 (mk b fi fj ai aj ar) = some 0 := by
  refine of_wp ?_
  unfold fX12_noPolicy
  refine mI hs ?_
  rw [h]
  exact wp_obe (m_in_ok _ hx rfl rfl hi (by omega)) (wp_f (by decide) (wp_some rfl))
theorem m_noPolicy_bad {b : UH} {fi : Nat → Nat → Nat → Int32} {fj : Nat → Nat → Nat → Int64} {ai : Nat → Nat → Int32} {aj : Nat → Nat → Int64} {ar : Nat → Nat → Option Nat} {x1 : Int32} {n : Nat} (hs : mst b) (h : fi 12 19 0 = nI n) (hn : n ≤ 8) (hx : bad x1 n) : fX12_noPolicy 0 x1 (mk b fi fj ai aj ar) = some 1 := by
  refine of_wp ?_
  unfold fX12_noPolicy
  refine mI hs ?_
  rw [h]
  exact wp_obe (m_in_bad _ hx rfl rfl (by omega)) (wp_t (by decide) (wp_some rfl))
theorem nar_b {x : Int32} (h : x = 0 ∨ x = 1) : vp_nar .boolean x = x := by
  rcases h with rfl | rfl <;> decide
section PUB
variable {T : TS} {x m : UH} {x1 x2 x3 x4 x5 : Int32}
theorem s_addPolicy (hR : RR T x m) (h01 : x1 = 0 ∨ x1 = 1) : SIM T (fX11_addPolicy 0 x1 x2 x3 x4 x5 x) (fX12_addPolicy 0 x1 x2 x3 x4 x5 m) := by
  obtain ⟨hW, ⟨hs, hd, hP⟩, hms, hM⟩ := hR
  have hbw : BW (tB T) := hW.1
  have hp2 := (pow_b hbw).2
  have hbx : uI x 4 0 1 = nI (tB T) := hP.2.1
  have hbm : uI m 12 0 0 = nI (tB T) := hM.1
  have h8 : (tP T).length ≤ 8 := hW.2.2.2.2.2.1.1
  have ex : uI x 11 9 0 = nI (tP T).length := hP.2.2.2.2.2.2.2.1.1
  have em : uI m 12 19 0 = nI (tP T).length := hM.2.2.2.2.2.2.1.1
  rcases pl_or x2 x3 with ⟨i, j, hi, hj, rfl, rfl⟩ | hb
  · rcases pl_or x4 x5 with ⟨i', j', hi', hj', rfl, rfl⟩ | hb
    · by_cases hf : (tP T).length = 8
      · refine sim (T' := T) (r := -5) hW ?_ ?_
        · show wp (fX11_addPolicy 0 x1 (nI i) (nI j) (nI i') (nI j') (mk x (uI x) (uJ x) (uAI x) (uAJ x) (uAR x))) _
          unfold fX11_addPolicy
          refine wp_obe (x_isPlace_ok _ rfl rfl hi hj) (wp_f (by decide) (wp_obe (x_isPlace_ok _ rfl rfl hi' hj') (wp_f (by decide) (oi (hs.1 0 12 rfl) ?_))))
          rw [ex, hf]
          exact wp_f (by decide) (wp_some ⟨rfl, hs, hd, hP⟩)
        · show wp (fX12_addPolicy 0 x1 (nI i) (nI j) (nI i') (nI j') (mk m (uI m) (uJ m) (uAI m) (uAJ m) (uAR m))) _
          unfold fX12_addPolicy
          refine wp_obe (m_noPlace_ok _ rfl rfl hi hj) (wp_t rfl (wp_obe (m_noPlace_ok _ rfl rfl hi' hj') (wp_t rfl (mI hms ?_))))
          rw [em, hf]
          exact wp_t rfl (wp_some ⟨rfl, hms, hM⟩)
      · have hlt : (tP T).length < 8 := by omega
        generalize hn : (tP T).length = n at *
        obtain ⟨k1, ek, hk1⟩ : ∃ k1, x1 = nI k1 ∧ (k1 = 0 ∨ k1 = 1) := by
          rcases h01 with rfl | rfl
          · exact ⟨0, rfl, Or.inl rfl⟩
          · exact ⟨1, rfl, Or.inr rfl⟩
        have hp : 4 * i + j < 24 := by omega
        have hq : 4 * i' + j' < 24 := by omega
        have hk65 := hs.1 (65 + n) 6 (xK_pol n hlt)
        refine sim (T' := (tB T, tL T, tN T, tR T, tH T, tI T, tP T ++ [fun k => match k with | 0 => k1 | 1 => 4 * i + j | 2 => 4 * i' + j' | _ => 0], tT T)) (r := nI n) ?_ ?_ ?_
        · obtain ⟨w1, w2, w3, w4, w5, w6, w7⟩ := hW
          refine ⟨w1, w2, w3, w4, w5, ⟨?_, fun p hp' => ?_⟩, w7⟩
          · show (tP T ++ [_]).length ≤ 8
            rw [List.length_append, hn]; simp; omega
          · rcases List.mem_append.mp hp' with h | h
            · exact w6.2 p h
            · rw [List.mem_singleton] at h
              subst h
              exact ⟨hk1, hp, hq, Nat.two_pow_pos _, Nat.two_pow_pos _, by show (0 : Nat) &&& 0 = 0; decide⟩
        · show wp (fX11_addPolicy 0 x1 (nI i) (nI j) (nI i') (nI j') (mk x (uI x) (uJ x) (uAI x) (uAJ x) (uAR x))) _
          unfold fX11_addPolicy
          refine wp_obe (x_isPlace_ok _ rfl rfl hi hj) (wp_f (by decide) (wp_obe (x_isPlace_ok _ rfl rfl hi' hj') (wp_f (by decide) (oi (hs.1 0 12 rfl) ?_))))
          rw [ex]
          refine wp_t (nI_lt hlt (by decide)) ?_
          refine oR (hs.1 0 12 rfl) (hs.2.2 11 8 0 64 rfl) (oi (hs.1 0 12 rfl) (oLR (hs.1 64 24 rfl) (hs.2.1 64 8 rfl) ex hlt (by decide) (hP.1.2.2 n hlt) ?_))
          refine oWZ hk65 h01 (wp_obe (x_placeOf _ rfl rfl) (oW hk65 (wp_obe (x_placeOf _ rfl rfl) (oW hk65 (oR (hs.1 0 12 rfl) (hs.2.2 11 0 0 1 rfl) ?_)))))
          refine oKw (hs.1 1 5 rfl) (x_allHeaders hs (by rw [up3_c (by decide), up3_c (by decide), up3_c (by decide)]; exact hbx) hbw) (fun s es => ?_)
          refine oWJ hk65 (oi (hs.1 0 12 rfl) (oW (hs.1 0 12 rfl) (oi (hs.1 0 12 rfl) (wp_some ⟨?_, XR_mk hs hd ?_⟩))))
          · dsimp only
            rw [up3_s, up3_c (by decide), up3_c (by decide), up3_c (by decide), ex, nI_1]
            exact nI_pred n
          · have hP0 := hP
            obtain ⟨p1, p2, p3, p4, p5, ⟨p6, nx, p7, p8, p9⟩, ⟨p10, p11⟩, ⟨p12, p13⟩, p14, p15⟩ := hP
            have e : ∀ c k a v w1 w2 w3, c ≠ 5 → (c ≠ 11 ∨ k ≠ 9) → up3 (up3 (up3 (up3 (uI x) 5 0 (65 + n) w1) 5 1 (65 + n) w2) 5 2 (65 + n) w3) 11 9 0 v c k a = uI x c k a := by
              intro c k a v w1 w2 w3 h5 h11
              rw [show up3 (up3 (up3 (up3 (uI x) 5 0 (65 + n) w1) 5 1 (65 + n) w2) 5 2 (65 + n) w3) 11 9 0 v c k a = up3 (up3 (up3 (uI x) 5 0 (65 + n) w1) 5 1 (65 + n) w2) 5 2 (65 + n) w3 c k a from by
                rcases h11 with h | h
                · exact up3_c h
                · exact up3_k h, up3_c h5, up3_c h5, up3_c h5]
            refine hP0.keep ⟨rfl, rfl⟩ (fun c k a hc => e _ _ _ _ _ _ _ (by omega) (by omega)) (fun _ _ => up3_c (by decide)) rfl ((e _ _ _ _ _ _ _ (by decide) (by decide)).trans p2) p3 ((e _ _ _ _ _ _ _ (by decide) (by decide)).trans p4) ((e _ _ _ _ _ _ _ (by decide) (by decide)).trans p10) (by rw [up3_c (by decide)]; exact p11) ?_ (fun i2 p hp' => ?_) ((e _ _ _ _ _ _ _ (by decide) (by decide)).trans p14) p15
            · rw [up3_s, up3_c (by decide), up3_c (by decide), up3_c (by decide), ex, nI_1]
              show nI (n + 1) = nI (tP T ++ [_]).length
              rw [List.length_append, hn]; rfl
            · rcases get_snoc hp' with ⟨h1, h2⟩ | ⟨h1, h2⟩
              · obtain ⟨q1, q2, q3, q4⟩ := p13 i2 p h2
                have hne : 65 + i2 ≠ 65 + n := by omega
                refine ⟨?_, ?_, ?_, fun h hh => by rw [up3_a hne]; exact q4 h hh⟩
                · rw [up3_c (by decide), up3_a hne, up3_a hne, up3_a hne]; exact q1
                · rw [up3_c (by decide), up3_a hne, up3_a hne, up3_a hne]; exact q2
                · rw [up3_c (by decide), up3_a hne, up3_a hne, up3_a hne]; exact q3
              · rw [hn] at h1
                subst h1; subst h2
                refine ⟨?_, ?_, ?_, fun h hh => by rw [up3_s, es h hh]; simp; rfl⟩
                · rw [up3_c (by decide), up3_k (by decide), up3_k (by decide), up3_s]; exact ek
                · rw [up3_c (by decide), up3_k (by decide), up3_s]; rfl
                · rw [up3_c (by decide), up3_s]; rfl
        · show wp (fX12_addPolicy 0 x1 (nI i) (nI j) (nI i') (nI j') (mk m (uI m) (uJ m) (uAI m) (uAJ m) (uAR m))) _
          unfold fX12_addPolicy
          refine wp_obe (m_noPlace_ok _ rfl rfl hi hj) (wp_t rfl (wp_obe (m_noPlace_ok _ rfl rfl hi' hj') (wp_t rfl (mI hms ?_))))
          refine wp_f (by rw [em]; exact fun h => hf ((nI_eq (by omega) (by decide)).mp (h.trans (show (8 : Int32) = nI 8 from rfl)))) ?_
          refine mR hms rfl (mI hms (mSZ hms rfl rfl (by decide) em hlt (mR hms rfl (mI hms (mS hms rfl rfl (by decide) em hlt (mR hms rfl (mI hms (mS hms rfl rfl (by decide) em hlt (mR hms rfl (mI hms (mS hms rfl rfl (by decide) em hlt (mR hms rfl (mI hms (mS hms rfl rfl (by decide) em hlt (mI hms (mW hms (mI hms (wp_some ⟨?_, MR_mk hms ?_⟩))))))))))))))))))
          · dsimp only
            rw [up3_s, em, nI_1]
            exact nI_pred n
          · rw [nar_b h01, pl1, pl1]
            obtain ⟨p1, p2, p3, p4, ⟨p5, p6⟩, ⟨p7, p8, p9⟩, ⟨p10, p11⟩, p12, p13⟩ := hM
            refine ⟨(up3_k (by decide)).trans p1, by rw [up2_a (by decide), up2_a (by decide), up2_a (by decide), up2_a (by decide), up2_a (by decide)]; exact p2, (up3_k (by decide)).trans p3, by rw [up2_a (by decide), up2_a (by decide), up2_a (by decide), up2_a (by decide), up2_a (by decide)]; exact p4, ⟨(up3_k (by decide)).trans p5, by rw [up2_a (a' := 3) (by decide), up2_a (a' := 3) (by decide), up2_a (a' := 3) (by decide), up2_a (a' := 3) (by decide), up2_a (a' := 3) (by decide)]; exact p6⟩, ⟨(up3_k (by decide)).trans p7, (up3_k (by decide)).trans p8, (up3_k (by decide)).trans p9⟩, ⟨?_, fun i2 p hp' => ?_⟩, (up3_k (by decide)).trans p12, by rw [up2_a (a' := 17) (by decide), up2_a (a' := 17) (by decide), up2_a (a' := 17) (by decide), up2_a (a' := 17) (by decide), up2_a (a' := 17) (by decide)]; exact p13⟩
            · rw [up3_s, em, nI_1]
              show nI (n + 1) = nI (tP T ++ [_]).length
              rw [List.length_append, hn]; rfl
            · rw [up2_a (a' := 12) (by decide), up2_a (a' := 12) (by decide), up2_a (a' := 12) (by decide), up2_a (a' := 12) (by decide), up2_a (a' := 13) (by decide), up2_a (a' := 13) (by decide), up2_a (a' := 13) (by decide), up2_a (a' := 14) (by decide), up2_a (a' := 14) (by decide), up2_a (a' := 15) (by decide), up2_is, up2_is, up2_is, up2_is, up2_is, up2_a (a' := 13) (by decide), up2_a (a' := 14) (by decide), up2_a (a' := 14) (by decide), up2_a (a' := 15) (by decide), up2_a (a' := 15) (by decide), up2_a (a' := 15) (by decide), up2_a (a' := 16) (by decide), up2_a (a' := 16) (by decide), up2_a (a' := 16) (by decide), up2_a (a' := 16) (by decide)]
              rcases get_snoc hp' with ⟨h1, h2⟩ | ⟨h1, h2⟩
              · have hne : i2 ≠ n := by omega
                rw [if_neg hne, if_neg hne, if_neg hne, if_neg hne, if_neg hne]
                exact p11 i2 p h2
              · rw [hn] at h1
                subst h2
                rw [if_pos h1, if_pos h1, if_pos h1, if_pos h1, if_pos h1]
                exact ⟨ek, rfl, rfl, rfl, rfl⟩
    · refine sim (T' := T) (r := -1) hW ?_ ?_
      · unfold fX11_addPolicy
        exact wp_obe (x_isPlace_ok _ rfl rfl hi hj) (wp_f (by decide) (wp_obe (x_isPlace_bad _ hb) (wp_t rfl (wp_some ⟨rfl, hs, hd, hP⟩))))
      · unfold fX12_addPolicy
        exact wp_obe (m_noPlace_ok _ rfl rfl hi hj) (wp_t rfl (wp_obe (m_noPlace_bad _ hb) (wp_f (by decide) (wp_some ⟨rfl, hms, hM⟩))))
  · refine sim (T' := T) (r := -1) hW ?_ ?_
    · unfold fX11_addPolicy
      exact wp_obe (x_isPlace_bad _ hb) (wp_t rfl (wp_some ⟨rfl, hs, hd, hP⟩))
    · unfold fX12_addPolicy
      exact wp_obe (m_noPlace_bad _ hb) (wp_f (by decide) (wp_some ⟨rfl, hms, hM⟩))
theorem s_setPolicyCube (hR : RR T x m) : SIM T (fX11_setPolicyCube 0 x1 x2 x3 x) (fX12_setPolicyCube 0 x1 x2 x3 m) := by
  obtain ⟨hW, ⟨hs, hd, hP⟩, hms, hM⟩ := hR
  have hbw : BW (tB T) := hW.1
  have hp2 := (pow_b hbw).2
  have hbx : uI x 4 0 1 = nI (tB T) := hP.2.1
  have hbm : uI m 12 0 0 = nI (tB T) := hM.1
  have h8 : (tP T).length ≤ 8 := hW.2.2.2.2.2.1.1
  have ex : uI x 11 9 0 = nI (tP T).length := hP.2.2.2.2.2.2.2.1.1
  have em : uI m 12 19 0 = nI (tP T).length := hM.2.2.2.2.2.2.1.1
  rcases ix x1 (tP T).length (by omega) with ⟨i, hi, rfl⟩ | hb
  · have hcu : (∃ c v, c < 2 ^ tB T ∧ v < 2 ^ tB T ∧ x2 = nI c ∧ x3 = nI v) ∨ (bad x2 (2 ^ tB T) ∨ bad x3 (2 ^ tB T)) := by
      rcases ix x2 (2 ^ tB T) (by omega) with ⟨c, hc, e⟩ | e
      · rcases ix x3 (2 ^ tB T) (by omega) with ⟨v, hv, e2⟩ | e2
        · exact Or.inl ⟨c, v, hc, hv, e, e2⟩
        · exact Or.inr (Or.inr e2)
      · exact Or.inr (Or.inl e)
    rcases hcu with ⟨c, v, hc, hv, rfl, rfl⟩ | hcu
    · have lc := lt32 hbw hc
      have lv := lt32 hbw hv
      obtain ⟨s0, hs0⟩ : ∃ s0 : Int64, EntP (tB T) (0, c, v &&& c) s0 := by
        obtain ⟨s1, -, e1⟩ := x_allHeaders (fj := uJ x) (ai := uAI x) (aj := uAJ x) (ar := uAR x) hs hbx hbw
        obtain ⟨s2, -, e2⟩ := x_cubeHeaders x rfl rfl lc lv
        exact ⟨s1 &&& s2, ent_and hbw e1 e2 _⟩
      have hp0 : (tP T)[i]? = some (tP T)[i] := List.getElem?_eq_getElem hi
      generalize (tP T)[i] = p0 at hp0
      have hpw := hW.2.2.2.2.2.1.2 p0 (List.mem_of_getElem? hp0)
      have hi8 : i < 8 := by omega
      have hk65 := hs.1 (65 + i) 6 (xK_pol i hi8)
      refine sim (T' := (tB T, tL T, tN T, tR T, tH T, tI T, (tP T).set i (fun k => if k = 3 then c else if k = 4 then v &&& c else p0 k), tT T)) (r := nI (fb_ct (tb s0) 32)) ?_ ?_ ?_
      · obtain ⟨w1, w2, w3, w4, w5, w6, w7⟩ := hW
        refine ⟨w1, w2, w3, w4, w5, ⟨?_, fun p hp' => ?_⟩, w7⟩
        · show ((tP T).set _ _).length ≤ 8
          rw [List.length_set]; exact h8
        · rcases List.mem_or_eq_of_mem_set hp' with h | h
          · exact w6.2 p h
          · subst h
            exact ⟨hpw.1, hpw.2.1, hpw.2.2.1, hc, Nat.lt_of_le_of_lt Nat.and_le_right hc, by show v &&& c &&& c = v &&& c; rw [Nat.and_assoc, Nat.and_self]⟩
      · show wp (fX11_setPolicyCube 0 (nI i) (nI c) (nI v) (mk x (uI x) (uJ x) (uAI x) (uAJ x) (uAR x))) _
        unfold fX11_setPolicyCube
        refine oE (hs.1 0 12 rfl) (x_isPolicy_ok hs ex h8 rfl hi) (wp_f (by decide) (oR (hs.1 0 12 rfl) (hs.2.2 11 0 0 1 rfl) (oE (hs.1 1 5 rfl) (x_isCube_ok hs hbx hbw rfl hc rfl hv) (wp_f (by decide) (oR (hs.1 0 12 rfl) (hs.2.2 11 0 0 1 rfl) ?_)))))
        refine oKw (hs.1 1 5 rfl) (x_allHeaders hs hbx hbw) (fun s1 e1 => wp_obw (x_cubeHeaders _ rfl rfl lc lv) (fun s2 e2 => wp_lt ?_))
        have he : s1 &&& s2 = s0 := (ent_and hbw e1 e2 _).eq hs0
        rw [he]
        refine oR (hs.1 0 12 rfl) (hs.2.2 11 8 0 64 rfl) (oLR (hs.1 64 24 rfl) (hs.2.1 64 8 rfl) rfl hi8 (by decide) (hP.1.2.2 i hi8) (oWJ hk65 ?_))
        refine wp_obe (x_bitCount _ (hs0.in32 hbw)) (wp_some ⟨rfl, XR_mk hs hd ?_⟩)
        have hP0 := hP
        obtain ⟨p1, p2, p3, p4, p5, ⟨p6, nx, p7, p8, p9⟩, ⟨p10, p11⟩, ⟨p12, p13⟩, p14, p15⟩ := hP
        refine hP0.keep ⟨rfl, rfl⟩ (fun c k a hc => rfl) (fun _ _ => up3_c (by decide)) rfl p2 p3 p4 p10 (by rw [up3_c (by decide)]; exact p11) (by show _ = nI ((tP T).set _ _).length; rw [List.length_set]; exact p12) (fun i2 p hp' => ?_) p14 p15
        replace hp' : ((tP T).set i (fun k => if k = 3 then c else if k = 4 then v &&& c else p0 k))[i2]? = some p := hp'
        by_cases hii : i = i2
        · subst hii
          rw [List.getElem?_set_self hi] at hp'
          cases hp'
          obtain ⟨q1, q2, q3, q4⟩ := p13 i p0 hp0
          exact ⟨q1, q2, q3, fun h hh => by rw [up3_s, hs0 h hh]; rfl⟩
        · rw [List.getElem?_set_ne hii] at hp'
          obtain ⟨q1, q2, q3, q4⟩ := p13 i2 p hp'
          exact ⟨q1, q2, q3, fun h hh => by rw [up3_a (by omega)]; exact q4 h hh⟩
      · show wp (fX12_setPolicyCube 0 (nI i) (nI c) (nI v) (mk m (uI m) (uJ m) (uAI m) (uAJ m) (uAR m))) _
        unfold fX12_setPolicyCube
        refine mE hms (m_noPolicy_ok hms em h8 rfl hi) (wp_t rfl (mE hms (m_noHeader_ok hms hbm hbw rfl hc) (wp_t rfl (mE hms (m_noHeader_ok hms hbm hbw rfl hv) (wp_t rfl (mR hms rfl (mS hms rfl rfl (by decide) rfl hi8 (mR hms rfl (mS hms rfl rfl (by decide) rfl hi8 ?_)))))))))
        refine mKw hms (m_cubeOf hms hbm hbw rfl rfl lc lv) (fun s hs' => ?_)
        have he : s = s0 := EntP.eq (b := tB T) (j := (0, c, v &&& c)) hs' hs0
        subst he
        refine wp_obe (m_size _ (hs0.in32 hbw)) (wp_some ⟨rfl, MR_mk hms ?_⟩)
        rw [nx_and]
        obtain ⟨p1, p2, p3, p4, ⟨p5, p6⟩, ⟨p7, p8, p9⟩, ⟨p10, p11⟩, p12, p13⟩ := hM
        refine ⟨p1, by rw [up2_a (by decide), up2_a (by decide)]; exact p2, p3, by rw [up2_a (by decide), up2_a (by decide)]; exact p4, ⟨p5, by rw [up2_a (a' := 3) (by decide), up2_a (a' := 3) (by decide)]; exact p6⟩, ⟨p7, p8, p9⟩, ⟨by show _ = nI ((tP T).set _ _).length; rw [List.length_set]; exact p10, fun i2 p hp' => ?_⟩, p12, by rw [up2_a (a' := 17) (by decide), up2_a (a' := 17) (by decide)]; exact p13⟩
        rw [up2_a (a' := 12) (by decide), up2_a (a' := 12) (by decide), up2_a (a' := 13) (by decide), up2_a (a' := 13) (by decide), up2_a (a' := 14) (by decide), up2_a (a' := 14) (by decide), up2_a (a' := 15) (by decide), up2_is, up2_is, up2_a (a' := 16) (by decide)]
        replace hp' : ((tP T).set i (fun k => if k = 3 then c else if k = 4 then v &&& c else p0 k))[i2]? = some p := hp'
        by_cases hii : i = i2
        · subst hii
          rw [List.getElem?_set_self hi] at hp'
          cases hp'
          obtain ⟨q1, q2, q3, q4, q5⟩ := p11 i p0 hp0
          rw [if_pos rfl, if_pos rfl]
          exact ⟨q1, q2, q3, rfl, rfl⟩
        · rw [List.getElem?_set_ne hii] at hp'
          rw [if_neg (Ne.symm hii), if_neg (Ne.symm hii)]
          exact p11 i2 p hp'
    · refine sim (T' := T) (r := -3) hW ?_ ?_
      · show wp (fX11_setPolicyCube 0 (nI i) x2 x3 (mk x (uI x) (uJ x) (uAI x) (uAJ x) (uAR x))) _
        unfold fX11_setPolicyCube
        exact oE (hs.1 0 12 rfl) (x_isPolicy_ok hs ex h8 rfl hi) (wp_f (by decide) (oR (hs.1 0 12 rfl) (hs.2.2 11 0 0 1 rfl) (oE (hs.1 1 5 rfl) (x_isCube_bad hs hbx hbw hcu) (wp_t rfl (wp_some ⟨rfl, hs, hd, hP⟩)))))
      · show wp (fX12_setPolicyCube 0 (nI i) x2 x3 (mk m (uI m) (uJ m) (uAI m) (uAJ m) (uAR m))) _
        unfold fX12_setPolicyCube
        refine mE hms (m_noPolicy_ok hms em h8 rfl hi) (wp_t rfl ?_)
        rcases ix x2 (2 ^ tB T) (by omega) with ⟨c, hc, e⟩ | e
        · refine mE hms (m_noHeader_ok hms hbm hbw e hc) (wp_t rfl ?_)
          rcases hcu with h | h
          · rw [e] at h; exact absurd h (nbad hc (by omega))
          · exact mE hms (m_noHeader_bad hms hbm hbw h) (wp_f (by decide) (wp_some ⟨rfl, hms, hM⟩))
        · exact mE hms (m_noHeader_bad hms hbm hbw e) (wp_f (by decide) (wp_some ⟨rfl, hms, hM⟩))
  · refine sim (T' := T) (r := -3) hW ?_ ?_
    · show wp (fX11_setPolicyCube 0 x1 x2 x3 (mk x (uI x) (uJ x) (uAI x) (uAJ x) (uAR x))) _
      unfold fX11_setPolicyCube
      exact oE (hs.1 0 12 rfl) (x_isPolicy_bad hs ex hb) (wp_t rfl (wp_some ⟨rfl, hs, hd, hP⟩))
    · show wp (fX12_setPolicyCube 0 x1 x2 x3 (mk m (uI m) (uJ m) (uAI m) (uAJ m) (uAR m))) _
      unfold fX12_setPolicyCube
      exact mE hms (m_noPolicy_bad hms em h8 hb) (wp_f (by decide) (wp_some ⟨rfl, hms, hM⟩))
end PUB
