section PUB
variable {T : TS} {x m : UH} {x1 x2 x3 x4 x5 : Int32}
theorem s_disconnect (hR : RR T x m) : SIM T (fX11_disconnect 0 x1 x2 x) (fX12_disconnect 0 x1 x2 m) := by
  obtain ⟨hW, ⟨hs, hd, hP⟩, hms, hM⟩ := hR
  have bd := fun p => lk_bnd hW.2.1 (p := p)
  have hl : LkP (uAI x 2) (tL T) := hP.2.2.1
  have hl2 : LkP (uAI m 1) (tL T) := hM.2.1
  rcases pl_or x1 x2 with ⟨i, j, hi, hj, rfl, rfl⟩ | hb
  · have hp : 4 * i + j < 24 := by omega
    generalize ea : 4 * i + j = a at hp
    cases hq : tL T a with
    | none =>
      refine sim (T' := T) (r := -6) hW ?_ ?_
      · show wp (fX11_disconnect 0 (nI i) (nI j) (mk x (uI x) (uJ x) (uAI x) (uAJ x) (uAR x))) _
        unfold fX11_disconnect
        refine wp_obe (x_isPlace_ok _ rfl rfl hi hj) (wp_f (by decide) (wp_obe (x_placeOf _ rfl rfl) ?_))
        rw [ea]
        refine oR (hs.1 0 12 rfl) (hs.2.2 11 0 0 1 rfl) (oR (hs.1 1 5 rfl) (hs.2.2 4 2 1 2 rfl) (oL (hs.1 2 20 rfl) (hs.2.1 2 24 rfl) rfl hp (by decide) ?_))
        rw [hl _ hp, hq]
        exact wp_t rfl (wp_some ⟨rfl, hs, hd, hP⟩)
      · show wp (fX12_disconnect 0 (nI i) (nI j) (mk m (uI m) (uJ m) (uAI m) (uAJ m) (uAR m))) _
        unfold fX12_disconnect
        refine wp_obe (m_noPlace_ok _ rfl rfl hi hj) (wp_t rfl (wp_lt ?_))
        rw [pl1, ea]
        refine mR hms rfl (mL hms rfl rfl (by decide) rfl hp ?_)
        rw [hl2 _ hp, hq]
        exact wp_f (by decide) (wp_some ⟨rfl, hms, hM⟩)
    | some q =>
      obtain ⟨-, hq24, hqa, hne⟩ := hW.2.1 a q hq
      have newP : ∀ row : Nat → Nat → Int32, ∀ z, LkP (row z) (tL T) → LkP (up2 (up2 row z a (-1)) z q (-1) z) (lkSet (tL T) a q none none) := by
        intro row z h p hp24
        unfold lkSet
        rw [up2_is]
        by_cases e1 : p = q
        · subst e1; rw [if_pos rfl, if_neg (Ne.symm hne), if_pos rfl]; rfl
        · rw [if_neg e1, up2_is]
          by_cases e2 : p = a
          · subst e2; rw [if_pos rfl, if_pos rfl]; rfl
          · rw [if_neg e2, if_neg e2, if_neg e1]; exact h p hp24
      have newP2 : ∀ row : Nat → Nat → Int32, ∀ z, LkP (row z) (tL T) → LkP (up2 (up2 row z q (-1)) z a (-1) z) (lkSet (tL T) a q none none) := by
        intro row z h p hp24
        unfold lkSet
        rw [up2_is]
        by_cases e2 : p = a
        · subst e2; rw [if_pos rfl, if_pos rfl]; rfl
        · rw [if_neg e2, if_neg e2, up2_is]
          by_cases e1 : p = q
          · subst e1; rw [if_pos rfl, if_pos rfl]; rfl
          · rw [if_neg e1, if_neg e1]; exact h p hp24
      refine sim (T' := (tB T, lkSet (tL T) a q none none, tN T - 1, tR T, tH T, tI T, tP T, tT T)) (r := tN T - 1) ?_ ?_ ?_
      · obtain ⟨w1, w2, w3, w4, w5, w6, w7⟩ := hW
        refine ⟨w1, ?_, w3, w4, w5, w6, w7⟩
        intro p z hpq
        replace hpq : lkSet (tL T) a q none none p = some z := hpq
        show p < 24 ∧ z < 24 ∧ lkSet (tL T) a q none none z = some p ∧ p ≠ z
        unfold lkSet at hpq ⊢
        by_cases e1 : p = a
        · rw [if_pos e1] at hpq; cases hpq
        · rw [if_neg e1] at hpq
          by_cases e2 : p = q
          · rw [if_pos e2] at hpq; cases hpq
          · rw [if_neg e2] at hpq
            obtain ⟨z1, z2, z3, z4⟩ := w2 p z hpq
            have e3 : z ≠ a := fun h => by subst h; rw [hq] at z3; cases z3; exact e2 rfl
            have e4 : z ≠ q := fun h => by subst h; rw [hqa] at z3; cases z3; exact e1 rfl
            rw [if_neg e3, if_neg e4]
            exact ⟨z1, z2, z3, z4⟩
      · show wp (fX11_disconnect 0 (nI i) (nI j) (mk x (uI x) (uJ x) (uAI x) (uAJ x) (uAR x))) _
        unfold fX11_disconnect
        refine wp_obe (x_isPlace_ok _ rfl rfl hi hj) (wp_f (by decide) (wp_obe (x_placeOf _ rfl rfl) ?_))
        rw [ea]
        refine oR (hs.1 0 12 rfl) (hs.2.2 11 0 0 1 rfl) (oR (hs.1 1 5 rfl) (hs.2.2 4 2 1 2 rfl) (oL (hs.1 2 20 rfl) (hs.2.1 2 24 rfl) rfl hp (by decide) ?_))
        rw [hl _ hp]
        refine wp_f (fun h => by rw [(oI_m1 (bd a)).mp h] at hq; cases hq) ?_
        rw [hq]
        refine oR (hs.1 0 12 rfl) (hs.2.2 11 0 0 1 rfl) (oR (hs.1 1 5 rfl) (hs.2.2 4 2 1 2 rfl) (oS (hs.1 2 20 rfl) (hs.2.1 2 24 rfl) rfl hp (by decide) ?_))
        refine oR (hs.1 0 12 rfl) (hs.2.2 11 0 0 1 rfl) (oR (hs.1 1 5 rfl) (hs.2.2 4 2 1 2 rfl) (oS (hs.1 2 20 rfl) (hs.2.1 2 24 rfl) (i := q) rfl hq24 (by decide) ?_))
        refine oR (hs.1 0 12 rfl) (hs.2.2 11 0 0 1 rfl) (oi (hs.1 1 5 rfl) (oW (hs.1 1 5 rfl) (oR (hs.1 0 12 rfl) (hs.2.2 11 0 0 1 rfl) (oi (hs.1 1 5 rfl) (wp_some ⟨?_, XR_mk hs hd ?_⟩)))))
        · dsimp only; rw [up3_s, hP.2.2.2.1]
        · have hP0 := hP
          obtain ⟨p1, p2, p3, p4, p5, ⟨p6, nx, p7, p8, p9⟩, ⟨p10, p11⟩, ⟨p12, p13⟩, p14, p15⟩ := hP
          refine hP0.keep ⟨rfl, rfl⟩ (fun c k a hc => up3_c (by omega)) (fun _ _ => rfl) (by rw [up2_a (by decide), up2_a (by decide)]) ((up3_k (by decide)).trans p2) (newP _ _ p3) (by rw [up3_s, p4]; rfl) ((up3_c (by decide)).trans p10) p11 ((up3_c (by decide)).trans p12) (fun i p hp => ?_) ((up3_c (by decide)).trans p14) (fun i c hc => by rw [up2_a (by decide), up2_a (by decide)]; exact p15 i c hc)
          obtain ⟨q1, q2, q3, q4⟩ := p13 i p hp
          exact ⟨(up3_c (by decide)).trans q1, (up3_c (by decide)).trans q2, (up3_c (by decide)).trans q3, q4⟩
      · show wp (fX12_disconnect 0 (nI i) (nI j) (mk m (uI m) (uJ m) (uAI m) (uAJ m) (uAR m))) _
        unfold fX12_disconnect
        refine wp_obe (m_noPlace_ok _ rfl rfl hi hj) (wp_t rfl (wp_lt ?_))
        rw [pl1, ea]
        refine mR hms rfl (mL hms rfl rfl (by decide) rfl hp ?_)
        rw [hl2 _ hp]
        refine wp_t ((oI_nn (bd a)).mpr (by rw [hq]; exact fun h => by cases h)) ?_
        refine mR hms rfl (mR hms rfl (mL hms rfl rfl (by decide) rfl hp ?_))
        rw [hl2 _ hp, hq]
        refine mS hms rfl rfl (by decide) (i := q) rfl hq24 (mR hms rfl (mS hms rfl rfl (by decide) rfl hp (mI hms (mW hms (mI hms (wp_some ⟨?_, MR_mk hms ?_⟩))))))
        · dsimp only; rw [up3_s, hM.2.2.1]
        · obtain ⟨p1, p2, p3, p4, ⟨p5, p6⟩, ⟨p7, p8, p9⟩, ⟨p10, p11⟩, p12, p13⟩ := hM
          have ea : ∀ z, z ≠ 1 → up2 (up2 (uAI m) 1 q (-1)) 1 a (-1) z = uAI m z := fun z hz => by rw [up2_a hz, up2_a hz]
          refine ⟨(up3_k (by decide)).trans p1, newP2 _ _ p2, by rw [up3_s, p3]; rfl, by rw [ea _ (by decide)]; exact p4, ⟨(up3_k (by decide)).trans p5, by rw [ea 3 (by decide)]; exact p6⟩, ⟨(up3_k (by decide)).trans p7, (up3_k (by decide)).trans p8, (up3_k (by decide)).trans p9⟩, ⟨(up3_k (by decide)).trans p10, ?_⟩, (up3_k (by decide)).trans p12, by rw [ea 17 (by decide)]; exact p13⟩
          rw [ea 12 (by decide), ea 13 (by decide), ea 14 (by decide), ea 15 (by decide), ea 16 (by decide)]; exact p11
  · refine sim (T' := T) (r := -1) hW ?_ ?_
    · unfold fX11_disconnect
      exact wp_obe (x_isPlace_bad _ hb) (wp_t rfl (wp_some ⟨rfl, hs, hd, hP⟩))
    · unfold fX12_disconnect
      exact wp_obe (m_noPlace_bad _ hb) (wp_f (by decide) (wp_some ⟨rfl, hms, hM⟩))
/-! rules that are asked for -/
section
variable {b : UH} {fi : Nat → Nat → Nat → Int32} {fj : Nat → Nat → Nat → Int64} {ai : Nat → Nat → Int32} {aj : Nat → Nat → Int64} {ar : Nat → Nat → Option Nat} {box i : Nat} {rs : List RT}
theorem x_ruleError_ok (hs : xst b) (ha : xar ar) (hL : LiP b fi fj ar (5 + 2 * box) rs) (hx : x1 = nI box) (hb : box < 6) (hy : x2 = nI i) (hi : i < rs.length) : fX11_ruleError 0 x1 x2 (mk b fi fj ai aj ar) = some 0 := by
  have h6 := hL.2.1
  refine of_wp ?_
  unfold fX11_ruleError
  refine wp_obe (x_isBox_ok _ hx hb) (wp_f (by decide) ?_)
  rw [hy]
  refine wp_f (nI_pos (by omega)) (oR (hs.1 0 12 rfl) (hs.2.2 11 0 0 1 rfl) (oR (hs.1 1 5 rfl) (hs.2.2 4 3 1 3 rfl) (oLR (hs.1 3 26 rfl) (hs.2.1 3 6 rfl) hx hb (by decide) (ha.1 box hb) (oi (hs.1 _ _ (LA_box box hb).1) ?_))))
  rw [hL.1]
  exact wp_t (nI_lt hi (by omega)) (wp_some rfl)
theorem x_ruleError_r (hs : xst b) (ha : xar ar) (hL : LiP b fi fj ar (5 + 2 * box) rs) (hx : x1 = nI box) (hb : box < 6) (hy : bad x2 rs.length) : fX11_ruleError 0 x1 x2 (mk b fi fj ai aj ar) = some (-2) := by
  have h6 := hL.2.1
  refine of_wp ?_
  unfold fX11_ruleError
  refine wp_obe (x_isBox_ok _ hx hb) (wp_f (by decide) (wp_if (fun _ => wp_some rfl) (fun h0 => ?_)))
  refine (oR (hs.1 0 12 rfl) (hs.2.2 11 0 0 1 rfl) (oR (hs.1 1 5 rfl) (hs.2.2 4 3 1 3 rfl) (oLR (hs.1 3 26 rfl) (hs.2.1 3 6 rfl) hx hb (by decide) (ha.1 box hb) (oi (hs.1 _ _ (LA_box box hb).1) ?_))))
  rw [hL.1]
  refine wp_f (fun h => ?_) (wp_some rfl)
  exact absurd (bad_lt0 (by omega) hy h0) (Int32.not_le.mpr h)
theorem x_ruleError_b (hx : bad x1 6) (u : UH) : fX11_ruleError 0 x1 x2 u = some (-1) := by
  refine of_wp ?_
  unfold fX11_ruleError
  exact wp_obe (x_isBox_bad _ hx) (wp_t rfl (wp_some rfl))
end
theorem s_rule (hR : RR T x m) : SIMP (fX11_rule 0 x1 x2 x3 x) (fX12_rule 0 x1 x2 x3 m) := by
  obtain ⟨hW, ⟨hs, hd, hP⟩, hms, hM⟩ := hR
  have ha : xar (uAR x) := hP.1
  have hN : NowP (uAI m 2) (tR T) := hM.2.2.2.1
  rcases ix x1 6 (by decide) with ⟨box, hb, rfl⟩ | hb
  · have hL : LiP x (uI x) (uJ x) (uAR x) (5 + 2 * box) (tR T box) := hP.2.2.2.2.1 box hb
    have h6 := hL.2.1
    rcases ix x2 (tR T box).length (by omega) with ⟨i, hi, rfl⟩ | hi
    · have hr : (tR T box)[i]? = some ((tR T box)[i]) := List.getElem?_eq_getElem hi
      generalize (tR T box)[i] = r at hr
      obtain ⟨ra, e1, e2⟩ := hL.2.2.2 i r hr
      have hw := (hW.2.2.1 box hb).2 r (List.mem_of_getElem? hr)
      have key : ∀ (Q : Int32 → Prop), (∀ f, f < 7 → x3 = nI f → Q (nI (r f))) → (bad x3 7 → Q (-3)) → wp (fX11_rule 0 (nI box) (nI i) x3 (mk x (uI x) (uJ x) (uAI x) (uAJ x) (uAR x))) Q := by
        intro Q h1 h2
        unfold fX11_rule
        refine oE (hs.1 0 12 rfl) (x_ruleError_ok hs ha hL rfl hb rfl hi) (wp_t rfl ?_)
        refine oR (hs.1 0 12 rfl) (hs.2.2 11 0 0 1 rfl) (oR (hs.1 1 5 rfl) (hs.2.2 4 3 1 3 rfl) (oLR (hs.1 3 26 rfl) (hs.2.1 3 6 rfl) rfl hb (by decide) (ha.1 box hb) (oR (hs.1 _ _ (LA_box box hb).1) (hs.2.2 _ _ _ _ (LA_box box hb).2.2.2) (oLR (hs.1 _ _ (LA_box box hb).2.1) (hs.2.1 _ _ (LA_box box hb).2.2.1) rfl (by omega) (by decide) e1 ?_))))
        refine wp_if (fun h => oi e2.1 (wp_some (by rw [e2.2.1 0 (by decide)]; exact h1 0 (by decide) h))) (fun n0 => ?_)
        refine wp_if (fun h => oi e2.1 (wp_some (by rw [e2.2.1 1 (by decide)]; exact h1 1 (by decide) h))) (fun n1 => ?_)
        refine wp_if (fun h => oi e2.1 (wp_some (by rw [e2.2.1 2 (by decide)]; exact h1 2 (by decide) h))) (fun n2 => ?_)
        refine wp_if (fun h => oi e2.1 (wp_some (by rw [e2.2.1 3 (by decide)]; exact h1 3 (by decide) h))) (fun n3 => ?_)
        refine wp_if (fun h => oi e2.1 (wp_some (by rw [e2.2.1 4 (by decide)]; exact h1 4 (by decide) h))) (fun n4 => ?_)
        refine wp_if (fun h => oi e2.1 (wp_some (by rw [e2.2.1 5 (by decide)]; exact h1 5 (by decide) h))) (fun n5 => ?_)
        refine wp_if (fun h => oi e2.1 ?_) (fun n6 => wp_some (h2 ?_))
        · rw [e2.2.1 6 (by decide)]
          have := h1 6 (by decide) h
          rcases hw.2.2.2.2.2.2.2.2.2.1 with z | z <;> rw [z] at this ⊢
          · exact wp_t rfl (wp_some this)
          · exact wp_f (by decide) (wp_some this)
        · rcases ix x3 7 (by decide) with ⟨f, hf, e⟩ | h
          · exfalso
            rcases (show f = 0 ∨ f = 1 ∨ f = 2 ∨ f = 3 ∨ f = 4 ∨ f = 5 ∨ f = 6 by omega) with rfl | rfl | rfl | rfl | rfl | rfl | rfl
            · exact n0 e
            · exact n1 e
            · exact n2 e
            · exact n3 e
            · exact n4 e
            · exact n5 e
            · exact n6 e
          · exact h
      rcases ix x3 7 (by decide) with ⟨f, hf, rfl⟩ | hf
      · refine simp2 (r := nI (r f)) (key _ (fun f' hf' e => by rw [(nI_eq (by omega) (by omega)).mp e]) (fun h => absurd h (nbad hf (by decide)))) ?_
        show wp (fX12_rule 0 (nI box) (nI i) (nI f) (mk m (uI m) (uJ m) (uAI m) (uAJ m) (uAR m))) _
        unfold fX12_rule
        refine mE hms (m_ruleBarred_ok hms hN rfl hb h6 rfl hi) (wp_t (by decide) ?_)
        refine wp_obe (m_in_ok _ rfl rfl (show (6 : Int32) = nI 7 - 1 from rfl) hf (by decide)) (wp_f (by decide) ?_)
        exact mE hms (m_ofr hms hN h6 rfl rfl rfl hb hr hf) (wp_some rfl)
      · refine simp2 (r := -3) (key _ (fun f' hf' e => by rw [e] at hf; exact absurd hf (nbad hf' (by decide))) (fun _ => rfl)) ?_
        show wp (fX12_rule 0 (nI box) (nI i) x3 (mk m (uI m) (uJ m) (uAI m) (uAJ m) (uAR m))) _
        unfold fX12_rule
        refine mE hms (m_ruleBarred_ok hms hN rfl hb h6 rfl hi) (wp_t (by decide) ?_)
        exact wp_obe (m_in_bad _ hf rfl (show (6 : Int32) = nI 7 - 1 from rfl) (by decide)) (wp_t rfl (wp_some rfl))
    · refine simp2 (r := -2) ?_ ?_
      · show wp (fX11_rule 0 (nI box) x2 x3 (mk x (uI x) (uJ x) (uAI x) (uAJ x) (uAR x))) _
        unfold fX11_rule
        exact oE (hs.1 0 12 rfl) (x_ruleError_r hs ha hL rfl hb hi) (wp_f (by decide) (wp_some rfl))
      · show wp (fX12_rule 0 (nI box) x2 x3 (mk m (uI m) (uJ m) (uAI m) (uAJ m) (uAR m))) _
        unfold fX12_rule
        exact mE hms (m_ruleBarred_r hms hN rfl hb h6 hi) (wp_f (by decide) (wp_some rfl))
  · refine simp2 (r := -1) ?_ ?_
    · show wp (fX11_rule 0 x1 x2 x3 (mk x (uI x) (uJ x) (uAI x) (uAJ x) (uAR x))) _
      unfold fX11_rule
      exact oE (hs.1 0 12 rfl) (x_ruleError_b hb _) (wp_f (by decide) (wp_some rfl))
    · show wp (fX12_rule 0 x1 x2 x3 (mk m (uI m) (uJ m) (uAI m) (uAJ m) (uAR m))) _
      unfold fX12_rule
      exact mE hms (m_ruleBarred_b hb _) (wp_f (by decide) (wp_some rfl))
theorem s_count (hR : RR T x m) : SIMP (fX11_count 0 x1 x) (fX12_count 0 x1 m) := by
  obtain ⟨hW, ⟨hs, hd, hP⟩, hms, hM⟩ := hR
  have hN : NowP (uAI m 2) (tR T) := hM.2.2.2.1
  have hl := hP.2.2.2.2.1
  have cm : fX12_count 0 x1 (mk m (uI m) (uJ m) (uAI m) (uAJ m) (uAR m)) = (if x1 = nI 0 then some (uI m 12 0 0) else if x1 = nI 1 then some (uI m 12 2 0) else if x1 = nI 2 then some (nI (fb_sm (fun box => (tR T box).length) 6)) else if x1 = nI 3 then some (uI m 12 19 0) else if x1 = nI 4 then some (uI m 12 7 0) else some (-3)) := by
    have hsum : it2 (fX12_count_B4 0 (mk m (uI m) (uJ m) (uAI m) (uAJ m) (uAR m))) FUEL 0 0 = some (nI (fb_sm (fun box => (tR T box).length) 6)) := by
      refine of_wp ?_
      refine it2_up2F (show (0 : Int32) = nI 0 from rfl) 6 (by decide) (fun i s => s = nI (fb_sm (fun box => (tR T box).length) i)) (fun k i s hi hI hk => ?_) (Nat.zero_le _) rfl
      unfold fX12_count_B4
      refine wp_le (a := 6) rfl rfl (by decide) (by omega) (fun hc => wp_some ?_) (fun hc => ?_)
      · have : i = 6 := by omega
        subst this; exact hI
      · refine mE hms (m_manyr hms hN rfl hc) (wp_lt (hk hc _ _ (nI_1 i) ?_))
        rw [hI, nI_add]; rfl
    unfold fX12_count
    rw [hsum]
    have k0 : uKd m 0 = 12 + 1 := hms.1 0 13 rfl
    have e : ∀ k, rI (mk m (uI m) (uJ m) (uAI m) (uAJ m) (uAR m)) 12 k 0 = some (uI m 12 k 0) := fun k => of_wp (wp_rI k0 rfl)
    simp only [ob, e]
  have cx : fX11_count 0 x1 (mk x (uI x) (uJ x) (uAI x) (uAJ x) (uAR x)) = (if x1 = nI 0 then some (uI x 4 0 1) else if x1 = nI 1 then some (uI x 4 1 1) else if x1 = nI 2 then some (nI (fb_sm (fun box => (tR T box).length) 6)) else if x1 = nI 3 then some (uI x 11 9 0) else if x1 = nI 4 then some (uI x 3 2 17) else some (-3)) := by
    have hsum : fX4_countRules 1 (mk x (uI x) (uJ x) (uAI x) (uAJ x) (uAR x)) = some (nI (fb_sm (fun box => (tR T box).length) 6)) := by
      refine of_wp ?_
      unfold fX4_countRules
      refine wp_obw (Q := fun s => s = nI (fb_sm (fun box => (tR T box).length) 6)) ?_ (fun s h => wp_some h)
      refine it2_up2F (show (0 : Int32) = nI 0 from rfl) 6 (by decide) (fun i s => s = nI (fb_sm (fun box => (tR T box).length) i)) (fun k i s hi hI hk => ?_) (Nat.zero_le _) rfl
      unfold fX4_countRules_B4
      refine wp_le (a := 6) rfl rfl (by decide) (by omega) (fun hc => wp_some ?_) (fun hc => ?_)
      · have : i = 6 := by omega
        subst this; exact hI
      · refine oR (hs.1 1 5 rfl) (hs.2.2 4 3 1 3 rfl) (oLR (hs.1 3 26 rfl) (hs.2.1 3 6 rfl) rfl hc (by decide) (hP.1.1 i hc) (oi (hs.1 _ _ (LA_box i hc).1) (wp_lt (hk hc _ _ (nI_1 i) ?_))))
        rw [hI, (hl i hc).1, nI_add]; rfl
    unfold fX11_count
    have r1 : rR (mk x (uI x) (uJ x) (uAI x) (uAJ x) (uAR x)) 11 0 0 = some 1 := of_wp (wp_rR (hs.1 0 12 rfl) (hs.2.2 11 0 0 1 rfl) rfl)
    have r2 : rR (mk x (uI x) (uJ x) (uAI x) (uAJ x) (uAR x)) 11 1 0 = some 17 := of_wp (wp_rR (hs.1 0 12 rfl) (hs.2.2 11 1 0 17 rfl) rfl)
    have e1 : ∀ k, rI (mk x (uI x) (uJ x) (uAI x) (uAJ x) (uAR x)) 4 k 1 = some (uI x 4 k 1) := fun k => of_wp (wp_rI (hs.1 1 5 rfl) rfl)
    have e2 : ∀ k, rI (mk x (uI x) (uJ x) (uAI x) (uAJ x) (uAR x)) 11 k 0 = some (uI x 11 k 0) := fun k => of_wp (wp_rI (hs.1 0 12 rfl) rfl)
    have e3 : ∀ k, rI (mk x (uI x) (uJ x) (uAI x) (uAJ x) (uAR x)) 3 k 17 = some (uI x 3 k 17) := fun k => of_wp (wp_rI (hs.1 17 4 rfl) rfl)
    have e4 : kd (mk x (uI x) (uJ x) (uAI x) (uAJ x) (uAR x)) 4 1 (fX4_countRules 1 (mk x (uI x) (uJ x) (uAI x) (uAJ x) (uAR x))) = some (nI (fb_sm (fun box => (tR T box).length) 6)) := of_wp (wp_kd (hs.1 1 5 rfl) (wp_of hsum))
    simp only [ob, r1, r2, e1, e2, e3, e4]
  have q0 : uI x 4 0 1 = uI m 12 0 0 := hP.2.1.trans hM.1.symm
  have q1 : uI x 4 1 1 = uI m 12 2 0 := hP.2.2.2.1.trans hM.2.2.1.symm
  have q3 : uI x 11 9 0 = uI m 12 19 0 := hP.2.2.2.2.2.2.2.1.1.trans hM.2.2.2.2.2.2.1.1.symm
  have q4 : uI x 3 2 17 = uI m 12 7 0 := hP.2.2.2.2.2.1.1.trans hM.2.2.2.2.1.1.symm
  have ex : fX11_count 0 x1 x = fX12_count 0 x1 m := by
    have h1 : fX11_count 0 x1 x = fX11_count 0 x1 (mk x (uI x) (uJ x) (uAI x) (uAJ x) (uAR x)) := rfl
    have h2 : fX12_count 0 x1 m = fX12_count 0 x1 (mk m (uI m) (uJ m) (uAI m) (uAJ m) (uAR m)) := rfl
    rw [h1, h2, cx, cm, q0, q1, q3, q4]
  have cm' : fX12_count 0 x1 m = _ := cm
  unfold SIMP
  rw [ex, cm']
  by_cases h0 : x1 = nI 0
  · simp only [h0, if_pos]; exact ⟨_, rfl, rfl⟩
  · by_cases h1 : x1 = nI 1
    · simp only [if_neg h0, if_pos h1]; exact ⟨_, rfl, rfl⟩
    · by_cases h2 : x1 = nI 2
      · simp only [if_neg h0, if_neg h1, if_pos h2]; exact ⟨_, rfl, rfl⟩
      · by_cases h3 : x1 = nI 3
        · simp only [if_neg h0, if_neg h1, if_neg h2, if_pos h3]; exact ⟨_, rfl, rfl⟩
        · by_cases h4 : x1 = nI 4
          · simp only [if_neg h0, if_neg h1, if_neg h2, if_neg h3, if_pos h4]; exact ⟨_, rfl, rfl⟩
          · simp only [if_neg h0, if_neg h1, if_neg h2, if_neg h3, if_neg h4]; exact ⟨_, rfl, rfl⟩
end PUB
