theorem cn_cong {A A' : Nat → Int64} {rs : List RT} {box : Nat} {o : Option Nat} {b : Nat} (hb : box < 6) (h : ∀ q, q < 24 → A q = A' q) : cn A rs box o b = cn A' rs box o b := fb_sm_cong (fun k hk => fb_ct_cong (fun i hi => by rw [h _ (by omega)]))
/-- all of them -/
theorem cn_all {A : Nat → Int64} {rs : List RT} {box b : Nat} : fb_sm (fun port => fb_ct (tb (A (4 * box + port))) (2 ^ b)) 4 = cn A rs box none b + fb_sm (fun i => cn A rs box (some i) b) rs.length := by
  rw [fb_sm_cong (g := fun port => fb_ct (fun h => tb (A (4 * box + port)) h && decide (hd rs port h = none)) (2 ^ b) + fb_sm (fun i => fb_ct (fun h => tb (A (4 * box + port)) h && decide (hd rs port h = some i)) (2 ^ b)) rs.length) (fun port _ => ct_parts (c := fun h => hd rs port h) (fun h i hi => hd_lt hi) _), fb_sm_add]
  congr 1
  exact sm_swap _ _ 4
section PUB
variable {T : TS} {x m : UH} {x1 x2 x3 x4 x5 x6 : Int32}
theorem s_hits (hR : RR T x m) : SIM T (fX11_hits 0 x1 x2 x) (fX12_hits 0 x1 x2 m) := by
  obtain ⟨hW, ⟨hs, hd, hP⟩, hms, hM⟩ := hR
  have hN : NowP (uAI m 2) (tR T) := hM.2.2.2.1
  rcases ix x1 6 (by decide) with ⟨box, hb, rfl⟩ | hb
  · have hL : LiP x (uI x) (uJ x) (uAR x) (5 + 2 * box) (tR T box) := hP.2.2.2.2.1 box hb
    have h6 := hL.2.1
    rcases ix x2 (tR T box).length (by omega) with ⟨i, hi, rfl⟩ | hi
    · obtain ⟨aj1, e1, hA⟩ := x_spreadAll hW hs hP
      have hrg : ∀ q, q < 24 → ∀ g, tb (aj1 46 q) g = true → g < 2 ^ tB T := fun q hq g H => (Arr.rg hW _ _ ((hA q hq g).mp H)).2
      refine sim (T' := T) (r := nI (cn (aj1 46) (tR T box) box (some i) (tB T))) hW ?_ ?_
      · show wp (fX11_hits 0 (nI box) (nI i) (mk x (uI x) (uJ x) (uAI x) (uAJ x) (uAR x))) _
        unfold fX11_hits
        refine oE (hs.1 0 12 rfl) (x_ruleError_ok hs hP.1 hL rfl hb rfl hi) (wp_t rfl (oR (hs.1 0 12 rfl) (hs.2.2 11 2 0 45 rfl) (oi (hs.1 0 12 rfl) (oJ (hs.1 0 12 rfl) (oE (hs.1 45 3 rfl) e1 ?_)))))
        exact oR (hs.1 0 12 rfl) (hs.2.2 11 2 0 45 rfl) (oE (hs.1 45 3 rfl) (x_countHandled hs hW hP hrg rfl hb rfl hi) (wp_some ⟨rfl, XR_mk hs hd hP⟩))
      · show wp (fX12_hits 0 (nI box) (nI i) (mk m (uI m) (uJ m) (uAI m) (uAJ m) (uAR m))) _
        unfold fX12_hits
        refine mE hms (m_ruleBarred_ok hms hN rfl hb h6 rfl hi) (wp_t (by decide) (mKw hms (m_spreadAll hW hms hM) (fun u hu => ?_)))
        obtain ⟨aj2, rfl, h5, _⟩ := hu
        refine mE hms (m_handledBy hms hM.1 hN hW.1 hW.2.2.1 rfl hb (o := some i) rfl (fun q hq => by cases hq; omega)) (wp_some ⟨?_, MR_mk hms hM⟩)
        dsimp only
        rw [cn_cong hb (fun q hq => set_eq (h5 q hq) (hA q hq))]
    · refine sim (T' := T) (r := -2) hW ?_ ?_
      · show wp (fX11_hits 0 (nI box) x2 (mk x (uI x) (uJ x) (uAI x) (uAJ x) (uAR x))) _
        unfold fX11_hits
        exact oE (hs.1 0 12 rfl) (x_ruleError_r hs hP.1 hL rfl hb hi) (wp_f (by decide) (wp_some ⟨rfl, hs, hd, hP⟩))
      · show wp (fX12_hits 0 (nI box) x2 (mk m (uI m) (uJ m) (uAI m) (uAJ m) (uAR m))) _
        unfold fX12_hits
        exact mE hms (m_ruleBarred_r hms hN rfl hb h6 hi) (wp_f (by decide) (wp_some ⟨rfl, hms, hM⟩))
  · refine sim (T' := T) (r := -1) hW ?_ ?_
    · show wp (fX11_hits 0 x1 x2 (mk x (uI x) (uJ x) (uAI x) (uAJ x) (uAR x))) _
      unfold fX11_hits
      exact oE (hs.1 0 12 rfl) (x_ruleError_b hb _) (wp_f (by decide) (wp_some ⟨rfl, hs, hd, hP⟩))
    · show wp (fX12_hits 0 x1 x2 (mk m (uI m) (uJ m) (uAI m) (uAJ m) (uAR m))) _
      unfold fX12_hits
      exact mE hms (m_ruleBarred_b hb _) (wp_f (by decide) (wp_some ⟨rfl, hms, hM⟩))
theorem m_arrivals_48 {b : UH} {fi : Nat → Nat → Nat → Int32} {fj : Nat → Nat → Nat → Int64} {ai : Nat → Nat → Int32} {aj : Nat → Nat → Int64} {ar : Nat → Nat → Option Nat} {box s0 kd : Nat} (hms : mst b) (hM : MPic T fi ai) (hW : WF T) (hb : box < 6) (hk2 : kd < 2) : fX12_arrivals_48 0 (nI box) (nI kd) (nI s0) (mk b fi fj ai aj ar) = some (nI (s0 + fb_sm (fun i => if kd = 0 ∨ ((tR T box)[i]?).any (fun r => decide (r 3 = 0)) then cn (aj 5) (tR T box) box (some i) (tB T) else 0) (tR T box).length), mk b fi fj ai aj ar) := by
  have hN : NowP (ai 2) (tR T) := hM.2.2.2.1
  have h6 := (hW.2.2.1 box hb).1
  refine of_wp ?_
  unfold fX12_arrivals_48
  refine wp_obw (Q := fun q => q = nI (s0 + fb_sm (fun i => if kd = 0 ∨ ((tR T box)[i]?).any (fun r => decide (r 3 = 0)) then cn (aj 5) (tR T box) box (some i) (tB T) else 0) (tR T box).length)) ?_ (fun q hq => wp_some (by rw [hq]))
  refine it2_up2F (show (0 : Int32) = nI 0 from rfl) (tR T box).length (by omega) (fun n z => z = nI (s0 + fb_sm (fun i => if kd = 0 ∨ ((tR T box)[i]?).any (fun r => decide (r 3 = 0)) then cn (aj 5) (tR T box) box (some i) (tB T) else 0) n)) (fun k n z hn hI hk => ?_) (Nat.zero_le _) rfl
  unfold fX12_arrivals_B53
  refine mE hms (m_manyr hms hN rfl hb) (wp_le rfl rfl (by omega) (by omega) (fun hc => wp_some ?_) (fun hc => ?_))
  · have : n = (tR T box).length := by omega
    subst this; exact hI
  · have hr : (tR T box)[n]? = some ((tR T box)[n]'hc) := List.getElem?_eq_getElem hc
    generalize (tR T box)[n] = r at hr
    have hrw := (hW.2.2.1 box hb).2 r (List.mem_of_getElem? hr)
    have hr3 := hrw.2.2.2.2.2.1
    have go : (kd = 0 ∨ r 3 = 0) → wp (fX12_arrivals_80 k 0 (nI box) (nI kd) (nI n) z (mk b fi fj ai aj ar)) (fun q => q = nI (s0 + fb_sm (fun i => if kd = 0 ∨ ((tR T box)[i]?).any (fun r => decide (r 3 = 0)) then cn (aj 5) (tR T box) box (some i) (tB T) else 0) (tR T box).length)) := by
      intro hor
      unfold fX12_arrivals_80
      refine mE hms (m_handledBy hms hM.1 hN hW.1 hW.2.2.1 rfl hb (o := some n) rfl (fun q hq => by cases hq; omega)) (wp_lt (hk hc _ _ (nI_1 n) ?_))
      rw [hI, nI_add, fb_sm_succ, hr, if_pos (by simpa using hor), Nat.add_assoc]
    refine wp_eqq (b := 0) rfl rfl (by omega) (by decide) (fun h0 => go (Or.inl h0)) (fun h0 => ?_)
    refine mE hms (m_ofr (f := 3) hms hN h6 rfl rfl rfl hb hr (by decide)) (wp_eqq (b := 0) rfl rfl (by omega) (by decide) (fun h3 => go (Or.inr h3)) (fun h3 => ?_))
    refine wp_lt (hk hc _ _ (nI_1 n) ?_)
    rw [hI, add0, fb_sm_succ, hr, if_neg (by simp [h0, h3]), Nat.add_zero]
theorem s_arrivals (hR : RR T x m) : SIM T (fX11_arrivals 0 x1 x2 x) (fX12_arrivals 0 x1 x2 m) := by
  obtain ⟨hW, ⟨hs, hd, hP⟩, hms, hM⟩ := hR
  have hN : NowP (uAI m 2) (tR T) := hM.2.2.2.1
  rcases ix x1 6 (by decide) with ⟨box, hb, rfl⟩ | hb
  · have hL : LiP x (uI x) (uJ x) (uAR x) (5 + 2 * box) (tR T box) := hP.2.2.2.2.1 box hb
    rcases ix x2 3 (by decide) with ⟨kd, hkd, rfl⟩ | hkd
    · obtain ⟨aj1, e1, hA⟩ := x_spreadAll hW hs hP
      obtain ⟨u2, e2, aj2, rfl, h5, -⟩ := m_spreadAll hW hms hM
      have hrg : ∀ q, q < 24 → ∀ g, tb (aj1 46 q) g = true → g < 2 ^ tB T := fun q hq g H => (Arr.rg hW _ _ ((hA q hq g).mp H)).2
      have hcn : ∀ o, cn (aj2 5) (tR T box) box o (tB T) = cn (aj1 46) (tR T box) box o (tB T) := fun o => cn_cong hb (fun q hq => set_eq (h5 q hq) (hA q hq))
      have k012 : kd = 0 ∨ kd = 1 ∨ kd = 2 := by omega
      refine sim (T' := T) (r := if kd = 0 then nI (fb_sm (fun port => fb_ct (tb (aj1 46 (4 * box + port))) (2 ^ tB T)) 4) else if kd = 1 then nI (fb_sm (fun i => if ((tR T box)[i]?).any (fun r => decide (r 3 = 0)) then cn (aj1 46) (tR T box) box (some i) (tB T) else 0) (tR T box).length) else nI (cn (aj1 46) (tR T box) box none (tB T))) hW ?_ ?_
      · show wp (fX11_arrivals 0 (nI box) (nI kd) (mk x (uI x) (uJ x) (uAI x) (uAJ x) (uAR x))) _
        unfold fX11_arrivals
        refine wp_obe (x_isBox_ok _ rfl hb) (wp_f (by decide) (wp_f (nI_pos (by omega)) (wp_t (show nI kd ≤ nI 2 from nI_le (by omega) (by decide)) ?_)))
        refine oR (hs.1 0 12 rfl) (hs.2.2 11 2 0 45 rfl) (oi (hs.1 0 12 rfl) (oJ (hs.1 0 12 rfl) (oE (hs.1 45 3 rfl) e1 ?_)))
        refine wp_eqq (b := 0) rfl rfl (by omega) (by decide) (fun h0 => ?_) (fun h0 => ?_)
        · rw [if_pos h0]
          exact oR (hs.1 0 12 rfl) (hs.2.2 11 2 0 45 rfl) (oE (hs.1 45 3 rfl) (x_countArrived hs hW hrg rfl hb) (wp_some ⟨rfl, XR_mk hs hd hP⟩))
        · rw [if_neg h0]
          refine wp_eqq (b := 1) rfl rfl (by omega) (by decide) (fun h1 => ?_) (fun h1 => ?_)
          · rw [if_pos h1]
            exact oR (hs.1 0 12 rfl) (hs.2.2 11 2 0 45 rfl) (oE (hs.1 45 3 rfl) (x_countDropped hs hW hP hrg rfl hb) (wp_some ⟨rfl, XR_mk hs hd hP⟩))
          · rw [if_neg h1]
            exact oR (hs.1 0 12 rfl) (hs.2.2 11 2 0 45 rfl) (oE (hs.1 45 3 rfl) (x_countLost hs hW hP hrg rfl hb) (wp_some ⟨rfl, XR_mk hs hd hP⟩))
      · show wp (fX12_arrivals 0 (nI box) (nI kd) (mk m (uI m) (uJ m) (uAI m) (uAJ m) (uAR m))) _
        unfold fX12_arrivals
        refine wp_obe (m_noBox_ok _ rfl hb) (wp_t rfl (wp_obe (m_in_ok _ rfl rfl (show (2 : Int32) = nI 3 - 1 from rfl) hkd (by decide)) (wp_f (by decide) (mE hms e2 ?_))))
        refine mE hms (m_handledBy hms hM.1 hN hW.1 hW.2.2.1 rfl hb (o := none) rfl (fun q hq => by cases hq)) ?_
        refine wp_eqq (b := 2) rfl rfl (by omega) (by decide) (fun h2 => ?_) (fun h2 => ?_)
        · rw [if_neg (by omega), if_neg (by omega), ← hcn]
          exact wp_some ⟨rfl, MR_mk hms hM⟩
        · refine wp_eqq (b := 0) rfl rfl (by omega) (by decide) (fun h0 => ?_) (fun h0 => ?_)
          · rw [if_pos h0]
            refine wp_eq (m_arrivals_48 hms hM hW hb (by omega)) ⟨?_, MR_mk hms hM⟩
            dsimp only
            rw [hcn, cn_all (rs := tR T box)]
            congr 2
            exact fb_sm_cong (fun i hi => by rw [if_pos (Or.inl h0), hcn])
          · rw [if_neg h0, if_pos (by omega)]
            refine wp_eq (m_arrivals_48 (s0 := 0) hms hM hW hb (by omega)) ⟨?_, MR_mk hms hM⟩
            dsimp only
            rw [Nat.zero_add]
            congr 1
            refine fb_sm_cong (fun i hi => ?_)
            rw [hcn]
            simp only [h0, false_or]
    · refine sim (T' := T) (r := -3) hW ?_ ?_
      · show wp (fX11_arrivals 0 (nI box) x2 (mk x (uI x) (uJ x) (uAI x) (uAJ x) (uAR x))) _
        unfold fX11_arrivals
        refine wp_obe (x_isBox_ok _ rfl hb) (wp_f (by decide) (wp_if (fun _ => wp_some ⟨rfl, hs, hd, hP⟩) (fun h0 => wp_f (fun h2 => ?_) (wp_some ⟨rfl, hs, hd, hP⟩))))
        have := bad_lt0 (by decide) hkd h0
        exact absurd (Int32.le_trans this h2) (by decide)
      · show wp (fX12_arrivals 0 (nI box) x2 (mk m (uI m) (uJ m) (uAI m) (uAJ m) (uAR m))) _
        unfold fX12_arrivals
        exact wp_obe (m_noBox_ok _ rfl hb) (wp_t rfl (wp_obe (m_in_bad _ hkd rfl (show (2 : Int32) = nI 3 - 1 from rfl) (by decide)) (wp_t rfl (wp_some ⟨rfl, hms, hM⟩))))
  · refine sim (T' := T) (r := -1) hW ?_ ?_
    · unfold fX11_arrivals
      exact wp_obe (x_isBox_bad _ hb) (wp_t rfl (wp_some ⟨rfl, hs, hd, hP⟩))
    · unfold fX12_arrivals
      exact wp_obe (m_noBox_bad _ hb) (wp_f (by decide) (wp_some ⟨rfl, hms, hM⟩))
end PUB
