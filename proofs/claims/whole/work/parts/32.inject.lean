/-! filling rows -/
def filA {α : Type} (f : Nat → Nat → α) (a n : Nat) (v : α) : Nat → Nat → α := fun a' i => if a' = a ∧ i < n then v else f a' i
theorem filA_0 {α : Type} (f : Nat → Nat → α) (a : Nat) (v : α) : filA f a 0 v = f := by
  funext a' i; exact if_neg (fun h => absurd h.2 (Nat.not_lt_zero _))
theorem filA_s {α : Type} (f : Nat → Nat → α) (a n : Nat) (v : α) : up2 (filA f a n v) a n v = filA f a (n + 1) v := by
  funext a' i
  unfold up2 filA
  by_cases h : a' = a
  · by_cases h2 : i = n
    · simp [h, h2]
    · by_cases h3 : i < n
      · simp [h, h3, show i < n + 1 by omega]
      · simp [h, h2, h3, show ¬ i < n + 1 by omega]
  · simp [h]
theorem filA_a {α : Type} {f : Nat → Nat → α} {a n a' : Nat} {v : α} (h : a' ≠ a) : filA f a n v a' = f a' := funext fun _ => if_neg (fun z => h z.1)
theorem filA_i {α : Type} {f : Nat → Nat → α} {a n i : Nat} {v : α} (h : i < n) : filA f a n v a i = v := if_pos ⟨rfl, h⟩
section FIL
variable {b : UH} {fi : Nat → Nat → Nat → Int32} {fj : Nat → Nat → Nat → Int64} {ai : Nat → Nat → Int32} {aj : Nat → Nat → Int64} {ar : Nat → Nat → Option Nat} {a n bits : Nat} {x y : Int32}
theorem j_fillI (hk : uKd b a = 20) (hn : uLn b a = n) (h2 : n < 900000) (v : Int32) : fJ7_fill_53178 a v (mk b fi fj ai aj ar) = some (mk b fi fj (filA ai a n v) aj ar) := by
  refine of_wp ?_
  unfold fJ7_fill_53178
  refine oLen hk hn (wp_obw (Q := fun u => u = mk b fi fj (filA ai a n v) aj ar) ?_ (fun u hu => wp_some hu))
  refine it2_up1F (show (0 : Int32) = nI 0 from rfl) n h2 (fun i u => u = mk b fi fj (filA ai a i v) aj ar) (fun k i u hi hI hk2 => ?_) (Nat.zero_le _) (by rw [filA_0])
  unfold fJ7_fill_53178_B5
  refine wp_le rfl rfl (by omega) (by omega) (fun hc => wp_some ?_) (fun hc => ?_)
  · have : i = n := by omega
    subst this; exact hI
  · rw [hI]
    exact oS hk hn rfl hc (by omega) (hk2 hc _ _ (nI_1 i) (by rw [filA_s]))
theorem j_fillJ (hk : uKd b a = 21) (hn : uLn b a = n) (h2 : n < 900000) (v : Int64) : fJ7_fill_d0a16 a v (mk b fi fj ai aj ar) = some (mk b fi fj ai (filA aj a n v) ar) := by
  refine of_wp ?_
  unfold fJ7_fill_d0a16
  refine oLen hk hn (wp_obw (Q := fun u => u = mk b fi fj ai (filA aj a n v) ar) ?_ (fun u hu => wp_some hu))
  refine it2_up1F (show (0 : Int32) = nI 0 from rfl) n h2 (fun i u => u = mk b fi fj ai (filA aj a i v) ar) (fun k i u hi hI hk2 => ?_) (Nat.zero_le _) (by rw [filA_0])
  unfold fJ7_fill_d0a16_B6
  refine wp_le rfl rfl (by omega) (by omega) (fun hc => wp_some ?_) (fun hc => ?_)
  · have : i = n := by omega
    subst this; exact hI
  · rw [hI]
    exact oSJ hk hn rfl hc (by omega) (hk2 hc _ _ (nI_1 i) (by rw [filA_s]))
/-! the injected headers -/
theorem m_isInjected (hs : mst b) (hb : fi 12 0 0 = nI bits) (hw : BW bits) {j : Nat × Nat × Nat} (hj : IjW bits j) (h5 : fi 12 5 0 = nI j.2.1) (h6 : fi 12 6 0 = nI j.2.2) {h : Nat} (hx : x = nI h) (hh : h < 2 ^ bits) : fX12_isInjected 0 x (mk b fi fj ai aj ar) = some (if h &&& j.2.1 = j.2.2 then 1 else 0) := by
  have hp := (pow_b hw).2
  have l1 := lt32 hw hj.2.1
  have l2 := lt32 hw hj.2.2.1
  refine of_wp ?_
  unfold fX12_isInjected
  refine mE hs (m_noHeader_ok hs hb hw hx hh) (wp_t rfl (mI hs (mI hs ?_)))
  rw [hx, h5, h6, nx_and]
  have l3 : h &&& j.2.1 < 32 := and_lt l1
  exact wp_eqq rfl rfl (by omega) (by omega) (fun e => wp_some (by rw [if_pos e])) (fun e => wp_some (by rw [if_neg e]))
theorem m_isInjected_bad (hs : mst b) (hb : fi 12 0 0 = nI bits) (hw : BW bits) (hx : bad x (2 ^ bits)) : fX12_isInjected 0 x (mk b fi fj ai aj ar) = some 0 := by
  refine of_wp ?_
  unfold fX12_isInjected
  exact mE hs (m_noHeader_bad hs hb hw hx) (wp_f (by decide) (wp_some rfl))
theorem m_injected (hs : mst b) (hb : fi 12 0 0 = nI bits) (hw : BW bits) {j : Nat × Nat × Nat} (hj : IjW bits j) (h5 : fi 12 5 0 = nI j.2.1) (h6 : fi 12 6 0 = nI j.2.2) : wp (fX12_injected 0 (mk b fi fj ai aj ar)) (fun s => EntP bits j s) := by
  have hp := (pow_b hw).2
  unfold fX12_injected
  refine wp_obw (Q := fun s => EntP bits j s) ?_ (fun s hs => wp_some hs)
  refine it2_up2F (show (0 : Int32) = nI 0 from rfl) (2 ^ bits) (by omega) (fun i s => ∀ h, h < 64 → tb s h = (decide (h < i) && decide (h &&& j.2.1 = j.2.2))) (fun k i s hi hI hk => ?_) (Nat.zero_le _) (fun h hh => by rw [tb_0]; simp)
  unfold fX12_injected_B4
  refine mE hs (m_headers hs hb hw) (wp_le rfl rfl (by omega) (by omega) (fun hc => wp_some ?_) (fun hc => ?_))
  · have : i = 2 ^ bits := by omega
    subst this; exact hI
  · refine mE hs (m_isInjected hs hb hw hj h5 h6 rfl hc) ?_
    have st : ∀ h, h < 64 → (decide (h < i + 1) = (decide (h < i) || decide (h = i))) := fun h hh => by
      by_cases e1 : h < i
      · simp [e1]; omega
      · by_cases e2 : h = i
        · simp [e2]
        · simp [e1, e2]; omega
    by_cases e : i &&& j.2.1 = j.2.2
    · rw [if_pos e]
      refine wp_f (by decide) (wp_lt (hk hc _ _ (nI_1 i) (fun h hh => ?_)))
      rw [tb_or, hI h hh, tb_sh1 (by omega) hh, st h hh]
      by_cases e2 : h = i
      · subst e2; simp [e]
      · simp [e2]
    · rw [if_neg e]
      refine wp_t rfl (wp_lt (hk hc _ _ (nI_1 i) (fun h hh => ?_)))
      rw [tb_or, hI h hh, tb_0, st h hh]
      by_cases e2 : h = i
      · subst e2; simp [e]
      · simp [e2]
theorem m_cubeOf (hs : mst b) (hb : fi 12 0 0 = nI bits) (hw : BW bits) {care value : Nat} (hx : x = nI care) (hy : y = nI value) (hc : care < 32) (hv : value < 32) : wp (fX12_cubeOf 0 x y (mk b fi fj ai aj ar)) (fun s => ∀ h, h < 64 → tb s h = (decide (h < 2 ^ bits) && decide (h &&& care = value &&& care))) := by
  have hp := (pow_b hw).2
  unfold fX12_cubeOf
  refine wp_obw (Q := fun s => ∀ h, h < 64 → tb s h = (decide (h < 2 ^ bits) && decide (h &&& care = value &&& care))) ?_ (fun s hs => wp_some hs)
  refine it2_up2F (show (0 : Int32) = nI 0 from rfl) (2 ^ bits) (by omega) (fun i s => ∀ h, h < 64 → tb s h = (decide (h < i) && decide (h &&& care = value &&& care))) (fun k i s hi hI hk => ?_) (Nat.zero_le _) (fun h hh => by rw [tb_0]; simp)
  unfold fX12_cubeOf_B5
  refine mE hs (m_headers hs hb hw) (wp_le rfl rfl (by omega) (by omega) (fun hc => wp_some ?_) (fun hc2 => ?_))
  · have : i = 2 ^ bits := by omega
    subst this; exact hI
  · have st : ∀ h, h < 64 → (decide (h < i + 1) = (decide (h < i) || decide (h = i))) := fun h hh => by
      by_cases e1 : h < i
      · simp [e1]; omega
      · by_cases e2 : h = i
        · simp [e2]
        · simp [e1, e2]; omega
    rw [hx, hy, nx_and, nx_and]
    have l3 : i &&& care < 32 := and_lt hc
    have l4 : value &&& care < 32 := and_lt hc
    refine wp_eqq rfl rfl (by omega) (by omega) (fun e => wp_lt (hk hc2 _ _ (nI_1 i) (fun h hh => ?_))) (fun e => wp_lt (hk hc2 _ _ (nI_1 i) (fun h hh => ?_)))
    · rw [tb_or, hI h hh, tb_sh1 (by omega) hh, st h hh]
      by_cases e2 : h = i
      · subst e2; simp [e]
      · simp [e2]
    · rw [tb_or, hI h hh, tb_0, st h hh]
      by_cases e2 : h = i
      · subst e2; simp [e]
      · simp [e2]
end FIL
theorem EntP.in32 {b : Nat} {j : Nat × Nat × Nat} {s : Int64} (hb : BW b) (h : EntP b j s) : In32 s := fun i hi => by
  rcases Nat.lt_or_ge i 64 with h1 | h1
  · rw [h i h1, decide_eq_false (by have := (pow_b hb).2; omega)]; rfl
  · exact tb_big h1
theorem EntP.eq {b : Nat} {j : Nat × Nat × Nat} {s t : Int64} (h1 : EntP b j s) (h2 : EntP b j t) : s = t := tb_ext (fun i hi => by rw [h1 i hi, h2 i hi])
/-- all headers and a cube of them -/
theorem ent_and {b care value : Nat} {s t : Int64} (hb : BW b) (h1 : ∀ h, h < 64 → tb s h = decide (h < 2 ^ b)) (h2 : CubeP t care (value &&& care)) (at_ : Nat) : EntP b (at_, care, value &&& care) (s &&& t) := fun h hh => by
  rw [tb_and, h1 h hh, h2 h hh]
  by_cases e : h < 2 ^ b
  · have := lt32 hb e
    simp [e, this]
  · simp [e]
section PUB
variable {T : TS} {x m : UH} {x1 x2 x3 x4 x5 : Int32}
theorem s_inject (hR : RR T x m) : SIM T (fX11_inject 0 x1 x2 x3 x4 x) (fX12_inject 0 x1 x2 x3 x4 m) := by
  obtain ⟨hW, ⟨hs, hd, hP⟩, hms, hM⟩ := hR
  have hbw : BW (tB T) := hW.1
  have hp2 := (pow_b hbw).2
  have hbx : uI x 4 0 1 = nI (tB T) := hP.2.1
  have hbm : uI m 12 0 0 = nI (tB T) := hM.1
  rcases pl_or x1 x2 with ⟨i, j, hi, hj, rfl, rfl⟩ | hb
  · have hp : 4 * i + j < 24 := by omega
    have hcu : (∃ c v, c < 2 ^ tB T ∧ v < 2 ^ tB T ∧ x3 = nI c ∧ x4 = nI v) ∨ (bad x3 (2 ^ tB T) ∨ bad x4 (2 ^ tB T)) := by
      rcases ix x3 (2 ^ tB T) (by omega) with ⟨c, hc, e⟩ | e
      · rcases ix x4 (2 ^ tB T) (by omega) with ⟨v, hv, e2⟩ | e2
        · exact Or.inl ⟨c, v, hc, hv, e, e2⟩
        · exact Or.inr (Or.inr e2)
      · exact Or.inr (Or.inl e)
    rcases hcu with ⟨c, v, hc, hv, rfl, rfl⟩ | hcu
    · have lc := lt32 hbw hc
      have lv := lt32 hbw hv
      have hj' : IjW (tB T) (4 * i + j, c, v &&& c) := ⟨hp, hc, Nat.lt_of_le_of_lt Nat.and_le_right hc, by show v &&& c &&& c = v &&& c; rw [Nat.and_assoc, Nat.and_self]⟩
      obtain ⟨s0, hs0⟩ : ∃ s0 : Int64, EntP (tB T) (4 * i + j, c, v &&& c) s0 := by
        obtain ⟨s1, -, e1⟩ := x_allHeaders (fj := uJ x) (ai := uAI x) (aj := uAJ x) (ar := uAR x) hs hbx hbw
        obtain ⟨s2, -, e2⟩ := x_cubeHeaders x rfl rfl lc lv
        exact ⟨s1 &&& s2, ent_and hbw e1 e2 _⟩
      refine sim (T' := (tB T, tL T, tN T, tR T, tH T, (4 * i + j, c, v &&& c), tP T, tT T)) (r := nI (fb_ct (tb s0) 32)) ?_ ?_ ?_
      · obtain ⟨w1, w2, w3, w4, w5, w6, w7⟩ := hW
        exact ⟨w1, w2, w3, w4, hj', w6, w7⟩
      · show wp (fX11_inject 0 (nI i) (nI j) (nI c) (nI v) (mk x (uI x) (uJ x) (uAI x) (uAJ x) (uAR x))) _
        unfold fX11_inject
        refine wp_obe (x_isPlace_ok _ rfl rfl hi hj) (wp_f (by decide) (oR (hs.1 0 12 rfl) (hs.2.2 11 0 0 1 rfl) (oE (hs.1 1 5 rfl) (x_isCube_ok hs hbx hbw rfl hc rfl hv) (wp_f (by decide) (wp_obe (x_placeOf _ rfl rfl) (oW (hs.1 0 12 rfl) (oR (hs.1 0 12 rfl) (hs.2.2 11 0 0 1 rfl) ?_)))))))
        refine oKw (hs.1 1 5 rfl) (x_allHeaders hs ((up3_c (by decide)).trans hbx) hbw) (fun s1 e1 => wp_obw (x_cubeHeaders _ rfl rfl lc lv) (fun s2 e2 => ?_))
        have he : s1 &&& s2 = s0 := (ent_and hbw e1 e2 _).eq hs0
        rw [he]
        refine oWJ (hs.1 0 12 rfl) (oJ (hs.1 0 12 rfl) ?_)
        rw [up3_s]
        refine wp_obe (x_bitCount _ (hs0.in32 hbw)) (wp_some ⟨rfl, XR_mk hs hd ?_⟩)
        have hP0 := hP
        obtain ⟨p1, p2, p3, p4, p5, ⟨p6, nx, p7, p8, p9⟩, ⟨p10, p11⟩, ⟨p12, p13⟩, p14, p15⟩ := hP
        refine hP0.keep ⟨rfl, rfl⟩ (fun c k a hc => up3_c (by omega)) (fun _ _ => up3_c (by decide)) rfl ((up3_c (by decide)).trans p2) p3 ((up3_c (by decide)).trans p4) up3_s (by rw [up3_s]; exact hs0) ((up3_k (by decide)).trans p12) (fun i p hp => ?_) ((up3_c (by decide)).trans p14) p15
        obtain ⟨q1, q2, q3, q4⟩ := p13 i p hp
        exact ⟨(up3_c (by decide)).trans q1, (up3_c (by decide)).trans q2, (up3_c (by decide)).trans q3, fun h hh => by rw [up3_c (by decide)]; exact q4 h hh⟩
      · show wp (fX12_inject 0 (nI i) (nI j) (nI c) (nI v) (mk m (uI m) (uJ m) (uAI m) (uAJ m) (uAR m))) _
        unfold fX12_inject
        refine wp_obe (m_noPlace_ok _ rfl rfl hi hj) (wp_t rfl (mE hms (m_noHeader_ok hms hbm hbw rfl hc) (wp_t rfl (mE hms (m_noHeader_ok hms hbm hbw rfl hv) (wp_t rfl (mW hms (mW hms (mW hms ?_))))))))
        rw [pl1, nx_and]
        refine mKw hms (m_injected hms (bits := tB T) (j := (4 * i + j, c, v &&& c)) ?_ hbw hj' ?_ ?_) (fun s hs' => ?_)
        · rw [up3_k (by decide), up3_k (by decide), up3_k (by decide)]; exact hbm
        · rw [up3_k (by decide), up3_s]
        · rw [up3_s]
        · have he : s = s0 := hs'.eq hs0
          subst he
          refine wp_obe (m_size _ (hs0.in32 hbw)) (wp_some ⟨rfl, MR_mk hms ?_⟩)
          obtain ⟨p1, p2, p3, p4, ⟨p5, p6⟩, ⟨p7, p8, p9⟩, ⟨p10, p11⟩, p12, p13⟩ := hM
          have e : ∀ k, k ≠ 4 → k ≠ 5 → k ≠ 6 → up3 (up3 (up3 (uI m) 12 4 0 (nI (4 * i + j))) 12 5 0 (nI c)) 12 6 0 (nI (v &&& c)) 12 k 0 = uI m 12 k 0 := fun k h4 h5 h6 => by rw [up3_k h6, up3_k h5, up3_k h4]
          exact ⟨(e _ (by decide) (by decide) (by decide)).trans p1, p2, (e _ (by decide) (by decide) (by decide)).trans p3, p4, ⟨(e _ (by decide) (by decide) (by decide)).trans p5, p6⟩, ⟨by rw [up3_k (by decide), up3_k (by decide), up3_s]; rfl, by rw [up3_k (by decide), up3_s]; rfl, up3_s⟩, ⟨(e _ (by decide) (by decide) (by decide)).trans p10, p11⟩, (e _ (by decide) (by decide) (by decide)).trans p12, p13⟩
    · refine sim (T' := T) (r := -3) hW ?_ ?_
      · show wp (fX11_inject 0 (nI i) (nI j) x3 x4 (mk x (uI x) (uJ x) (uAI x) (uAJ x) (uAR x))) _
        unfold fX11_inject
        exact wp_obe (x_isPlace_ok _ rfl rfl hi hj) (wp_f (by decide) (oR (hs.1 0 12 rfl) (hs.2.2 11 0 0 1 rfl) (oE (hs.1 1 5 rfl) (x_isCube_bad hs hbx hbw hcu) (wp_t rfl (wp_some ⟨rfl, hs, hd, hP⟩)))))
      · show wp (fX12_inject 0 (nI i) (nI j) x3 x4 (mk m (uI m) (uJ m) (uAI m) (uAJ m) (uAR m))) _
        unfold fX12_inject
        refine wp_obe (m_noPlace_ok _ rfl rfl hi hj) (wp_t rfl ?_)
        rcases ix x3 (2 ^ tB T) (by omega) with ⟨c, hc, e⟩ | e
        · refine mE hms (m_noHeader_ok hms hbm hbw e hc) (wp_t rfl ?_)
          rcases hcu with h | h
          · rw [e] at h; exact absurd h (nbad hc (by omega))
          · exact mE hms (m_noHeader_bad hms hbm hbw h) (wp_f (by decide) (wp_some ⟨rfl, hms, hM⟩))
        · exact mE hms (m_noHeader_bad hms hbm hbw e) (wp_f (by decide) (wp_some ⟨rfl, hms, hM⟩))
  · refine sim (T' := T) (r := -1) hW ?_ ?_
    · unfold fX11_inject
      exact wp_obe (x_isPlace_bad _ hb) (wp_t rfl (wp_some ⟨rfl, hs, hd, hP⟩))
    · unfold fX12_inject
      exact wp_obe (m_noPlace_bad _ hb) (wp_f (by decide) (wp_some ⟨rfl, hms, hM⟩))
end PUB
