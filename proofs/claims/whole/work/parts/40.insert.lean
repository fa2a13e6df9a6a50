def insV (T : TS) (box : Nat) : Int32 := if (tR T box).length < 6 then nI ((tR T box).length + 1) else -5
def insT (T : TS) (box i : Nat) (r : RT) : TS := if (tR T box).length < 6 then edT T (setB (tR T) box ((tR T box).insertIdx i r)) (nxH T) else T
theorem WF_ins {T : TS} (hW : WF T) {box i : Nat} {r : RT} (hb : box < 6) (hi : i ≤ (tR T box).length) (hr : RW (tB T) r) : WF (insT T box i r) := by
  unfold insT
  split
  · refine WF_ed hW ?_ (fun r' hr' => ?_)
    · have := List.length_insertIdx_le_succ (l := tR T box) (x := r) (i := i)
      omega
    · rcases (List.mem_insertIdx hi).mp hr' with h | h
      · subst h; exact hr
      · exact (hW.2.2.1 box hb).2 r' h
  · exact hW
theorem pv (x : Int32) : (∃ p, 1 ≤ p ∧ p ≤ 15 ∧ x = nI p) ∨ (x < 1 ∨ 15 < x) := by
  rcases ix x 16 (by decide) with ⟨i, hi, rfl⟩ | h
  · rcases Nat.eq_zero_or_pos i with h0 | h0
    · subst h0; exact Or.inr (Or.inl (by decide))
    · exact Or.inl ⟨i, h0, by omega, rfl⟩
  · rcases h with h | h
    · exact Or.inr (Or.inl (Int32.lt_trans h (by decide)))
    · exact Or.inr (Or.inr (Int32.lt_of_lt_of_le (by decide) h))
theorem pv_ok {p : Nat} (h1 : 1 ≤ p) (h2 : p ≤ 15) : ¬ nI p < (1 : Int32) ∧ ¬ (15 : Int32) < nI p := ⟨nI_nlt (b := 1) h1 (by omega), nI_nlt (a := 15) h2 (by decide)⟩
theorem x_isPortSet_ok {x : Int32} {p : Nat} (u : UH) (hx : x = nI p) (h1 : 1 ≤ p) (h2 : p ≤ 15) : fX11_isPortSet x u = some 1 := by
  subst hx
  unfold fX11_isPortSet
  rw [if_neg (pv_ok h1 h2).1, if_neg (pv_ok h1 h2).2]
theorem x_isPortSet_bad {x : Int32} (u : UH) (hx : x < 1 ∨ 15 < x) : fX11_isPortSet x u = some 0 := by
  unfold fX11_isPortSet
  by_cases h : x < 1
  · rw [if_pos h]
  · rcases hx with hx | hx
    · exact absurd hx h
    · rw [if_neg h, if_pos hx]
theorem m_in15_ok {x : Int32} {p : Nat} (u : UH) (hx : x = nI p) (h1 : 1 ≤ p) (h2 : p ≤ 15) : fX12_in x 1 15 u = some 1 := by
  subst hx
  unfold fX12_in
  rw [if_neg (pv_ok h1 h2).1, if_neg (pv_ok h1 h2).2]
theorem m_in15_bad {x : Int32} (u : UH) (hx : x < 1 ∨ 15 < x) : fX12_in x 1 15 u = some 0 := by
  unfold fX12_in
  by_cases h : x < 1
  · rw [if_pos h]
  · rcases hx with hx | hx
    · exact absurd hx h
    · rw [if_neg h, if_pos hx]
/-- what may be put in -/
def badI (b n : Nat) (x2 x3 x4 x5 : Int32) : Prop := bad x2 (n + 1) ∨ (x3 < 1 ∨ 15 < x3) ∨ bad x4 (2 ^ b) ∨ bad x5 (2 ^ b)
theorem insIx {b n : Nat} (hb : BW b) (hn : n ≤ 6) (x2 x3 x4 x5 : Int32) : (∃ i p c v, i ≤ n ∧ 1 ≤ p ∧ p ≤ 15 ∧ c < 2 ^ b ∧ v < 2 ^ b ∧ x2 = nI i ∧ x3 = nI p ∧ x4 = nI c ∧ x5 = nI v) ∨ badI b n x2 x3 x4 x5 := by
  have hp := (pow_b hb).2
  rcases ix x2 (n + 1) (by omega) with ⟨i, hi, e1⟩ | e1
  · rcases pv x3 with ⟨p, h1, h2, e2⟩ | e2
    · rcases ix x4 (2 ^ b) (by omega) with ⟨c, hc, e3⟩ | e3
      · rcases ix x5 (2 ^ b) (by omega) with ⟨v, hv, e4⟩ | e4
        · exact Or.inl ⟨i, p, c, v, by omega, h1, h2, hc, hv, e1, e2, e3, e4⟩
        · exact Or.inr (Or.inr (Or.inr (Or.inr e4)))
      · exact Or.inr (Or.inr (Or.inr (Or.inl e3)))
    · exact Or.inr (Or.inr (Or.inl e2))
  · exact Or.inr (Or.inl e1)
section
variable {b : UH} {fi : Nat → Nat → Nat → Int32} {fj : Nat → Nat → Nat → Int64} {ai : Nat → Nat → Int32} {aj : Nat → Nat → Int64} {ar : Nat → Nat → Option Nat} {T : TS} {box i p c v : Nat} {x1 x2 x3 x4 x5 x6 : Int32}
theorem x_isInsertable_ok (hs : xst b) (hW : WF T) (hP : XPic T b fi fj ai ar) (h1 : x1 = nI box) (hb : box < 6) (h2 : x2 = nI i) (hi : i ≤ (tR T box).length) (h3 : x3 = nI p) (hp1 : 1 ≤ p) (hp2 : p ≤ 15) (h4 : x4 = nI c) (hc : c < 2 ^ tB T) (h5 : x5 = nI v) (hv : v < 2 ^ tB T) : fX11_isInsertable 0 x1 x2 x3 x4 x5 (mk b fi fj ai aj ar) = some 1 := by
  have h6 := (hP.2.2.2.2.1 box hb).2.1
  refine of_wp ?_
  unfold fX11_isInsertable
  rw [h2]
  refine wp_f (nI_pos (by omega)) (oR (hs.1 0 12 rfl) (hs.2.2 11 0 0 1 rfl) (oR (hs.1 1 5 rfl) (hs.2.2 4 3 1 3 rfl) (oLR (hs.1 3 26 rfl) (hs.2.1 3 6 rfl) h1 hb (by decide) (hP.1.1 box hb) (oi (hs.1 _ _ (LA_box box hb).1) ?_))))
  rw [(hP.2.2.2.2.1 box hb).1]
  refine wp_f (nI_nlt hi (by omega)) (wp_obe (x_isPortSet_ok _ h3 hp1 hp2) (wp_f (by decide) (oR (hs.1 0 12 rfl) (hs.2.2 11 0 0 1 rfl) (oE (hs.1 1 5 rfl) (x_isCube_ok hs hP.2.1 hW.1 h4 hc h5 hv) (wp_f (by decide) (wp_some rfl))))))
theorem x_isInsertable_bad (hs : xst b) (hW : WF T) (hP : XPic T b fi fj ai ar) (h1 : x1 = nI box) (hb : box < 6) (h : badI (tB T) (tR T box).length x2 x3 x4 x5) : fX11_isInsertable 0 x1 x2 x3 x4 x5 (mk b fi fj ai aj ar) = some 0 := by
  have h6 := (hP.2.2.2.2.1 box hb).2.1
  refine of_wp ?_
  unfold fX11_isInsertable
  refine wp_if (fun _ => wp_some rfl) (fun n1 => ?_)
  refine (oR (hs.1 0 12 rfl) (hs.2.2 11 0 0 1 rfl) (oR (hs.1 1 5 rfl) (hs.2.2 4 3 1 3 rfl) (oLR (hs.1 3 26 rfl) (hs.2.1 3 6 rfl) h1 hb (by decide) (hP.1.1 box hb) (oi (hs.1 _ _ (LA_box box hb).1) ?_))))
  rw [(hP.2.2.2.2.1 box hb).1]
  refine wp_if (fun _ => wp_some rfl) (fun n2 => ?_)
  rcases h with h | h | h
  · exfalso
    have h7 := bad_lt0 (n := (tR T box).length + 1) (by omega) h n1
    exact n2 (Int32.lt_of_lt_of_le (nI_lt (Nat.lt_succ_self _) (by omega)) h7)
  · exact wp_obe (x_isPortSet_bad _ h) (wp_t rfl (wp_some rfl))
  · rcases pv x3 with ⟨p, q1, q2, e2⟩ | e2
    · exact wp_obe (x_isPortSet_ok _ e2 q1 q2) (wp_f (by decide) (oR (hs.1 0 12 rfl) (hs.2.2 11 0 0 1 rfl) (oE (hs.1 1 5 rfl) (x_isCube_bad hs hP.2.1 hW.1 h) (wp_t rfl (wp_some rfl)))))
    · exact wp_obe (x_isPortSet_bad _ e2) (wp_t rfl (wp_some rfl))
theorem x_insertRule (hs : xst b) (hd : xdom b) (hW : WF T) (hP : XPic T b fi fj ai ar) (h1 : x1 = nI box) (hb : box < 6) (h2 : x2 = nI i) (hi : i ≤ (tR T box).length) {ra : Nat} {r : RT} (hr : RP b fi fj ra r) : wp (fX11_insertRule 0 x1 x2 ra (mk b fi fj ai aj ar)) (fun q => q.1 = insV T box ∧ XR (insT T box i r) q.2) := by
  have hL := hP.2.2.2.2.1 box hb
  have h6 := hL.2.1
  unfold fX11_insertRule insV insT
  refine (oR (hs.1 0 12 rfl) (hs.2.2 11 0 0 1 rfl) (oR (hs.1 1 5 rfl) (hs.2.2 4 3 1 3 rfl) (oLR (hs.1 3 26 rfl) (hs.2.1 3 6 rfl) h1 hb (by decide) (hP.1.1 box hb) (oi (hs.1 _ _ (LA_box box hb).1) ?_))))
  rw [hL.1]
  refine wp_ltt rfl (show (6 : Int32) = nI 6 from rfl) (by omega) (by decide) (fun hlt => ?_) (fun hge => ?_)
  · rw [if_pos hlt, if_pos hlt]
    refine oR (hs.1 0 12 rfl) (hs.2.2 11 1 0 17 rfl) (oKw (hs.1 17 4 rfl) (x_keep hs hW.2.2.2.1.1 hP hb h1) (fun u hu => ?_))
    obtain ⟨fi', ai', ar', rfl, e1, e2, hK⟩ := hu
    refine oKw (hs.1 _ _ (LA_box box hb).1) (x_insertAt hs (LA_box box hb) hK.1 hlt hi (hr.cg rfl (fun k => e1 k ra) (fun _ => rfl)) h2) (fun u hu => ?_)
    obtain ⟨fi2, ar2, rfl, g1, g2, g3⟩ := hu
    refine oi (hs.1 _ _ (LA_box box hb).1) (wp_some ⟨?_, XR_mk hs hd (hK.2 _ _ _ g1 (fun a ha => g2 a (by omega)) g3)⟩)
    dsimp only
    rw [g3.1, List.length_insertIdx_of_le_length hi]
  · rw [if_neg (by omega), if_neg (by omega)]
    exact wp_some ⟨rfl, XR_mk hs hd hP⟩
theorem m_insert_box (u : UH) (h1 : bad x1 6) : fX12_insert 0 x1 x2 x3 x4 x5 x6 u = some (-1, u) := by
  refine of_wp ?_
  unfold fX12_insert
  exact wp_obe (m_noBox_bad u h1) (wp_f (by decide) (wp_some rfl))
theorem m_insert_bad (hs : mst b) (hW : WF T) (hM : MPic T fi ai) (h1 : x1 = nI box) (hb : box < 6) (h : badI (tB T) (tR T box).length x2 x3 x4 x5 ∨ bad x6 16) : fX12_insert 0 x1 x2 x3 x4 x5 x6 (mk b fi fj ai aj ar) = some (-3, (mk b fi fj ai aj ar)) := by
  have h6 := (hW.2.2.1 box hb).1
  have hp := (pow_b hW.1).2
  refine of_wp ?_
  unfold fX12_insert
  refine wp_obe (m_noBox_ok _ h1 hb) (wp_t rfl (mE hs (m_manyr hs hM.2.2.2.1 h1 hb) ?_))
  rcases insIx (b := tB T) (n := (tR T box).length) hW.1 h6 x2 x3 x4 x5 with ⟨i, p, c, v, hi, hp1, hp2, hc, hv, rfl, rfl, rfl, rfl⟩ | hbI
  · rcases h with h | h
    · exfalso
      rcases h with h | h | h | h
      · exact nbad (by omega) (by omega) h
      · rcases h with h | h
        · exact (pv_ok hp1 hp2).1 h
        · exact (pv_ok hp1 hp2).2 h
      · exact nbad hc (by omega) h
      · exact nbad hv (by omega) h
    · refine wp_obe (m_in_ok (n := (tR T box).length + 1) _ rfl rfl (nI_pred _).symm (by omega) (by omega)) (wp_f (by decide) (wp_obe (m_in15_ok _ rfl hp1 hp2) (wp_f (by decide) (mE hs (m_noHeader_ok hs hM.1 hW.1 rfl hc) (wp_t rfl (mE hs (m_noHeader_ok hs hM.1 hW.1 rfl hv) (wp_t rfl (wp_obe (m_in_bad _ h rfl (show (15 : Int32) = nI 16 - 1 from rfl) (by decide)) (wp_t rfl (wp_some rfl))))))))))
  · rcases ix x2 ((tR T box).length + 1) (by omega) with ⟨i, hi, e1⟩ | e1
    · refine wp_obe (m_in_ok (n := (tR T box).length + 1) _ e1 rfl (nI_pred _).symm hi (by omega)) (wp_f (by decide) ?_)
      rcases pv x3 with ⟨p, hp1, hp2, e2⟩ | e2
      · refine wp_obe (m_in15_ok _ e2 hp1 hp2) (wp_f (by decide) ?_)
        rcases ix x4 (2 ^ tB T) (by omega) with ⟨c, hc, e3⟩ | e3
        · refine mE hs (m_noHeader_ok hs hM.1 hW.1 e3 hc) (wp_t rfl ?_)
          rcases ix x5 (2 ^ tB T) (by omega) with ⟨v, hv, e4⟩ | e4
          · exfalso
            subst e1; subst e2; subst e3; subst e4
            rcases hbI with h | h | h | h
            · exact nbad (by omega) (by omega) h
            · rcases h with h | h
              · exact (pv_ok hp1 hp2).1 h
              · exact (pv_ok hp1 hp2).2 h
            · exact nbad hc (by omega) h
            · exact nbad hv (by omega) h
          · exact mE hs (m_noHeader_bad hs hM.1 hW.1 e4) (wp_f (by decide) (wp_some rfl))
        · exact mE hs (m_noHeader_bad hs hM.1 hW.1 e3) (wp_f (by decide) (wp_some rfl))
      · exact wp_obe (m_in15_bad _ e2) (wp_t rfl (wp_some rfl))
    · exact wp_obe (m_in_bad (n := (tR T box).length + 1) _ e1 rfl (nI_pred _).symm (by omega)) (wp_t rfl (wp_some rfl))
theorem m_insert_ok (hs : mst b) (hW : WF T) (hM : MPic T fi ai) (h1 : x1 = nI box) (hb : box < 6) (h2 : x2 = nI i) (hi : i ≤ (tR T box).length) (h3 : x3 = nI p) (hp1 : 1 ≤ p) (hp2 : p ≤ 15) (h4 : x4 = nI c) (hc : c < 2 ^ tB T) (h5 : x5 = nI v) (hv : v < 2 ^ tB T) {o : Nat} (h6 : x6 = nI o) (ho : o ≤ 15) : wp (fX12_insert 0 x1 x2 x3 x4 x5 x6 (mk b fi fj ai aj ar)) (fun q => q.1 = insV T box ∧ ∃ fi' ai', q.2 = mk b fi' fj ai' aj ar ∧ (∀ k, k ≠ 7 → fi' 12 k 0 = fi 12 k 0) ∧ MPic (insT T box i (mkR p c (v &&& c) o 0 0 1)) fi' ai' ∧ ((tR T box).length < 6 → ∀ r', NowX (ai' 2) (setB (tR T) box ((tR T box).insertIdx i r')) box i)) := by
  have h66 := (hW.2.2.1 box hb).1
  have hl : ∀ bx, bx < 6 → (tR T bx).length ≤ 6 := fun bx hbx => (hW.2.2.1 bx hbx).1
  unfold fX12_insert insV insT
  refine wp_obe (m_noBox_ok _ h1 hb) (wp_t rfl (mE hs (m_manyr hs hM.2.2.2.1 h1 hb) ?_))
  refine wp_obe (m_in_ok (n := (tR T box).length + 1) _ h2 rfl (nI_pred _).symm (by omega) (by omega)) (wp_f (by decide) (wp_obe (m_in15_ok _ h3 hp1 hp2) (wp_f (by decide) (mE hs (m_noHeader_ok hs hM.1 hW.1 h4 hc) (wp_t rfl (mE hs (m_noHeader_ok hs hM.1 hW.1 h5 hv) (wp_t rfl (wp_obe (m_in_ok _ h6 rfl (show (15 : Int32) = nI 16 - 1 from rfl) (by omega) (by decide)) (wp_f (by decide) (mE hs (m_manyr hs hM.2.2.2.1 h1 hb) ?_))))))))))
  refine wp_eqq (b := 6) rfl rfl (by omega) (by decide) (fun he => ?_) (fun hne => ?_)
  · rw [if_neg (by omega), if_neg (by omega)]
    exact wp_some ⟨rfl, fi, ai, rfl, fun _ _ => rfl, hM, fun h => absurd h (by omega)⟩
  · have hlt : (tR T box).length < 6 := by omega
    rw [if_pos hlt, if_pos hlt]
    refine mKw hs (m_keep hs hW hM) (fun u hu => ?_)
    obtain ⟨fi', ai', rfl, e1, e2, hM'⟩ := hu
    have hN : NowP (ai' 2) (tR T) := hM'.2.2.2.1
    refine mKw hs (m_open hs hN hl h1 hb hlt hi h2) (fun u hu => ?_)
    obtain ⟨ai2, rfl, g1, g2⟩ := hu
    refine mE hs (m_put (f := 0) hs h1 h2 rfl hb (by omega) (by decide)) ?_
    refine mE hs (m_put (f := 1) hs h1 h2 rfl hb (by omega) (by decide)) ?_
    refine mE hs (m_put (f := 2) hs h1 h2 rfl hb (by omega) (by decide)) ?_
    refine mE hs (m_put (f := 3) hs h1 h2 rfl hb (by omega) (by decide)) ?_
    refine mE hs (m_put (f := 4) hs h1 h2 rfl hb (by omega) (by decide)) ?_
    refine mE hs (m_put (f := 5) hs h1 h2 rfl hb (by omega) (by decide)) ?_
    refine mE hs (m_put (f := 6) hs h1 h2 rfl hb (by omega) (by decide)) ?_
    generalize hz : up2 (up2 (up2 (up2 (up2 (up2 (up2 ai2 2 (7 * (6 * box + i) + 0) x3) 2 (7 * (6 * box + i) + 1) x4) 2 (7 * (6 * box + i) + 2) (x5 &&& x4)) 2 (7 * (6 * box + i) + 3) x6) 2 (7 * (6 * box + i) + 4) 0) 2 (7 * (6 * box + i) + 5) 0) 2 (7 * (6 * box + i) + 6) 1 = ai3
    have z1 : ∀ a, a ≠ 2 → ai3 a = ai2 a := fun a ha => by rw [← hz, up2_a ha, up2_a ha, up2_a ha, up2_a ha, up2_a ha, up2_a ha, up2_a ha]
    have z2 : ∀ y, (∀ f, f < 7 → y ≠ 7 * (6 * box + i) + f) → ai3 2 y = ai2 2 y := fun y hy => by
      rw [← hz, up2_i (hy 6 (by decide)), up2_i (hy 5 (by decide)), up2_i (hy 4 (by decide)), up2_i (hy 3 (by decide)), up2_i (hy 2 (by decide)), up2_i (hy 1 (by decide)), up2_i (hy 0 (by decide))]
    have z3 : ∀ f, f < 7 → ai3 2 (7 * (6 * box + i) + f) = nI (mkR p c (v &&& c) o 0 0 1 f) := by
      rw [← hz]
      refine mkR_eq (g := fun f => up2 (up2 (up2 (up2 (up2 (up2 (up2 ai2 2 (7 * (6 * box + i) + 0) x3) 2 (7 * (6 * box + i) + 1) x4) 2 (7 * (6 * box + i) + 2) (x5 &&& x4)) 2 (7 * (6 * box + i) + 3) x6) 2 (7 * (6 * box + i) + 4) 0) 2 (7 * (6 * box + i) + 5) 0) 2 (7 * (6 * box + i) + 6) 1 2 (7 * (6 * box + i) + f)) ?_ ?_ ?_ ?_ ?_ ?_ ?_
      · rw [up2_i (by omega), up2_i (by omega), up2_i (by omega), up2_i (by omega), up2_i (by omega), up2_i (by omega), up2_s, h3]
      · rw [up2_i (by omega), up2_i (by omega), up2_i (by omega), up2_i (by omega), up2_i (by omega), up2_s, h4]
      · rw [up2_i (by omega), up2_i (by omega), up2_i (by omega), up2_i (by omega), up2_s, h5, h4, nx_and]
      · rw [up2_i (by omega), up2_i (by omega), up2_i (by omega), up2_s, h6]
      · rw [up2_i (by omega), up2_i (by omega), up2_s]; rfl
      · rw [up2_i (by omega), up2_s]; rfl
      · rw [up2_s]; rfl
    have hl' : ∀ r, ∀ bx, bx < 6 → (setB (tR T) box ((tR T box).insertIdx i r) bx).length ≤ 6 := fun r bx hbx => by
      by_cases e : bx = box
      · subst e; rw [setB_s, List.length_insertIdx_of_le_length hi]; omega
      · rw [setB_n e]; exact hl bx hbx
    have hget : ∀ r : RT, (setB (tR T) box ((tR T box).insertIdx i r) box)[i]? = some r := fun r => by
      rw [setB_s, List.getElem?_insertIdx_self, if_pos hi]
    have hNP : NowP (ai3 2) (setB (tR T) box ((tR T box).insertIdx i (mkR p c (v &&& c) o 0 0 1))) := (g2 _).put (hl' _) hb (hget _) z2 z3
    refine mE hs (m_manyr hs hNP h1 hb) (wp_some ⟨?_, fi', ai3, rfl, e2, ?_, fun _ r' bx hbx => ?_⟩)
    · dsimp only
      rw [setB_s, List.length_insertIdx_of_le_length hi]
    · exact hM'.now (fun a ha _ => by rw [z1 a ha, g1 a ha]) hNP
    · obtain ⟨q1, q2⟩ := g2 r' bx hbx
      have hl2 := hl' r' bx hbx
      refine ⟨by rw [z2 _ (fun f hf => by omega)]; exact q1, fun j r2 hr2 hne f hf => ?_⟩
      have := (List.getElem?_eq_some_iff.mp hr2).1
      rw [z2 _ (fun f' hf' => by omega)]
      exact q2 j r2 hr2 hne f hf
end
section PUB
variable {T : TS} {x m : UH} {x1 x2 x3 x4 x5 x6 : Int32}
theorem RW_new {b p c v o : Nat} (hp1 : 1 ≤ p) (hp2 : p ≤ 15) (hc : c < 2 ^ b) (hv : v < 2 ^ b) (ho : o ≤ 15) : RW b (mkR p c (v &&& c) o 0 0 1) := ⟨hp1, hp2, hc, Nat.lt_of_le_of_lt Nat.and_le_right hc, by show v &&& c &&& c = v &&& c; rw [Nat.and_assoc, Nat.and_self], ho, Nat.two_pow_pos _, Nat.two_pow_pos _, by show (0 : Nat) &&& 0 = 0; decide, Or.inr rfl, fun _ => rfl⟩
theorem s_insertDrop (hR : RR T x m) : SIM T (fX11_insertDrop 0 x1 x2 x3 x4 x5 x) (fX12_insertDrop 0 x1 x2 x3 x4 x5 m) := by
  obtain ⟨hW, ⟨hs, hd, hP⟩, hms, hM⟩ := hR
  rcases ix x1 6 (by decide) with ⟨box, hb, rfl⟩ | hb
  · have h6 := (hW.2.2.1 box hb).1
    rcases insIx (n := (tR T box).length) hW.1 h6 x2 x3 x4 x5 with ⟨i, p, c, v, hi, hp1, hp2, hc, hv, rfl, rfl, rfl, rfl⟩ | hbad
    · refine sim (T' := insT T box i (mkR p c (v &&& c) 0 0 0 1)) (r := insV T box) (WF_ins hW hb hi (RW_new hp1 hp2 hc hv (by decide))) ?_ ?_
      · show wp (fX11_insertDrop 0 (nI box) (nI i) (nI p) (nI c) (nI v) (mk x (uI x) (uJ x) (uAI x) (uAJ x) (uAR x))) _
        unfold fX11_insertDrop
        refine wp_obe (x_isBox_ok _ rfl hb) (wp_f (by decide) (oE (hs.1 0 12 rfl) (x_isInsertable_ok hs hW hP rfl hb rfl hi rfl hp1 hp2 rfl hc rfl hv) (wp_f (by decide) (x_new hs hd (fun b' fi' fj' hs' hd' k1 k2 k3 k4 => ?_)))))
        refine wp_obw (x_init k1 (p := p) (c := c) (v := v) (o := 0) (ch := 0) (t := 0) (on := 1) rfl rfl rfl rfl rfl rfl rfl (lt32 hW.1 hc) (lt32 hW.1 hv) (Or.inr rfl)) (fun u hu => ?_)
        obtain ⟨fi2, fj2, rfl, g1, g2, g3⟩ := hu
        have hP' : XPic T b' fi2 fj2 (uAI x) (uAR x) := hP.nw hW.2.2.2.2.2.1.1 hd.2 (xdom_new hd) k2 (fun c k a ha => by rw [g2 c k a ha, k3 c k a ha]) (fun c k a ha => by rw [g3 c k a ha, k4 c k a ha])
        refine oK2 (hs'.1 0 12 rfl) (x_insertRule hs' hd' hW hP' rfl hb rfl hi g1) (fun y u hq => wp_some ?_)
        rw [show (0 : Nat) &&& 0 = 0 by decide] at hq
        exact hq
      · show wp (fX12_insertDrop 0 (nI box) (nI i) (nI p) (nI c) (nI v) (mk m (uI m) (uJ m) (uAI m) (uAJ m) (uAR m))) _
        unfold fX12_insertDrop
        refine mK2 hms (m_insert_ok hms hW hM rfl hb rfl hi rfl hp1 hp2 rfl hc rfl hv (o := 0) rfl (by decide)) (fun y u hq => ?_)
        obtain ⟨q1, fi', ai', q2, q3, q4, q5⟩ := hq
        dsimp only at q1 q2
        subst q2
        exact wp_some ⟨q1, MR_mk hms q4⟩
    · refine sim (T' := T) (r := -3) hW ?_ ?_
      · show wp (fX11_insertDrop 0 (nI box) x2 x3 x4 x5 (mk x (uI x) (uJ x) (uAI x) (uAJ x) (uAR x))) _
        unfold fX11_insertDrop
        exact wp_obe (x_isBox_ok _ rfl hb) (wp_f (by decide) (oE (hs.1 0 12 rfl) (x_isInsertable_bad hs hW hP rfl hb hbad) (wp_t rfl (wp_some ⟨rfl, hs, hd, hP⟩))))
      · show wp (fX12_insertDrop 0 (nI box) x2 x3 x4 x5 (mk m (uI m) (uJ m) (uAI m) (uAJ m) (uAR m))) _
        unfold fX12_insertDrop
        exact mE2 hms (m_insert_bad hms hW hM rfl hb (Or.inl hbad)) (wp_some ⟨rfl, hms, hM⟩)
  · refine sim (T' := T) (r := -1) hW ?_ ?_
    · show wp (fX11_insertDrop 0 x1 x2 x3 x4 x5 (mk x (uI x) (uJ x) (uAI x) (uAJ x) (uAR x))) _
      unfold fX11_insertDrop
      exact wp_obe (x_isBox_bad _ hb) (wp_t rfl (wp_some ⟨rfl, hs, hd, hP⟩))
    · show wp (fX12_insertDrop 0 x1 x2 x3 x4 x5 (mk m (uI m) (uJ m) (uAI m) (uAJ m) (uAR m))) _
      unfold fX12_insertDrop
      exact mE2 hms (m_insert_box _ hb) (wp_some ⟨rfl, hms, hM⟩)
theorem s_insertForward (hR : RR T x m) : SIM T (fX11_insertForward 0 x1 x2 x3 x4 x5 x6 x) (fX12_insertForward 0 x1 x2 x3 x4 x5 x6 m) := by
  obtain ⟨hW, ⟨hs, hd, hP⟩, hms, hM⟩ := hR
  rcases ix x1 6 (by decide) with ⟨box, hb, rfl⟩ | hb
  · have h6 := (hW.2.2.1 box hb).1
    have badM : (badI (tB T) (tR T box).length x2 x3 x4 x5 ∨ (x6 < 1 ∨ 15 < x6)) → wp (fX12_insertForward 0 (nI box) x2 x3 x4 x5 x6 (mk m (uI m) (uJ m) (uAI m) (uAJ m) (uAR m))) (fun q => q.1 = -3 ∧ MR T q.2) := by
      intro h
      unfold fX12_insertForward fX12_insertForward_20
      refine wp_if (fun h0 => ?_) (fun h0 => ?_)
      · exact mE2 hms (m_insert_bad hms hW hM rfl hb (Or.inr (by unfold bad; decide))) (wp_some ⟨rfl, hms, hM⟩)
      · refine mE2 hms (m_insert_bad hms hW hM rfl hb ?_) (wp_some ⟨rfl, hms, hM⟩)
        rcases h with h | h
        · exact Or.inl h
        · rcases ix x6 16 (by decide) with ⟨o, ho, e⟩ | e
          · exfalso
            subst e
            rcases Nat.eq_zero_or_pos o with z | z
            · subst z; exact h0 rfl
            · rcases h with h | h
              · exact (pv_ok z (by omega)).1 h
              · exact (pv_ok z (by omega)).2 h
          · exact Or.inr e
    rcases insIx (n := (tR T box).length) hW.1 h6 x2 x3 x4 x5 with ⟨i, p, c, v, hi, hp1, hp2, hc, hv, rfl, rfl, rfl, rfl⟩ | hbad
    · rcases pv x6 with ⟨o, ho1, ho2, rfl⟩ | ho
      · refine sim (T' := insT T box i (mkR p c (v &&& c) o 0 0 1)) (r := insV T box) (WF_ins hW hb hi (RW_new hp1 hp2 hc hv ho2)) ?_ ?_
        · show wp (fX11_insertForward 0 (nI box) (nI i) (nI p) (nI c) (nI v) (nI o) (mk x (uI x) (uJ x) (uAI x) (uAJ x) (uAR x))) _
          unfold fX11_insertForward
          refine wp_obe (x_isBox_ok _ rfl hb) (wp_f (by decide) (oE (hs.1 0 12 rfl) (x_isInsertable_ok hs hW hP rfl hb rfl hi rfl hp1 hp2 rfl hc rfl hv) (wp_f (by decide) (wp_obe (x_isPortSet_ok _ rfl ho1 ho2) (wp_f (by decide) (x_new hs hd (fun b' fi' fj' hs' hd' k1 k2 k3 k4 => ?_)))))))
          refine wp_obw (x_init k1 (p := p) (c := c) (v := v) (o := o) (ch := 0) (t := 0) (on := 1) rfl rfl rfl rfl rfl rfl rfl (lt32 hW.1 hc) (lt32 hW.1 hv) (Or.inr rfl)) (fun u hu => ?_)
          obtain ⟨fi2, fj2, rfl, g1, g2, g3⟩ := hu
          have hP' : XPic T b' fi2 fj2 (uAI x) (uAR x) := hP.nw hW.2.2.2.2.2.1.1 hd.2 (xdom_new hd) k2 (fun c k a ha => by rw [g2 c k a ha, k3 c k a ha]) (fun c k a ha => by rw [g3 c k a ha, k4 c k a ha])
          refine oK2 (hs'.1 0 12 rfl) (x_insertRule hs' hd' hW hP' rfl hb rfl hi g1) (fun y u hq => wp_some ?_)
          rw [show (0 : Nat) &&& 0 = 0 by decide] at hq
          exact hq
        · show wp (fX12_insertForward 0 (nI box) (nI i) (nI p) (nI c) (nI v) (nI o) (mk m (uI m) (uJ m) (uAI m) (uAJ m) (uAR m))) _
          unfold fX12_insertForward fX12_insertForward_20
          refine wp_f (nI_ne0 ho1 (by omega)) (mK2 hms (m_insert_ok hms hW hM rfl hb rfl hi rfl hp1 hp2 rfl hc rfl hv (o := o) rfl ho2) (fun y u hq => ?_))
          obtain ⟨q1, fi', ai', q2, q3, q4, q5⟩ := hq
          dsimp only at q1 q2
          subst q2
          exact wp_some ⟨q1, MR_mk hms q4⟩
      · refine sim (T' := T) (r := -3) hW ?_ (badM (Or.inr ho))
        show wp (fX11_insertForward 0 (nI box) (nI i) (nI p) (nI c) (nI v) x6 (mk x (uI x) (uJ x) (uAI x) (uAJ x) (uAR x))) _
        unfold fX11_insertForward
        exact wp_obe (x_isBox_ok _ rfl hb) (wp_f (by decide) (oE (hs.1 0 12 rfl) (x_isInsertable_ok hs hW hP rfl hb rfl hi rfl hp1 hp2 rfl hc rfl hv) (wp_f (by decide) (wp_obe (x_isPortSet_bad _ ho) (wp_t rfl (wp_some ⟨rfl, hs, hd, hP⟩))))))
    · refine sim (T' := T) (r := -3) hW ?_ (badM (Or.inl hbad))
      show wp (fX11_insertForward 0 (nI box) x2 x3 x4 x5 x6 (mk x (uI x) (uJ x) (uAI x) (uAJ x) (uAR x))) _
      unfold fX11_insertForward
      exact wp_obe (x_isBox_ok _ rfl hb) (wp_f (by decide) (oE (hs.1 0 12 rfl) (x_isInsertable_bad hs hW hP rfl hb hbad) (wp_t rfl (wp_some ⟨rfl, hs, hd, hP⟩))))
  · refine sim (T' := T) (r := -1) hW ?_ ?_
    · show wp (fX11_insertForward 0 x1 x2 x3 x4 x5 x6 (mk x (uI x) (uJ x) (uAI x) (uAJ x) (uAR x))) _
      unfold fX11_insertForward
      exact wp_obe (x_isBox_bad _ hb) (wp_t rfl (wp_some ⟨rfl, hs, hd, hP⟩))
    · show wp (fX12_insertForward 0 x1 x2 x3 x4 x5 x6 (mk m (uI m) (uJ m) (uAI m) (uAJ m) (uAR m))) _
      unfold fX12_insertForward fX12_insertForward_20
      exact wp_if (fun _ => mE2 hms (m_insert_box _ hb) (wp_some ⟨rfl, hms, hM⟩)) (fun _ => mE2 hms (m_insert_box _ hb) (wp_some ⟨rfl, hms, hM⟩))
end PUB
