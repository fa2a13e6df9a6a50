theorem NowP.set {row row' : Nat → Int32} {rb : RB} {bx i : Nat} {r r' : RT} (h : NowP row rb) (hl : ∀ box, box < 6 → (rb box).length ≤ 6) (hb : bx < 6) (hr : (rb bx)[i]? = some r) (h1 : ∀ y, (∀ f, f < 7 → y ≠ 7 * (6 * bx + i) + f) → row' y = row y) (h2 : ∀ f, f < 7 → row' (7 * (6 * bx + i) + f) = nI (r' f)) : NowP row' (setB rb bx ((rb bx).set i r')) := fun box hb2 => by
  have hi := (List.getElem?_eq_some_iff.mp hr).1
  have hl1 := hl bx hb
  have hl2 := hl box hb2
  refine ⟨?_, fun j r2 hr2 f hf => ?_⟩
  · rw [h1 _ (by omega), (h box hb2).1]
    by_cases e : box = bx
    · subst e; rw [setB_s, List.length_set]
    · rw [setB_n e]
  · by_cases e : box = bx
    · subst e
      rw [setB_s] at hr2
      have hj := (List.getElem?_eq_some_iff.mp hr2).1
      rw [List.length_set] at hj
      by_cases ej : i = j
      · subst ej
        rw [List.getElem?_set_self hi] at hr2
        cases hr2
        exact h2 f hf
      · rw [List.getElem?_set_ne ej] at hr2
        rw [h1 _ (by omega)]
        exact (h box hb2).2 j r2 hr2 f hf
    · rw [setB_n e] at hr2
      have hj := (List.getElem?_eq_some_iff.mp hr2).1
      rw [h1 _ (by omega)]
      exact (h box hb2).2 j r2 hr2 f hf
theorem WF_set {T : TS} (hW : WF T) {box i : Nat} {r' : RT} (hb : box < 6) (hr' : RW (tB T) r') : WF (edT T (setB (tR T) box ((tR T box).set i r')) (nxH T)) := WF_ed hW (by rw [List.length_set]; exact (hW.2.2.1 box hb).1) (fun q hq => by
  rcases List.mem_or_eq_of_mem_set hq with h | h
  · exact (hW.2.2.1 box hb).2 q h
  · subst h; exact hr')
section
variable {b : UH} {fi : Nat → Nat → Nat → Int32} {fj : Nat → Nat → Nat → Int64} {ai : Nat → Nat → Int32} {aj : Nat → Nat → Int64} {ar : Nat → Nat → Option Nat} {T : TS} {box i : Nat} {x1 x2 x3 x4 x5 x6 : Int32}
theorem x_replaceRule (hs : xst b) (hW : WF T) (hP : XPic T b fi fj ai ar) (h1 : x1 = nI box) (hb : box < 6) (h2 : x2 = nI i) (hi : i < (tR T box).length) {ra : Nat} {r' : RT} (hr : RP b fi fj ra r') : wp (fX11_replaceRule 0 x1 x2 ra (mk b fi fj ai aj ar)) (fun u => ∃ fi' ai' ar', u = mk b fi' fj ai' aj ar' ∧ (∀ k a, fi' 6 k a = fi 6 k a) ∧ XPic (edT T (setB (tR T) box ((tR T box).set i r')) (nxH T)) b fi' fj ai' ar') := by
  have hL := hP.2.2.2.2.1 box hb
  have h6 := hL.2.1
  unfold fX11_replaceRule
  refine (oR (hs.1 0 12 rfl) (hs.2.2 11 0 0 1 rfl) (oR (hs.1 1 5 rfl) (hs.2.2 4 3 1 3 rfl) (oLR (hs.1 3 26 rfl) (hs.2.1 3 6 rfl) h1 hb (by decide) (hP.1.1 box hb) ?_)))
  refine oR (hs.1 0 12 rfl) (hs.2.2 11 1 0 17 rfl) (oKw (hs.1 17 4 rfl) (x_keep hs hW.2.2.2.1.1 hP hb h1) (fun u hu => ?_))
  obtain ⟨fi', ai', ar', rfl, e1, e2, hK⟩ := hu
  have hA := LA_box box hb
  refine oR (hs.1 _ _ hA.1) (hs.2.2 _ _ _ _ hA.2.2.2) (oSR (c := 6) (hs.1 _ _ hA.2.1) hr.1 (hs.2.1 _ _ hA.2.2.1) h2 (by omega) (by decide) (wp_some ⟨fi', ai', _, rfl, e1, hK.2 _ _ _ (fun _ _ _ _ => rfl) (fun a ha => up2_a (by omega)) ?_⟩))
  obtain ⟨l1, l2, l3, l4⟩ := hK.1
  refine ⟨by rw [List.length_set]; exact l1, by rw [List.length_set]; exact l2, fun j hj => ?_, fun j r2 hr2 => ?_⟩
  · rw [up2_is]
    split
    · exact ⟨ra, rfl, hr.1⟩
    · exact l3 j hj
  · rw [up2_is]
    by_cases ej : i = j
    · subst ej
      rw [List.getElem?_set_self hi] at hr2
      cases hr2
      rw [if_pos rfl]
      exact ⟨ra, rfl, hr.cg rfl (fun k => e1 k ra) (fun _ => rfl)⟩
    · rw [List.getElem?_set_ne ej] at hr2
      rw [if_neg (Ne.symm ej)]
      exact l4 j r2 hr2
end
section PUB
variable {T : TS} {x m : UH} {x1 x2 x3 x4 x5 x6 : Int32}
theorem s_setRewriting (hR : RR T x m) : SIM T (fX11_setRewriting 0 x1 x2 x3 x4 x) (fX12_setRewriting 0 x1 x2 x3 x4 m) := by
  obtain ⟨hW, ⟨hs, hd, hP⟩, hms, hM⟩ := hR
  have hbw : BW (tB T) := hW.1
  have hp2 := (pow_b hbw).2
  have hbx : uI x 4 0 1 = nI (tB T) := hP.2.1
  have hbm : uI m 12 0 0 = nI (tB T) := hM.1
  have hN : NowP (uAI m 2) (tR T) := hM.2.2.2.1
  rcases ix x1 6 (by decide) with ⟨box, hb, rfl⟩ | hb
  · have hL : LiP x (uI x) (uJ x) (uAR x) (5 + 2 * box) (tR T box) := hP.2.2.2.2.1 box hb
    have h6 := hL.2.1
    rcases ix x2 (tR T box).length (by omega) with ⟨i, hi, rfl⟩ | hi
    · have hr : (tR T box)[i]? = some ((tR T box)[i]) := List.getElem?_eq_getElem hi
      generalize (tR T box)[i] = r at hr
      obtain ⟨ra, e1, e2⟩ := hL.2.2.2 i r hr
      have hw := (hW.2.2.1 box hb).2 r (List.mem_of_getElem? hr)
      have hcu : (∃ c v, c < 2 ^ tB T ∧ v < 2 ^ tB T ∧ x3 = nI c ∧ x4 = nI v) ∨ (bad x3 (2 ^ tB T) ∨ bad x4 (2 ^ tB T)) := by
        rcases ix x3 (2 ^ tB T) (by omega) with ⟨c, hc, e⟩ | e
        · rcases ix x4 (2 ^ tB T) (by omega) with ⟨v, hv, e2⟩ | e2
          · exact Or.inl ⟨c, v, hc, hv, e, e2⟩
          · exact Or.inr (Or.inr e2)
        · exact Or.inr (Or.inl e)
      have hA := LA_box box hb
      rcases hcu with ⟨c, v, hc, hv, rfl, rfl⟩ | hcu
      · have lc := lt32 hbw hc
        have lv := lt32 hbw hv
        by_cases h0 : r 3 = 0
        · refine sim (T' := T) (r := -4) hW ?_ ?_
          · show wp (fX11_setRewriting 0 (nI box) (nI i) (nI c) (nI v) (mk x (uI x) (uJ x) (uAI x) (uAJ x) (uAR x))) _
            unfold fX11_setRewriting
            refine oE (hs.1 0 12 rfl) (x_ruleError_ok hs hP.1 hL rfl hb rfl hi) (wp_t rfl (oR (hs.1 0 12 rfl) (hs.2.2 11 0 0 1 rfl) (oE (hs.1 1 5 rfl) (x_isCube_ok hs hbx hbw rfl hc rfl hv) (wp_f (by decide) ?_))))
            refine oR (hs.1 0 12 rfl) (hs.2.2 11 0 0 1 rfl) (oR (hs.1 1 5 rfl) (hs.2.2 4 3 1 3 rfl) (oLR (hs.1 3 26 rfl) (hs.2.1 3 6 rfl) rfl hb (by decide) (hP.1.1 box hb) (oR (hs.1 _ _ hA.1) (hs.2.2 _ _ _ _ hA.2.2.2) (oLR (hs.1 _ _ hA.2.1) (hs.2.1 _ _ hA.2.2.1) rfl (by omega) (by decide) e1 (oi e2.1 ?_)))))
            rw [e2.2.1 3 (by decide), h0]
            exact wp_t rfl (wp_some ⟨rfl, hs, hd, hP⟩)
          · show wp (fX12_setRewriting 0 (nI box) (nI i) (nI c) (nI v) (mk m (uI m) (uJ m) (uAI m) (uAJ m) (uAR m))) _
            unfold fX12_setRewriting
            refine mE hms (m_ruleBarred_ok hms hN rfl hb h6 rfl hi) (wp_t (by decide) (mE hms (m_noHeader_ok hms hbm hbw rfl hc) (wp_t rfl (mE hms (m_noHeader_ok hms hbm hbw rfl hv) (wp_t rfl (mE hms (m_ofr (f := 3) hms hN h6 rfl rfl rfl hb hr (by decide)) ?_))))))
            rw [h0]
            exact wp_t rfl (wp_some ⟨rfl, hms, hM⟩)
        · obtain ⟨w0, w1, w2, w3, w4, w5, w6, w7, w8, w9, w10⟩ := hw
          have hrw : RW (tB T) (mkR (r 0) (r 1) (r 2) (r 3) c (v &&& c) (r 6)) := ⟨w0, w1, w2, w3, w4, w5, hc, Nat.lt_of_le_of_lt Nat.and_le_right hc, by show v &&& c &&& c = v &&& c; rw [Nat.and_assoc, Nat.and_self], w9, fun h => absurd h h0⟩
          have l4 := lt32 hbw w6
          have l5 := lt32 hbw w7
          have l6 : v &&& c < 32 := and_lt lc
          refine sim (T' := edT T (setB (tR T) box ((tR T box).set i (mkR (r 0) (r 1) (r 2) (r 3) c (v &&& c) (r 6)))) (nxH T)) (r := if r 4 = c ∧ r 5 = v &&& c then 0 else 1) (WF_set hW hb hrw) ?_ ?_
          · show wp (fX11_setRewriting 0 (nI box) (nI i) (nI c) (nI v) (mk x (uI x) (uJ x) (uAI x) (uAJ x) (uAR x))) _
            unfold fX11_setRewriting
            refine oE (hs.1 0 12 rfl) (x_ruleError_ok hs hP.1 hL rfl hb rfl hi) (wp_t rfl (oR (hs.1 0 12 rfl) (hs.2.2 11 0 0 1 rfl) (oE (hs.1 1 5 rfl) (x_isCube_ok hs hbx hbw rfl hc rfl hv) (wp_f (by decide) ?_))))
            refine oR (hs.1 0 12 rfl) (hs.2.2 11 0 0 1 rfl) (oR (hs.1 1 5 rfl) (hs.2.2 4 3 1 3 rfl) (oLR (hs.1 3 26 rfl) (hs.2.1 3 6 rfl) rfl hb (by decide) (hP.1.1 box hb) (oR (hs.1 _ _ hA.1) (hs.2.2 _ _ _ _ hA.2.2.2) (oLR (hs.1 _ _ hA.2.1) (hs.2.1 _ _ hA.2.2.1) rfl (by omega) (by decide) e1 (oi e2.1 ?_)))))
            rw [e2.2.1 3 (by decide)]
            refine wp_f (nI_ne0 (by omega) (by omega)) ?_
            have hrne : ra ≠ uSz x := fun h => xdom_new hd (h ▸ e2.1)
            refine oK2 e2.1 (Q := fun q => q.1 = uSz x ∧ ∃ b' fi2 fj2, q.2 = mk b' fi2 fj2 (uAI x) (uAJ x) (uAR x) ∧ xst b' ∧ xdom b' ∧ XPic T b' fi2 fj2 (uAI x) (uAR x) ∧ RP b' fi2 fj2 (uSz x) (mkR (r 0) (r 1) (r 2) (r 3) c (v &&& c) (r 6)) ∧ RP b' fi2 fj2 ra r) ?_ (fun y u hq => ?_)
            · unfold fX6_withRewriting
              refine x_new hs hd (fun b' fi' fj' hs' hd' k1 k2 k3 k4 => ?_)
              have e2' : RP b' fi' fj' ra r := e2.cg (k2 ra hrne) (fun k => k3 _ _ _ hrne) (fun k => k4 _ _ _ hrne)
              refine oi e2'.1 (oi e2'.1 (oi e2'.1 (oi e2'.1 (oi e2'.1 (wp_obw (x_init k1 (p := r 0) (c := r 1) (v := r 2) (o := r 3) (ch := c) (t := v) (on := r 6) (e2'.2.1 0 (by decide)) (e2'.2.1 1 (by decide)) (e2'.2.1 2 (by decide)) (e2'.2.1 3 (by decide)) rfl rfl (e2'.2.1 6 (by decide)) (lt32 hbw w2) (lt32 hbw w3) w9) (fun u hu => ?_))))))
              obtain ⟨fi2, fj2, rfl, g1, g2, g3⟩ := hu
              rw [w4] at g1
              refine wp_some ⟨rfl, b', fi2, fj2, rfl, hs', hd', hP.nw hW.2.2.2.2.2.1.1 hd.2 (xdom_new hd) k2 (fun c k a ha => by rw [g2 c k a ha, k3 c k a ha]) (fun c k a ha => by rw [g3 c k a ha, k4 c k a ha]), g1, e2'.cg rfl (fun k => g2 _ _ _ hrne) (fun k => g3 _ _ _ hrne)⟩
            · obtain ⟨q1, b', fi2, fj2, q2, hs', hd', hP', r1, r2⟩ := hq
              dsimp only at q1 q2
              subst q2
              rw [q1]
              refine oKw (hs'.1 0 12 rfl) (x_replaceRule hs' hW hP' rfl hb rfl hi r1) (fun u hu => ?_)
              obtain ⟨fi3, ai3, ar3, rfl, g1, g2⟩ := hu
              refine oi r1.1 (oi r2.1 ?_)
              rw [g1, g1, r1.2.1 4 (by decide), r2.2.1 4 (by decide)]
              refine wp_eqq (a := c) rfl rfl (by omega) (by omega) (fun e4 => ?_) (fun e4 => ?_)
              · refine oi r1.1 (oi r2.1 ?_)
                rw [g1, g1, r1.2.1 5 (by decide), r2.2.1 5 (by decide)]
                refine wp_eqq (a := v &&& c) rfl rfl (by omega) (by omega) (fun e5 => ?_) (fun e5 => ?_)
                · rw [if_pos ⟨e4.symm, e5.symm⟩]
                  exact wp_some ⟨rfl, XR_mk hs' hd' g2⟩
                · rw [if_neg (fun h => e5 h.2.symm)]
                  exact wp_some ⟨rfl, XR_mk hs' hd' g2⟩
              · rw [if_neg (fun h => e4 h.1.symm)]
                exact wp_some ⟨rfl, XR_mk hs' hd' g2⟩
          · show wp (fX12_setRewriting 0 (nI box) (nI i) (nI c) (nI v) (mk m (uI m) (uJ m) (uAI m) (uAJ m) (uAR m))) _
            unfold fX12_setRewriting
            refine mE hms (m_ruleBarred_ok hms hN rfl hb h6 rfl hi) (wp_t (by decide) (mE hms (m_noHeader_ok hms hbm hbw rfl hc) (wp_t rfl (mE hms (m_noHeader_ok hms hbm hbw rfl hv) (wp_t rfl (mE hms (m_ofr (f := 3) hms hN h6 rfl rfl rfl hb hr (by decide)) ?_))))))
            refine wp_f (nI_ne0 (by omega) (by omega)) (mKw hms (m_keep hms hW hM) (fun u hu => ?_))
            obtain ⟨fi', ai', rfl, g1, g2, hM'⟩ := hu
            have hN' : NowP (ai' 2) (tR T) := hM'.2.2.2.1
            have fin : ∀ s0 : Int32, wp (fX12_setRewriting_83 0 (nI box) (nI i) (nI c) (nI v) s0 (mk m fi' (uJ m) ai' (uAJ m) (uAR m))) (fun q => q.1 = s0 ∧ MR (edT T (setB (tR T) box ((tR T box).set i (mkR (r 0) (r 1) (r 2) (r 3) c (v &&& c) (r 6)))) (nxH T)) q.2) := by
              intro s0
              unfold fX12_setRewriting_83
              refine mE hms (m_put (f := 4) hms rfl rfl rfl hb (by omega) (by decide)) (mE hms (m_put (f := 5) hms rfl rfl rfl hb (by omega) (by decide)) (wp_some ⟨rfl, MR_mk hms (hM'.now (fun a ha _ => by rw [up2_a ha, up2_a ha]) (hN'.set (fun bx hbx => (hW.2.2.1 bx hbx).1) hb hr (fun y hy => by rw [up2_i (hy 5 (by decide)), up2_i (hy 4 (by decide))]) ?_))⟩))
              refine mkR_eq (g := fun f => up2 (up2 ai' 2 (7 * (6 * box + i) + 4) (nI c)) 2 (7 * (6 * box + i) + 5) (nI v &&& nI c) 2 (7 * (6 * box + i) + f)) ?_ ?_ ?_ ?_ ?_ ?_ ?_
              · rw [up2_i (by omega), up2_i (by omega)]; exact (hN' box hb).2 i r hr 0 (by decide)
              · rw [up2_i (by omega), up2_i (by omega)]; exact (hN' box hb).2 i r hr 1 (by decide)
              · rw [up2_i (by omega), up2_i (by omega)]; exact (hN' box hb).2 i r hr 2 (by decide)
              · rw [up2_i (by omega), up2_i (by omega)]; exact (hN' box hb).2 i r hr 3 (by decide)
              · rw [up2_i (by omega), up2_s]
              · rw [up2_s, nx_and]
              · rw [up2_i (by omega), up2_i (by omega)]; exact (hN' box hb).2 i r hr 6 (by decide)
            refine mE hms (m_ofr (f := 4) hms hN' h6 rfl rfl rfl hb hr (by decide)) ?_
            refine wp_eqq (b := c) rfl rfl (by omega) (by omega) (fun e4 => ?_) (fun e4 => ?_)
            · refine mE hms (m_ofr (f := 5) hms hN' h6 rfl rfl rfl hb hr (by decide)) ?_
              rw [nx_and]
              refine wp_eqq (b := v &&& c) rfl rfl (by omega) (by omega) (fun e5 => ?_) (fun e5 => ?_)
              · rw [if_pos ⟨e4, e5⟩]; exact fin 0
              · rw [if_neg (fun h => e5 h.2)]; exact fin 1
            · rw [if_neg (fun h => e4 h.1)]; exact fin 1
      · refine sim (T' := T) (r := -3) hW ?_ ?_
        · show wp (fX11_setRewriting 0 (nI box) (nI i) x3 x4 (mk x (uI x) (uJ x) (uAI x) (uAJ x) (uAR x))) _
          unfold fX11_setRewriting
          exact oE (hs.1 0 12 rfl) (x_ruleError_ok hs hP.1 hL rfl hb rfl hi) (wp_t rfl (oR (hs.1 0 12 rfl) (hs.2.2 11 0 0 1 rfl) (oE (hs.1 1 5 rfl) (x_isCube_bad hs hbx hbw hcu) (wp_t rfl (wp_some ⟨rfl, hs, hd, hP⟩)))))
        · show wp (fX12_setRewriting 0 (nI box) (nI i) x3 x4 (mk m (uI m) (uJ m) (uAI m) (uAJ m) (uAR m))) _
          unfold fX12_setRewriting
          refine mE hms (m_ruleBarred_ok hms hN rfl hb h6 rfl hi) (wp_t (by decide) ?_)
          rcases ix x3 (2 ^ tB T) (by omega) with ⟨c, hc, e⟩ | e
          · refine mE hms (m_noHeader_ok hms hbm hbw e hc) (wp_t rfl ?_)
            rcases hcu with h | h
            · rw [e] at h; exact absurd h (nbad hc (by omega))
            · exact mE hms (m_noHeader_bad hms hbm hbw h) (wp_f (by decide) (wp_some ⟨rfl, hms, hM⟩))
          · exact mE hms (m_noHeader_bad hms hbm hbw e) (wp_f (by decide) (wp_some ⟨rfl, hms, hM⟩))
    · refine sim (T' := T) (r := -2) hW ?_ ?_
      · show wp (fX11_setRewriting 0 (nI box) x2 x3 x4 (mk x (uI x) (uJ x) (uAI x) (uAJ x) (uAR x))) _
        unfold fX11_setRewriting
        exact oE (hs.1 0 12 rfl) (x_ruleError_r hs hP.1 hL rfl hb hi) (wp_f (by decide) (wp_some ⟨rfl, hs, hd, hP⟩))
      · show wp (fX12_setRewriting 0 (nI box) x2 x3 x4 (mk m (uI m) (uJ m) (uAI m) (uAJ m) (uAR m))) _
        unfold fX12_setRewriting
        exact mE hms (m_ruleBarred_r hms hN rfl hb h6 hi) (wp_f (by decide) (wp_some ⟨rfl, hms, hM⟩))
  · refine sim (T' := T) (r := -1) hW ?_ ?_
    · show wp (fX11_setRewriting 0 x1 x2 x3 x4 (mk x (uI x) (uJ x) (uAI x) (uAJ x) (uAR x))) _
      unfold fX11_setRewriting
      exact oE (hs.1 0 12 rfl) (x_ruleError_b hb _) (wp_f (by decide) (wp_some ⟨rfl, hs, hd, hP⟩))
    · show wp (fX12_setRewriting 0 x1 x2 x3 x4 (mk m (uI m) (uJ m) (uAI m) (uAJ m) (uAR m))) _
      unfold fX12_setRewriting
      exact mE hms (m_ruleBarred_b hb _) (wp_f (by decide) (wp_some ⟨rfl, hms, hM⟩))
end PUB
