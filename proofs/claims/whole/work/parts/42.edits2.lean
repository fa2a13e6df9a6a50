section PUB
variable {T : TS} {x m : UH} {x1 x2 x3 x4 x5 x6 : Int32}
theorem s_switchRule (hR : RR T x m) (h01 : x3 = 0 ∨ x3 = 1) : SIM T (fX11_switchRule 0 x1 x2 x3 x) (fX12_switchRule 0 x1 x2 x3 m) := by
  obtain ⟨hW, ⟨hs, hd, hP⟩, hms, hM⟩ := hR
  have hbw : BW (tB T) := hW.1
  have hN : NowP (uAI m 2) (tR T) := hM.2.2.2.1
  rcases ix x1 6 (by decide) with ⟨box, hb, rfl⟩ | hb
  · have hL : LiP x (uI x) (uJ x) (uAR x) (5 + 2 * box) (tR T box) := hP.2.2.2.2.1 box hb
    have h6 := hL.2.1
    rcases ix x2 (tR T box).length (by omega) with ⟨i, hi, rfl⟩ | hi
    · have hr : (tR T box)[i]? = some ((tR T box)[i]) := List.getElem?_eq_getElem hi
      generalize (tR T box)[i] = r at hr
      obtain ⟨ra, e1, e2⟩ := hL.2.2.2 i r hr
      have hw := (hW.2.2.1 box hb).2 r (List.mem_of_getElem? hr)
      have hA := LA_box box hb
      obtain ⟨on, ek, hon⟩ : ∃ on, x3 = nI on ∧ (on = 0 ∨ on = 1) := by
        rcases h01 with rfl | rfl
        · exact ⟨0, rfl, Or.inl rfl⟩
        · exact ⟨1, rfl, Or.inr rfl⟩
      have hon1 : on ≤ 1 := by omega
      obtain ⟨w0, w1, w2, w3, w4, w5, w6, w7, w8, w9, w10⟩ := hw
      have hr61 : r 6 ≤ 1 := by omega
      have hrw : RW (tB T) (mkR (r 0) (r 1) (r 2) (r 3) (r 4) (r 5) on) := ⟨w0, w1, w2, w3, w4, w5, w6, w7, w8, hon, w10⟩
      refine sim (T' := edT T (setB (tR T) box ((tR T box).set i (mkR (r 0) (r 1) (r 2) (r 3) (r 4) (r 5) on))) (nxH T)) (r := if r 6 = on then 0 else 1) (WF_set hW hb hrw) ?_ ?_
      · show wp (fX11_switchRule 0 (nI box) (nI i) x3 (mk x (uI x) (uJ x) (uAI x) (uAJ x) (uAR x))) _
        unfold fX11_switchRule
        refine oE (hs.1 0 12 rfl) (x_ruleError_ok hs hP.1 hL rfl hb rfl hi) (wp_t rfl ?_)
        refine oR (hs.1 0 12 rfl) (hs.2.2 11 0 0 1 rfl) (oR (hs.1 1 5 rfl) (hs.2.2 4 3 1 3 rfl) (oLR (hs.1 3 26 rfl) (hs.2.1 3 6 rfl) rfl hb (by decide) (hP.1.1 box hb) (oR (hs.1 _ _ hA.1) (hs.2.2 _ _ _ _ hA.2.2.2) (oLR (hs.1 _ _ hA.2.1) (hs.2.1 _ _ hA.2.2.1) rfl (by omega) (by decide) e1 ?_))))
        have hrne : ra ≠ uSz x := fun h => xdom_new hd (h ▸ e2.1)
        refine oK2 e2.1 (Q := fun q => q.1 = uSz x ∧ ∃ b' fi2 fj2, q.2 = mk b' fi2 fj2 (uAI x) (uAJ x) (uAR x) ∧ xst b' ∧ xdom b' ∧ XPic T b' fi2 fj2 (uAI x) (uAR x) ∧ RP b' fi2 fj2 (uSz x) (mkR (r 0) (r 1) (r 2) (r 3) (r 4) (r 5) on) ∧ RP b' fi2 fj2 ra r) ?_ (fun y u hq => ?_)
        · unfold fX6_switched
          refine x_new hs hd (fun b' fi' fj' hs' hd' k1 k2 k3 k4 => ?_)
          have e2' : RP b' fi' fj' ra r := e2.cg (k2 ra hrne) (fun k => k3 _ _ _ hrne) (fun k => k4 _ _ _ hrne)
          refine oi e2'.1 (oi e2'.1 (oi e2'.1 (oi e2'.1 (oi e2'.1 (oi e2'.1 (wp_obw (x_init k1 (p := r 0) (c := r 1) (v := r 2) (o := r 3) (ch := r 4) (t := r 5) (on := on) (e2'.2.1 0 (by decide)) (e2'.2.1 1 (by decide)) (e2'.2.1 2 (by decide)) (e2'.2.1 3 (by decide)) (e2'.2.1 4 (by decide)) (e2'.2.1 5 (by decide)) ek (lt32 hbw w2) (lt32 hbw w3) hon) (fun u hu => ?_)))))))
          obtain ⟨fi2, fj2, rfl, g1, g2, g3⟩ := hu
          rw [w4, w8] at g1
          refine wp_some ⟨rfl, b', fi2, fj2, rfl, hs', hd', hP.nw hW.2.2.2.2.2.1.1 hd.2 (xdom_new hd) k2 (fun c k a ha => by rw [g2 c k a ha, k3 c k a ha]) (fun c k a ha => by rw [g3 c k a ha, k4 c k a ha]), g1, e2'.cg rfl (fun k => g2 _ _ _ hrne) (fun k => g3 _ _ _ hrne)⟩
        · obtain ⟨q1, b', fi2, fj2, q2, hs', hd', hP', r1, r2⟩ := hq
          dsimp only at q1 q2
          subst q2
          rw [q1]
          refine oKw (hs'.1 0 12 rfl) (x_replaceRule hs' hW hP' rfl hb rfl hi r1) (fun u hu => ?_)
          obtain ⟨fi3, ai3, ar3, rfl, g1, g2⟩ := hu
          refine oi r2.1 ?_
          rw [g1, r2.2.1 6 (by decide)]
          refine wp_eqq (b := on) rfl ek (by omega) (by omega) (fun e6 => ?_) (fun e6 => ?_)
          · rw [if_pos e6]
            exact wp_some ⟨rfl, XR_mk hs' hd' g2⟩
          · rw [if_neg e6]
            exact wp_some ⟨rfl, XR_mk hs' hd' g2⟩
      · show wp (fX12_switchRule 0 (nI box) (nI i) x3 (mk m (uI m) (uJ m) (uAI m) (uAJ m) (uAR m))) _
        unfold fX12_switchRule
        refine mE hms (m_ruleBarred_ok hms hN rfl hb h6 rfl hi) (wp_t (by decide) (mKw hms (m_keep hms hW hM) (fun u hu => ?_)))
        obtain ⟨fi', ai', rfl, g1, g2, hM'⟩ := hu
        have hN' : NowP (ai' 2) (tR T) := hM'.2.2.2.1
        have fin : ∀ s0 : Int32, wp (fX12_switchRule_49 0 (nI box) (nI i) x3 s0 (mk m fi' (uJ m) ai' (uAJ m) (uAR m))) (fun q => q.1 = s0 ∧ MR (edT T (setB (tR T) box ((tR T box).set i (mkR (r 0) (r 1) (r 2) (r 3) (r 4) (r 5) on))) (nxH T)) q.2) := by
          intro s0
          unfold fX12_switchRule_49
          refine mE hms (m_put (f := 6) hms rfl rfl rfl hb (by omega) (by decide)) (wp_some ⟨rfl, MR_mk hms (hM'.now (fun a ha _ => by rw [up2_a ha]) (hN'.set (fun bx hbx => (hW.2.2.1 bx hbx).1) hb hr (fun y hy => by rw [up2_i (hy 6 (by decide))]) ?_))⟩)
          refine mkR_eq (g := fun f => up2 ai' 2 (7 * (6 * box + i) + 6) x3 2 (7 * (6 * box + i) + f)) ?_ ?_ ?_ ?_ ?_ ?_ ?_
          · rw [up2_i (by omega)]; exact (hN' box hb).2 i r hr 0 (by decide)
          · rw [up2_i (by omega)]; exact (hN' box hb).2 i r hr 1 (by decide)
          · rw [up2_i (by omega)]; exact (hN' box hb).2 i r hr 2 (by decide)
          · rw [up2_i (by omega)]; exact (hN' box hb).2 i r hr 3 (by decide)
          · rw [up2_i (by omega)]; exact (hN' box hb).2 i r hr 4 (by decide)
          · rw [up2_i (by omega)]; exact (hN' box hb).2 i r hr 5 (by decide)
          · rw [up2_s, ek]
        have fin2 : wp (fX12_switchRule_29 0 (nI box) (nI i) x3 (mk m fi' (uJ m) ai' (uAJ m) (uAR m))) (fun q => q.1 = (if r 6 = on then 0 else 1) ∧ MR (edT T (setB (tR T) box ((tR T box).set i (mkR (r 0) (r 1) (r 2) (r 3) (r 4) (r 5) on))) (nxH T)) q.2) := by
          unfold fX12_switchRule_29
          refine mE hms (m_ofr (f := 6) hms hN' h6 rfl rfl rfl hb hr (by decide)) ?_
          refine wp_eqq (b := on) rfl ek (by omega) (by omega) (fun e6 => ?_) (fun e6 => ?_)
          · rw [if_pos e6]; exact fin 0
          · rw [if_neg e6]; exact fin 1
        refine wp_if (fun h => ?_) (fun h => ?_)
        · subst h; exact fin2
        · rcases h01 with h' | h'
          · exact absurd h' h
          · subst h'; exact fin2
    · refine sim (T' := T) (r := -2) hW ?_ ?_
      · show wp (fX11_switchRule 0 (nI box) x2 x3 (mk x (uI x) (uJ x) (uAI x) (uAJ x) (uAR x))) _
        unfold fX11_switchRule
        exact oE (hs.1 0 12 rfl) (x_ruleError_r hs hP.1 hL rfl hb hi) (wp_f (by decide) (wp_some ⟨rfl, hs, hd, hP⟩))
      · show wp (fX12_switchRule 0 (nI box) x2 x3 (mk m (uI m) (uJ m) (uAI m) (uAJ m) (uAR m))) _
        unfold fX12_switchRule
        exact mE hms (m_ruleBarred_r hms hN rfl hb h6 hi) (wp_f (by decide) (wp_some ⟨rfl, hms, hM⟩))
  · refine sim (T' := T) (r := -1) hW ?_ ?_
    · show wp (fX11_switchRule 0 x1 x2 x3 (mk x (uI x) (uJ x) (uAI x) (uAJ x) (uAR x))) _
      unfold fX11_switchRule
      exact oE (hs.1 0 12 rfl) (x_ruleError_b hb _) (wp_f (by decide) (wp_some ⟨rfl, hs, hd, hP⟩))
    · show wp (fX12_switchRule 0 x1 x2 x3 (mk m (uI m) (uJ m) (uAI m) (uAJ m) (uAR m))) _
      unfold fX12_switchRule
      exact mE hms (m_ruleBarred_b hb _) (wp_f (by decide) (wp_some ⟨rfl, hms, hM⟩))
theorem s_removeRule (hR : RR T x m) : SIM T (fX11_removeRule 0 x1 x2 x) (fX12_removeRule 0 x1 x2 m) := by
  obtain ⟨hW, ⟨hs, hd, hP⟩, hms, hM⟩ := hR
  have hN : NowP (uAI m 2) (tR T) := hM.2.2.2.1
  have hl : ∀ bx, bx < 6 → (tR T bx).length ≤ 6 := fun bx hbx => (hW.2.2.1 bx hbx).1
  rcases ix x1 6 (by decide) with ⟨box, hb, rfl⟩ | hb
  · have hL : LiP x (uI x) (uJ x) (uAR x) (5 + 2 * box) (tR T box) := hP.2.2.2.2.1 box hb
    have h6 := hL.2.1
    rcases ix x2 (tR T box).length (by omega) with ⟨i, hi, rfl⟩ | hi
    · have hA := LA_box box hb
      refine sim (T' := edT T (setB (tR T) box ((tR T box).eraseIdx i)) (nxH T)) (r := nI ((tR T box).length - 1)) (WF_ed hW (Nat.le_trans (List.length_eraseIdx_le _ _) h6) (fun r hr => (hW.2.2.1 box hb).2 r (List.mem_of_mem_eraseIdx hr))) ?_ ?_
      · show wp (fX11_removeRule 0 (nI box) (nI i) (mk x (uI x) (uJ x) (uAI x) (uAJ x) (uAR x))) _
        unfold fX11_removeRule
        refine oE (hs.1 0 12 rfl) (x_ruleError_ok hs hP.1 hL rfl hb rfl hi) (wp_t rfl ?_)
        refine oR (hs.1 0 12 rfl) (hs.2.2 11 0 0 1 rfl) (oR (hs.1 1 5 rfl) (hs.2.2 4 3 1 3 rfl) (oLR (hs.1 3 26 rfl) (hs.2.1 3 6 rfl) rfl hb (by decide) (hP.1.1 box hb) ?_))
        refine oR (hs.1 0 12 rfl) (hs.2.2 11 1 0 17 rfl) (oKw (hs.1 17 4 rfl) (x_keep hs hW.2.2.2.1.1 hP hb rfl) (fun u hu => ?_))
        obtain ⟨fi', ai', ar', rfl, e1, e2, hK⟩ := hu
        refine oKw (hs.1 _ _ hA.1) (x_removeAt hs hA hK.1 hi rfl) (fun u hu => ?_)
        obtain ⟨fi2, ar2, rfl, g1, g2, g3⟩ := hu
        refine oi (hs.1 _ _ hA.1) (wp_some ⟨?_, XR_mk hs hd (hK.2 _ _ _ g1 (fun a ha => g2 a (by omega)) g3)⟩)
        dsimp only
        rw [g3.1, List.length_eraseIdx_of_lt hi]
      · show wp (fX12_removeRule 0 (nI box) (nI i) (mk m (uI m) (uJ m) (uAI m) (uAJ m) (uAR m))) _
        unfold fX12_removeRule
        refine mE hms (m_ruleBarred_ok hms hN rfl hb h6 rfl hi) (wp_t (by decide) (mKw hms (m_keep hms hW hM) (fun u hu => ?_)))
        obtain ⟨fi', ai', rfl, g1, g2, hM'⟩ := hu
        have hN' : NowP (ai' 2) (tR T) := hM'.2.2.2.1
        refine mKw hms (m_close hms hN' hl rfl hb hi rfl) (fun u hu => ?_)
        obtain ⟨ai2, rfl, g3, g4⟩ := hu
        refine mE hms (m_manyr hms g4 rfl hb) (wp_some ⟨?_, MR_mk hms (hM'.now (fun a ha _ => g3 a ha) g4)⟩)
        dsimp only
        rw [setB_s, List.length_eraseIdx_of_lt hi]
    · refine sim (T' := T) (r := -2) hW ?_ ?_
      · show wp (fX11_removeRule 0 (nI box) x2 (mk x (uI x) (uJ x) (uAI x) (uAJ x) (uAR x))) _
        unfold fX11_removeRule
        exact oE (hs.1 0 12 rfl) (x_ruleError_r hs hP.1 hL rfl hb hi) (wp_f (by decide) (wp_some ⟨rfl, hs, hd, hP⟩))
      · show wp (fX12_removeRule 0 (nI box) x2 (mk m (uI m) (uJ m) (uAI m) (uAJ m) (uAR m))) _
        unfold fX12_removeRule
        exact mE hms (m_ruleBarred_r hms hN rfl hb h6 hi) (wp_f (by decide) (wp_some ⟨rfl, hms, hM⟩))
  · refine sim (T' := T) (r := -1) hW ?_ ?_
    · show wp (fX11_removeRule 0 x1 x2 (mk x (uI x) (uJ x) (uAI x) (uAJ x) (uAR x))) _
      unfold fX11_removeRule
      exact oE (hs.1 0 12 rfl) (x_ruleError_b hb _) (wp_f (by decide) (wp_some ⟨rfl, hs, hd, hP⟩))
    · show wp (fX12_removeRule 0 x1 x2 (mk m (uI m) (uJ m) (uAI m) (uAJ m) (uAR m))) _
      unfold fX12_removeRule
      exact mE hms (m_ruleBarred_b hb _) (wp_f (by decide) (wp_some ⟨rfl, hms, hM⟩))
theorem s_moveRule (hR : RR T x m) : SIM T (fX11_moveRule 0 x1 x2 x3 x) (fX12_moveRule 0 x1 x2 x3 m) := by
  obtain ⟨hW, ⟨hs, hd, hP⟩, hms, hM⟩ := hR
  have hN : NowP (uAI m 2) (tR T) := hM.2.2.2.1
  have hl : ∀ bx, bx < 6 → (tR T bx).length ≤ 6 := fun bx hbx => (hW.2.2.1 bx hbx).1
  rcases ix x1 6 (by decide) with ⟨box, hb, rfl⟩ | hb
  · have hL : LiP x (uI x) (uJ x) (uAR x) (5 + 2 * box) (tR T box) := hP.2.2.2.2.1 box hb
    have h6 := hL.2.1
    rcases ix x2 (tR T box).length (by omega) with ⟨i, hi, rfl⟩ | hi
    · rcases ix x3 (tR T box).length (by omega) with ⟨j, hj, rfl⟩ | hj
      · have hA := LA_box box hb
        have hr : (tR T box)[i]? = some ((tR T box)[i]) := List.getElem?_eq_getElem hi
        generalize (tR T box)[i] = r at hr
        have hel : ((tR T box).eraseIdx i).length = (tR T box).length - 1 := List.length_eraseIdx_of_lt hi
        have hil : (((tR T box).eraseIdx i).insertIdx j r).length = (tR T box).length := by rw [List.length_insertIdx_of_le_length (by omega), hel]; omega
        refine sim (T' := edT T (setB (tR T) box (((tR T box).eraseIdx i).insertIdx j r)) (nxH T)) (r := if i = j then 0 else 1) (WF_ed hW (by omega) (fun q hq => ?_)) ?_ ?_
        · rcases (List.mem_insertIdx (by omega)).mp hq with h | h
          · subst h; exact (hW.2.2.1 box hb).2 _ (List.mem_of_getElem? hr)
          · exact (hW.2.2.1 box hb).2 q (List.mem_of_mem_eraseIdx h)
        · show wp (fX11_moveRule 0 (nI box) (nI i) (nI j) (mk x (uI x) (uJ x) (uAI x) (uAJ x) (uAR x))) _
          unfold fX11_moveRule
          refine oE (hs.1 0 12 rfl) (x_ruleError_ok hs hP.1 hL rfl hb rfl hi) (wp_t rfl (oE (hs.1 0 12 rfl) (x_ruleError_ok hs hP.1 hL rfl hb rfl hj) ?_))
          unfold fX11_moveRule_21
          refine wp_t rfl (oR (hs.1 0 12 rfl) (hs.2.2 11 0 0 1 rfl) (oR (hs.1 1 5 rfl) (hs.2.2 4 3 1 3 rfl) (oLR (hs.1 3 26 rfl) (hs.2.1 3 6 rfl) rfl hb (by decide) (hP.1.1 box hb) ?_)))
          refine oR (hs.1 0 12 rfl) (hs.2.2 11 1 0 17 rfl) (oKw (hs.1 17 4 rfl) (x_keep hs hW.2.2.2.1.1 hP hb rfl) (fun u hu => ?_))
          obtain ⟨fi', ai', ar', rfl, e1, e2, hK⟩ := hu
          obtain ⟨ra, z1, z2⟩ := hK.1.2.2.2 i r hr
          refine oR (hs.1 _ _ hA.1) (hs.2.2 _ _ _ _ hA.2.2.2) (oLR (hs.1 _ _ hA.2.1) (hs.2.1 _ _ hA.2.2.1) rfl (by omega) (by decide) z1 ?_)
          refine oKw (hs.1 _ _ hA.1) (x_removeAt hs hA hK.1 hi rfl) (fun u hu => ?_)
          obtain ⟨fi2, ar2, rfl, g1, g2, g3⟩ := hu
          refine oKw (hs.1 _ _ hA.1) (x_insertAt hs hA g3 (by omega) (i := j) (by omega) (z2.cg rfl (fun k => g1 6 k ra (by omega)) (fun _ => rfl)) rfl) (fun u hu => ?_)
          obtain ⟨fi3, ar3, rfl, g4, g5, g6⟩ := hu
          have hX := hK.2 _ fi3 ar3 (fun c k a h => by rw [g4 c k a h, g1 c k a h]) (fun a ha => by rw [g5 a (by omega), g2 a (by omega)]) g6
          refine wp_eqq rfl rfl (by omega) (by omega) (fun e => ?_) (fun e => ?_)
          · rw [if_pos e]; exact wp_some ⟨rfl, XR_mk hs hd hX⟩
          · rw [if_neg e]; exact wp_some ⟨rfl, XR_mk hs hd hX⟩
        · show wp (fX12_moveRule 0 (nI box) (nI i) (nI j) (mk m (uI m) (uJ m) (uAI m) (uAJ m) (uAR m))) _
          unfold fX12_moveRule
          refine mE hms (m_ruleBarred_ok hms hN rfl hb h6 rfl hi) (wp_t (by decide) (mE hms (m_noRule_ok hms hN rfl hb h6 rfl hj) (wp_t rfl (mKw hms (m_keep hms hW hM) (fun u hu => ?_)))))
          obtain ⟨fi', ai', rfl, g1, g2, hM'⟩ := hu
          have hN' : NowP (ai' 2) (tR T) := hM'.2.2.2.1
          refine wp_obw (Q := fun u => ∃ ai2, u = mk m fi' (uJ m) ai2 (uAJ m) (uAR m) ∧ (∀ a, a ≠ 4 → ai2 a = ai' a) ∧ ∀ f, f < 7 → ai2 4 f = nI (r f)) ?_ (fun u hu => ?_)
          · refine it2_up1F (show (0 : Int32) = nI 0 from rfl) 7 (by decide) (fun q u => ∃ ai2, u = mk m fi' (uJ m) ai2 (uAJ m) (uAR m) ∧ (∀ a, a ≠ 4 → ai2 a = ai' a) ∧ ∀ f, f < q → ai2 4 f = nI (r f)) (fun k q u hq hI hk => ?_) (Nat.zero_le _) ⟨ai', rfl, fun _ _ => rfl, fun f hf => absurd hf (Nat.not_lt_zero _)⟩
            obtain ⟨ai2, rfl, z1, z2⟩ := hI
            unfold fX12_moveRule_B35
            refine wp_le (a := 7) rfl rfl (by decide) (by omega) (fun hc => wp_some ?_) (fun hc => ?_)
            · have : q = 7 := by omega
              subst this; exact ⟨ai2, rfl, z1, z2⟩
            · refine mR hms rfl (mE hms (m_ofr hms (rb := tR T) (by rw [z1 2 (by decide)]; exact hN') h6 rfl rfl rfl hb hr hc) (mS hms rfl rfl (by decide) rfl hc (hk hc _ _ (nI_1 q) ⟨_, rfl, fun a ha => by rw [up2_a ha]; exact z1 a ha, fun f hf => ?_⟩)))
              rw [up2_is]
              split
              · rename_i e; rw [e]
              · exact z2 f (by omega)
          · obtain ⟨ai2, rfl, z1, z2⟩ := hu
            refine mKw hms (m_close hms (rb := tR T) (by rw [z1 2 (by decide)]; exact hN') hl rfl hb hi rfl) (fun u hu => ?_)
            obtain ⟨ai3, rfl, z3, z4⟩ := hu
            have hl3 : ∀ bx, bx < 6 → (setB (tR T) box ((tR T box).eraseIdx i) bx).length ≤ 6 := fun bx hbx => by
              by_cases e : bx = box
              · subst e; rw [setB_s]; omega
              · rw [setB_n e]; exact hl bx hbx
            refine mKw hms (m_open hms z4 hl3 rfl hb (i := j) (by rw [setB_s]; omega) (by rw [setB_s]; omega) rfl) (fun u hu => ?_)
            obtain ⟨ai4, rfl, z5, z6⟩ := hu
            have z6 := z6 r
            rw [setB_s] at z6
            have hss : setB (setB (tR T) box ((tR T box).eraseIdx i)) box (((tR T box).eraseIdx i).insertIdx j r) = setB (tR T) box (((tR T box).eraseIdx i).insertIdx j r) := by
              funext q
              unfold setB
              by_cases e : q = box
              · rw [if_pos e, if_pos e]
              · rw [if_neg e, if_neg e, if_neg e]
            rw [hss] at z6
            have hl4 : ∀ bx, bx < 6 → (setB (tR T) box (((tR T box).eraseIdx i).insertIdx j r) bx).length ≤ 6 := fun bx hbx => by
              by_cases e : bx = box
              · subst e; rw [setB_s]; omega
              · rw [setB_n e]; exact hl bx hbx
            refine wp_obw (Q := fun u => ∃ ai5, u = mk m fi' (uJ m) ai5 (uAJ m) (uAR m) ∧ (∀ a, a ≠ 2 → ai5 a = ai4 a) ∧ (∀ f, f < 7 → ai5 2 (7 * (6 * box + j) + f) = nI (r f)) ∧ ∀ y, (∀ f, f < 7 → y ≠ 7 * (6 * box + j) + f) → ai5 2 y = ai4 2 y) ?_ (fun u hu => ?_)
            · refine it2_up1F (show (0 : Int32) = nI 0 from rfl) 7 (by decide) (fun q u => ∃ ai5, u = mk m fi' (uJ m) ai5 (uAJ m) (uAR m) ∧ (∀ a, a ≠ 2 → ai5 a = ai4 a) ∧ (∀ f, f < q → ai5 2 (7 * (6 * box + j) + f) = nI (r f)) ∧ ∀ y, (∀ f, f < 7 → y ≠ 7 * (6 * box + j) + f) → ai5 2 y = ai4 2 y) (fun k q u hq hI hk => ?_) (Nat.zero_le _) ⟨ai4, rfl, fun _ _ => rfl, fun f hf => absurd hf (Nat.not_lt_zero _), fun _ _ => rfl⟩
              obtain ⟨ai5, rfl, y1, y2, y3⟩ := hI
              unfold fX12_moveRule_B78
              refine wp_le (a := 7) rfl rfl (by decide) (by omega) (fun hc => wp_some ?_) (fun hc => ?_)
              · have : q = 7 := by omega
                subst this; exact ⟨ai5, rfl, y1, y2, y3⟩
              · refine mR hms rfl (mL hms rfl rfl (by decide) rfl hc (mE hms (m_put hms rfl rfl rfl hb (by omega) hc) (hk hc _ _ (nI_1 q) ⟨_, rfl, fun a ha => by rw [up2_a ha]; exact y1 a ha, fun f hf => ?_, fun y hy => by rw [up2_i (hy q hc)]; exact y3 y hy⟩)))
                rw [up2_is]
                split
                · rename_i e
                  have : f = q := by omega
                  subst this
                  rw [y1 4 (by decide), z5 4 (by decide), z3 4 (by decide)]
                  exact z2 f hc
                · exact y2 f (by omega)
            · obtain ⟨ai5, rfl, y1, y2, y3⟩ := hu
              have hNP : NowP (ai5 2) (setB (tR T) box (((tR T box).eraseIdx i).insertIdx j r)) := z6.put hl4 hb (by rw [setB_s, List.getElem?_insertIdx_self, if_pos (by omega)]) y3 y2
              have hX := hM'.now (ai' := ai5) (fun a ha2 ha4 => by rw [y1 a ha2, z5 a ha2, z3 a ha2, z1 a ha4]) hNP
              refine wp_eqq rfl rfl (by omega) (by omega) (fun e => ?_) (fun e => ?_)
              · rw [if_pos e]; exact wp_some ⟨rfl, MR_mk hms hX⟩
              · rw [if_neg e]; exact wp_some ⟨rfl, MR_mk hms hX⟩
      · refine sim (T' := T) (r := -2) hW ?_ ?_
        · show wp (fX11_moveRule 0 (nI box) (nI i) x3 (mk x (uI x) (uJ x) (uAI x) (uAJ x) (uAR x))) _
          unfold fX11_moveRule
          refine oE (hs.1 0 12 rfl) (x_ruleError_ok hs hP.1 hL rfl hb rfl hi) (wp_t rfl (oE (hs.1 0 12 rfl) (x_ruleError_r hs hP.1 hL rfl hb hj) ?_))
          unfold fX11_moveRule_21
          exact wp_f (by decide) (wp_some ⟨rfl, hs, hd, hP⟩)
        · show wp (fX12_moveRule 0 (nI box) (nI i) x3 (mk m (uI m) (uJ m) (uAI m) (uAJ m) (uAR m))) _
          unfold fX12_moveRule
          exact mE hms (m_ruleBarred_ok hms hN rfl hb h6 rfl hi) (wp_t (by decide) (mE hms (m_noRule_bad hms hN rfl hb h6 hj) (wp_f (by decide) (wp_some ⟨rfl, hms, hM⟩))))
    · refine sim (T' := T) (r := -2) hW ?_ ?_
      · show wp (fX11_moveRule 0 (nI box) x2 x3 (mk x (uI x) (uJ x) (uAI x) (uAJ x) (uAR x))) _
        unfold fX11_moveRule
        refine oE (hs.1 0 12 rfl) (x_ruleError_r hs hP.1 hL rfl hb hi) (wp_f (by decide) ?_)
        unfold fX11_moveRule_21
        exact wp_f (by decide) (wp_some ⟨rfl, hs, hd, hP⟩)
      · show wp (fX12_moveRule 0 (nI box) x2 x3 (mk m (uI m) (uJ m) (uAI m) (uAJ m) (uAR m))) _
        unfold fX12_moveRule
        exact mE hms (m_ruleBarred_r hms hN rfl hb h6 hi) (wp_f (by decide) (wp_some ⟨rfl, hms, hM⟩))
  · refine sim (T' := T) (r := -1) hW ?_ ?_
    · show wp (fX11_moveRule 0 x1 x2 x3 (mk x (uI x) (uJ x) (uAI x) (uAJ x) (uAR x))) _
      unfold fX11_moveRule
      refine oE (hs.1 0 12 rfl) (x_ruleError_b hb _) (wp_f (by decide) ?_)
      unfold fX11_moveRule_21
      exact wp_f (by decide) (wp_some ⟨rfl, hs, hd, hP⟩)
    · show wp (fX12_moveRule 0 x1 x2 x3 (mk m (uI m) (uJ m) (uAI m) (uAJ m) (uAR m))) _
      unfold fX12_moveRule
      exact mE hms (m_ruleBarred_b hb _) (wp_f (by decide) (wp_some ⟨rfl, hms, hM⟩))
end PUB
