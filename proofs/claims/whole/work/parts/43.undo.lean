section PUB
variable {T : TS} {x m : UH} {x1 x2 x3 x4 x5 x6 : Int32}
theorem s_undo (hR : RR T x m) : SIM T (fX11_undo 0 x) (fX12_undo 0 m) := by
  obtain ⟨hW, ⟨hs, hd, hP⟩, hms, hM⟩ := hR
  have h12 : (tH T).length ≤ 12 := hW.2.2.2.1.1
  have eX : uI x 3 2 17 = nI (tH T).length := hP.2.2.2.2.2.1.1
  have eM : uI m 12 7 0 = nI (tH T).length := hM.2.2.2.2.1.1
  cases hH : tH T with
  | nil =>
    rw [hH] at eX eM
    refine sim (T' := T) (r := -6) hW ?_ ?_
    · show wp (fX11_undo 0 (mk x (uI x) (uJ x) (uAI x) (uAJ x) (uAR x))) _
      unfold fX11_undo
      refine oR (hs.1 0 12 rfl) (hs.2.2 11 1 0 17 rfl) (oi (hs.1 17 4 rfl) ?_)
      rw [eX]
      exact wp_t rfl (wp_some ⟨rfl, hs, hd, hP⟩)
    · show wp (fX12_undo 0 (mk m (uI m) (uJ m) (uAI m) (uAJ m) (uAR m))) _
      unfold fX12_undo
      refine mI hms ?_
      rw [eM]
      exact wp_t rfl (wp_some ⟨rfl, hms, hM⟩)
  | cons H rest =>
    rw [hH] at eX eM h12
    have hlen : (H :: rest).length = rest.length + 1 := rfl
    have hHw : RBW (tB T) H := hW.2.2.2.1.2 H (by rw [hH]; exact List.mem_cons_self)
    refine sim (T' := edT T H rest) (r := nI rest.length) ?_ ?_ ?_
    · obtain ⟨w1, w2, w3, w4, w5, w6, w7⟩ := hW
      refine ⟨w1, w2, hHw, ⟨?_, fun q hq => w4.2 q (by rw [hH]; exact List.mem_cons_of_mem _ hq)⟩, w5, w6, w7⟩
      show rest.length ≤ 12
      omega
    · show wp (fX11_undo 0 (mk x (uI x) (uJ x) (uAI x) (uAJ x) (uAR x))) _
      obtain ⟨p1, p2, p3, p4, p5, ⟨p6, nx, p7, p8, p9⟩, ⟨p10, p11⟩, ⟨p12, p13⟩, p14, p15⟩ := hP
      rw [hH] at p9
      obtain ⟨⟨box, L, hb, b1, b2, b3⟩, p9⟩ := p9
      have hsk : slk nx 0 < 12 := Nat.mod_lt _ (by decide)
      have hsl : (nx + 11) % 12 = slk nx 0 := by unfold slk; omega
      unfold fX11_undo
      refine oR (hs.1 0 12 rfl) (hs.2.2 11 1 0 17 rfl) (oi (hs.1 17 4 rfl) ?_)
      rw [eX]
      refine wp_f (nI_ne0 (by omega) (by omega)) (oR (hs.1 0 12 rfl) (hs.2.2 11 1 0 17 rfl) (oR (hs.1 0 12 rfl) (hs.2.2 11 0 0 1 rfl) ?_))
      refine oKw (hs.1 17 4 rfl) (Q := fun u => ∃ fi' ar', u = mk x fi' (uJ x) (uAI x) (uAJ x) ar' ∧ (∀ c k a, c ≠ 3 → ¬ (c = 7 ∧ k = 1 ∧ a = 5 + 2 * box) → fi' c k a = uI x c k a) ∧ fi' 3 2 17 = nI rest.length ∧ fi' 3 3 17 = nI (slk nx 0) ∧ (∀ a, a ≠ 6 + 2 * box → ar' a = uAR x a) ∧ LiP x fi' (uJ x) ar' (5 + 2 * box) L) ?_ (fun u hu => ?_)
      · unfold fX3_takeBack
        refine oi (hs.1 17 4 rfl) (oW (hs.1 17 4 rfl) (oi (hs.1 17 4 rfl) (oW (hs.1 17 4 rfl) ?_)))
        have e3 : jrem ((uI x 3 3 17 + 12) - 1) 12 = nI (slk nx 0) := by
          rw [p8, show (12 : Int32) = nI 12 from rfl, nI_add, nI_dec (by omega), rm (by omega) (by decide) (by decide), ← hsl]
          congr 1
        rw [e3, up3_k (by decide), eX, nI_dec (by omega)]
        refine oR (hs.1 1 5 rfl) (hs.2.2 4 3 1 3 rfl) (oR (hs.1 17 4 rfl) (hs.2.2 3 1 17 19 rfl) (oi (hs.1 17 4 rfl) ?_))
        rw [up3_k (by decide), up3_s]
        refine oL (hs.1 19 20 rfl) (hs.2.1 19 12 rfl) rfl hsk (by decide) ?_
        refine oLR (hs.1 3 26 rfl) (hs.2.1 3 6 rfl) b1 hb (by decide) (p1.1 box hb) (oR (hs.1 17 4 rfl) (hs.2.2 3 0 17 18 rfl) (oi (hs.1 17 4 rfl) ?_))
        rw [up3_k (by decide), up3_s]
        refine oLR (hs.1 18 26 rfl) (hs.2.1 18 12 rfl) rfl hsk (by decide) (p1.2.1 _ hsk) ?_
        refine oKw (hs.1 _ _ (LA_box box hb).1) (x_copyFrom hs (LA_box box hb) (LA_his _ hsk) (by omega) (b2.cg (by rw [up3_c (by decide), up3_c (by decide)]) (fun _ _ => rfl) (fun ra hk => ⟨hk, fun k => by rw [up3_c (by decide), up3_c (by decide)], fun _ => rfl⟩))) (fun u hu => ?_)
        obtain ⟨fi', ar', rfl, g1, g2, g3⟩ := hu
        refine wp_some ⟨fi', ar', rfl, fun c k a h3 h7 => by rw [g1 c k a h7, up3_c h3, up3_c h3], by rw [g1 _ _ _ (by omega), up3_s]; rfl, by rw [g1 _ _ _ (by omega), up3_k (by decide), up3_s], fun a ha => g2 a (by omega), g3⟩
      · obtain ⟨fi', ar', rfl, g1, g2, g3, g4, g5⟩ := hu
        refine oR (hs.1 0 12 rfl) (hs.2.2 11 1 0 17 rfl) (oi (hs.1 17 4 rfl) (wp_some ⟨g2, XR_mk hs hd ?_⟩))
        have f : ∀ c k a, c ≠ 7 → c ≠ 3 → fi' c k a = uI x c k a := fun c k a h7 h3 => g1 c k a h3 (by omega)
        refine ⟨⟨fun j hj => by rw [g4 3 (by omega)]; exact p1.1 j hj, fun j hj => by rw [g4 18 (by omega)]; exact p1.2.1 j hj, fun j hj => by rw [g4 64 (by omega)]; exact p1.2.2 j hj⟩, (f _ _ _ (by decide) (by decide)).trans p2, p3, (f _ _ _ (by decide) (by decide)).trans p4, fun bx hbx => ?_, ⟨g2, slk nx 0, hsk, g3, ?_⟩, ⟨(f _ _ _ (by decide) (by decide)).trans p10, p11⟩, ⟨(f _ _ _ (by decide) (by decide)).trans p12, fun i p hp => ?_⟩, (f _ _ _ (by decide) (by decide)).trans p14, p15⟩
        · show LiP x fi' (uJ x) ar' (5 + 2 * bx) (H bx)
          rw [b3]
          by_cases eb : bx = box
          · subst eb; rw [setB_s]; exact g5
          · rw [setB_n eb]
            exact (p5 bx hbx).cg (g1 _ _ _ (by decide) (by omega)) (fun i hi => by rw [g4 _ (by omega)]) (fun ra hk => ⟨hk, fun k => f _ _ _ (by decide) (by decide), fun _ => rfl⟩)
        · show HisP x fi' (uJ x) (uAI x) ar' (slk nx 0) 0 H rest
          rw [← hsl]
          refine (HisP.dn p9 p7 (by omega)).cg (fun j hj => g1 _ _ _ (by decide) (by omega)) (fun j i hj hi => by rw [g4 _ (by omega)]) (fun ra hk => ⟨hk, fun k => f _ _ _ (by decide) (by decide), fun _ => rfl⟩) (fun _ _ => rfl)
        · obtain ⟨q1, q2, q3, q4⟩ := p13 i p hp
          exact ⟨(f _ _ _ (by decide) (by decide)).trans q1, (f _ _ _ (by decide) (by decide)).trans q2, (f _ _ _ (by decide) (by decide)).trans q3, q4⟩
    · show wp (fX12_undo 0 (mk m (uI m) (uJ m) (uAI m) (uAJ m) (uAR m))) _
      obtain ⟨p1, p2, p3, p4, ⟨p5, p6⟩, ⟨p7, p8, p9⟩, ⟨p10, p11⟩, p12, p13⟩ := hM
      unfold fX12_undo
      refine mI hms ?_
      rw [eM]
      refine wp_f (nI_ne0 (by omega) (by omega)) (mI hms (mW hms ?_))
      rw [eM, nI_dec (by omega)]
      refine wp_obw (Q := fun u => ∃ ai', u = mk m (up3 (uI m) 12 7 0 (nI rest.length)) (uJ m) ai' (uAJ m) (uAR m) ∧ (∀ a, a ≠ 2 → ai' a = uAI m a) ∧ ∀ y, y < 258 → ai' 2 y = uAI m 3 (258 * rest.length + y)) ?_ (fun u hu => ?_)
      · refine it2_up1F (show (0 : Int32) = nI 0 from rfl) 258 (by decide) (fun q u => ∃ ai', u = mk m (up3 (uI m) 12 7 0 (nI rest.length)) (uJ m) ai' (uAJ m) (uAR m) ∧ (∀ a, a ≠ 2 → ai' a = uAI m a) ∧ ∀ y, y < q → ai' 2 y = uAI m 3 (258 * rest.length + y)) (fun k q u hq hI hk => ?_) (Nat.zero_le _) ⟨uAI m, rfl, fun _ _ => rfl, fun j hj => absurd hj (Nat.not_lt_zero _)⟩
        obtain ⟨ai', rfl, e1, e2⟩ := hI
        unfold fX12_undo_B22
        refine wp_le (a := 258) rfl rfl (by decide) (by omega) (fun hc => wp_some ?_) (fun hc => ?_)
        · have : q = 258 := by omega
          subst this; exact ⟨ai', rfl, e1, e2⟩
        · refine mR hms rfl (mR hms rfl (mI hms ?_))
          rw [up3_s, show (258 : Int32) = nI 258 from rfl, pk_mul, nI_add]
          refine mL hms rfl rfl (by decide) rfl (by omega) (mS hms rfl rfl (by decide) rfl (by omega) (hk hc _ _ (nI_1 q) ⟨_, rfl, fun a ha => by rw [up2_a ha]; exact e1 a ha, fun y hy => ?_⟩))
          rw [up2_is]
          split
          · rename_i e; rw [e, e1 3 (by decide)]
          · exact e2 y (by omega)
      · obtain ⟨ai', rfl, e1, e2⟩ := hu
        refine mI hms (wp_some ⟨by dsimp only; exact up3_s, MR_mk hms ?_⟩)
        have h0 := p6 0 H (by rw [hH]; rfl)
        refine ⟨(up3_k (by decide)).trans p1, by rw [e1 _ (by decide)]; exact p2, (up3_k (by decide)).trans p3, ?_, ⟨up3_s, fun j q hq => ?_⟩, ⟨(up3_k (by decide)).trans p7, (up3_k (by decide)).trans p8, (up3_k (by decide)).trans p9⟩, ⟨(up3_k (by decide)).trans p10, by rw [e1 12 (by decide), e1 13 (by decide), e1 14 (by decide), e1 15 (by decide), e1 16 (by decide)]; exact p11⟩, (up3_k (by decide)).trans p12, by rw [e1 17 (by decide)]; exact p13⟩
        · refine h0.cg (fun bx hbx => (hHw bx hbx).1) (fun y hy => ?_)
          rw [e2 y hy, hH]
          rfl
        · have hq' : (tH T)[j + 1]? = some q := by rw [hH]; exact hq
          have hj : j < rest.length := (List.getElem?_eq_some_iff.mp hq).1
          have := p6 (j + 1) q hq'
          rw [hH, hlen] at this
          rw [e1 3 (by decide)]
          show NowP (fun x => uAI m 3 (258 * (rest.length - 1 - j) + x)) q
          rwa [show rest.length + 1 - 1 - (j + 1) = rest.length - 1 - j by omega] at this
end PUB
