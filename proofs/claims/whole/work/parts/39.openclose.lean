section
variable {b : UH} {fi : Nat → Nat → Nat → Int32} {fj : Nat → Nat → Nat → Int64} {ai : Nat → Nat → Int32} {aj : Nat → Nat → Int64} {ar : Nat → Nat → Option Nat} {rb : RB} {box i n : Nat} {x1 x2 : Int32}
theorem m_open_B14 (hs : mst b) (hx : x1 = nI box) (hb : box < 6) {x3 : Int32} {q : Nat} (h3 : x3 = nI q) (hq0 : 0 < q) (hq : q < 6) : wp (it2 (fX12_open_B14 0 x1 x3) FUEL 0 (mk b fi fj ai aj ar)) (fun u => ∃ ai', u = mk b fi fj ai' aj ar ∧ (∀ a, a ≠ 2 → ai' a = ai a) ∧ (∀ f, f < 7 → ai' 2 (7 * (6 * box + q) + f) = ai 2 (7 * (6 * box + (q - 1)) + f)) ∧ ∀ y, (∀ f, f < 7 → y ≠ 7 * (6 * box + q) + f) → ai' 2 y = ai 2 y) := by
  refine it2_up1F (show (0 : Int32) = nI 0 from rfl) 7 (by decide) (fun f u => ∃ ai', u = mk b fi fj ai' aj ar ∧ (∀ a, a ≠ 2 → ai' a = ai a) ∧ (∀ g, g < f → ai' 2 (7 * (6 * box + q) + g) = ai 2 (7 * (6 * box + (q - 1)) + g)) ∧ ∀ y, (∀ g, g < f → y ≠ 7 * (6 * box + q) + g) → ai' 2 y = ai 2 y) (fun k f u hf hI hk => ?_) (Nat.zero_le _) ⟨ai, rfl, fun _ _ => rfl, fun j hj => absurd hj (Nat.not_lt_zero _), fun _ _ => rfl⟩
  obtain ⟨ai', rfl, e1, e2, e3⟩ := hI
  unfold fX12_open_B14
  refine wp_le (a := 7) rfl rfl (by decide) (by omega) (fun hc => wp_some ?_) (fun hc => ?_)
  · have : f = 7 := by omega
    subst this; exact ⟨ai', rfl, e1, e2, e3⟩
  · refine mE hs (m_of hs hx (i := q - 1) (by rw [h3, nI_dec hq0]) rfl hb (by omega) hc) (mE hs (m_put hs hx h3 rfl hb hq hc) (hk hc _ _ (nI_1 f) ⟨_, rfl, fun a ha => by rw [up2_a ha]; exact e1 a ha, fun g hg => ?_, fun y hy => ?_⟩))
    · rw [up2_is]
      split
      · rename_i e
        have : g = f := by omega
        subst this
        exact e3 _ (fun g' hg' => by omega)
      · exact e2 g (by omega)
    · rw [up2_i (hy f (by omega))]
      exact e3 y (fun g hg => hy g (by omega))
theorem m_close_B28 (hs : mst b) (hx : x1 = nI box) (hb : box < 6) {x3 : Int32} {q : Nat} (h3 : x3 = nI q) (hq : q < 5) : wp (it2 (fX12_close_B28 0 x1 x3) FUEL 0 (mk b fi fj ai aj ar)) (fun u => ∃ ai', u = mk b fi fj ai' aj ar ∧ (∀ a, a ≠ 2 → ai' a = ai a) ∧ (∀ f, f < 7 → ai' 2 (7 * (6 * box + q) + f) = ai 2 (7 * (6 * box + (q + 1)) + f)) ∧ ∀ y, (∀ f, f < 7 → y ≠ 7 * (6 * box + q) + f) → ai' 2 y = ai 2 y) := by
  refine it2_up1F (show (0 : Int32) = nI 0 from rfl) 7 (by decide) (fun f u => ∃ ai', u = mk b fi fj ai' aj ar ∧ (∀ a, a ≠ 2 → ai' a = ai a) ∧ (∀ g, g < f → ai' 2 (7 * (6 * box + q) + g) = ai 2 (7 * (6 * box + (q + 1)) + g)) ∧ ∀ y, (∀ g, g < f → y ≠ 7 * (6 * box + q) + g) → ai' 2 y = ai 2 y) (fun k f u hf hI hk => ?_) (Nat.zero_le _) ⟨ai, rfl, fun _ _ => rfl, fun j hj => absurd hj (Nat.not_lt_zero _), fun _ _ => rfl⟩
  obtain ⟨ai', rfl, e1, e2, e3⟩ := hI
  unfold fX12_close_B28
  refine wp_le (a := 7) rfl rfl (by decide) (by omega) (fun hc => wp_some ?_) (fun hc => ?_)
  · have : f = 7 := by omega
    subst this; exact ⟨ai', rfl, e1, e2, e3⟩
  · refine mE hs (m_of hs hx (i := q + 1) (by rw [h3, nI_1]) rfl hb (by omega) hc) (mE hs (m_put hs hx h3 rfl hb (by omega) hc) (hk hc _ _ (nI_1 f) ⟨_, rfl, fun a ha => by rw [up2_a ha]; exact e1 a ha, fun g hg => ?_, fun y hy => ?_⟩))
    · rw [up2_is]
      split
      · rename_i e
        have : g = f := by omega
        subst this
        exact e3 _ (fun g' hg' => by omega)
      · exact e2 g (by omega)
    · rw [up2_i (hy f (by omega))]
      exact e3 y (fun g hg => hy g (by omega))
theorem m_open (hs : mst b) (hN : NowP (ai 2) rb) (hl : ∀ box, box < 6 → (rb box).length ≤ 6) (hx : x1 = nI box) (hb : box < 6) (hn : (rb box).length < 6) (hi : i ≤ (rb box).length) (hy : x2 = nI i) : wp (fX12_open 0 x1 x2 (mk b fi fj ai aj ar)) (fun u => ∃ ai', u = mk b fi fj ai' aj ar ∧ (∀ a, a ≠ 2 → ai' a = ai a) ∧ ∀ r, NowX (ai' 2) (setB rb box ((rb box).insertIdx i r)) box i) := by
  unfold fX12_open
  refine mE hs (m_manyr hs hN hx hb) ?_
  refine wp_obw (Q := fun u => ∃ ai', u = mk b fi fj ai' aj ar ∧ (∀ a, a ≠ 2 → ai' a = ai a) ∧ (∀ j f, i < j → j ≤ (rb box).length → f < 7 → ai' 2 (7 * (6 * box + j) + f) = ai 2 (7 * (6 * box + (j - 1)) + f)) ∧ ∀ y, (∀ j f, i < j → j ≤ (rb box).length → f < 7 → y ≠ 7 * (6 * box + j) + f) → ai' 2 y = ai 2 y) ?_ (fun u hu => ?_)
  · refine it2_dn1F rfl (by omega) (fun q u => i ≤ q ∧ ∃ ai', u = mk b fi fj ai' aj ar ∧ (∀ a, a ≠ 2 → ai' a = ai a) ∧ (∀ j f, q < j → j ≤ (rb box).length → f < 7 → ai' 2 (7 * (6 * box + j) + f) = ai 2 (7 * (6 * box + (j - 1)) + f)) ∧ ∀ y, (∀ j f, q < j → j ≤ (rb box).length → f < 7 → y ≠ 7 * (6 * box + j) + f) → ai' 2 y = ai 2 y) (fun k q u hq hI hk => ?_) ⟨hi, ai, rfl, fun _ _ => rfl, fun j f h1 h2 => absurd h1 (by omega), fun _ _ => rfl⟩
    obtain ⟨hiq, ai', rfl, e1, e2, e3⟩ := hI
    unfold fX12_open_B6
    refine wp_le rfl hy (by omega) (by omega) (fun hc => wp_some ?_) (fun hc => ?_)
    · have : q = i := by omega
      subst this; exact ⟨ai', rfl, e1, e2, e3⟩
    · refine wp_obw (m_open_B14 hs hx hb rfl (by omega) (by omega)) (fun u hu => ?_)
      obtain ⟨ai2, rfl, g1, g2, g3⟩ := hu
      refine hk (by omega) _ _ (nI_dec' (by omega)) ⟨by omega, ai2, rfl, fun a ha => by rw [g1 a ha, e1 a ha], fun j f hj1 hj2 hf => ?_, fun y hy => ?_⟩
      · by_cases ej : j = q
        · subst ej
          rw [g2 f hf, e3 _ (fun j' f' hj' hj2' hf' => by omega)]
        · rw [g3 _ (fun f' hf' => by omega)]
          exact e2 j f (by omega) hj2 hf
      · rw [g3 _ (fun f hf => hy q f (by omega) hq hf)]
        exact e3 y (fun j f hj hj2 hf => hy j f (by omega) hj2 hf)
  · obtain ⟨ai', rfl, e1, e2, e3⟩ := hu
    have e252 : ∀ bx, ai' 2 (252 + bx) = ai 2 (252 + bx) := fun bx => e3 _ (fun j f h1 h2 h3 => by omega)
    refine mR hs rfl (mL hs rfl rfl (by decide) (i := 252 + box) (by rw [hx]; exact nI_add 252 box) (by omega) (mS hs rfl rfl (by decide) (i := 252 + box) (by rw [hx]; exact nI_add 252 box) (by omega) (wp_some ⟨_, rfl, fun a ha => by rw [up2_a ha]; exact e1 a ha, fun r bx hbx => ⟨?_, fun j r' hr' hne f hf => ?_⟩⟩)))
    · rw [up2_is]
      by_cases e : bx = box
      · subst e
        rw [if_pos rfl, e252, (hN bx hbx).1, nI_1, setB_s, List.length_insertIdx_of_le_length hi r]
      · rw [if_neg (by omega), setB_n e, e252]; exact (hN bx hbx).1
    · by_cases e : bx = box
      · subst e
        rw [setB_s] at hr'
        have hjl := (List.getElem?_eq_some_iff.mp hr').1
        rw [List.length_insertIdx_of_le_length hi r] at hjl
        rw [up2_i (by omega)]
        rw [List.getElem?_insertIdx] at hr'
        by_cases h1 : j < i
        · rw [if_pos h1] at hr'
          rw [e3 _ (fun j' f' a1 a2 a3 => by omega)]
          exact (hN bx hbx).2 j r' hr' f hf
        · rw [if_neg h1, if_neg (fun h => hne ⟨rfl, h⟩)] at hr'
          rw [e2 j f (by omega) (by omega) hf]
          exact (hN bx hbx).2 (j - 1) r' hr' f hf
      · rw [setB_n e] at hr'
        have hjl := (List.getElem?_eq_some_iff.mp hr').1
        have := hl bx hbx
        rw [up2_i (by omega), e3 _ (fun j' f' a1 a2 a3 => by omega)]
        exact (hN bx hbx).2 j r' hr' f hf
theorem m_close (hs : mst b) (hN : NowP (ai 2) rb) (hl : ∀ box, box < 6 → (rb box).length ≤ 6) (hx : x1 = nI box) (hb : box < 6) (hi : i < (rb box).length) (hy : x2 = nI i) : wp (fX12_close 0 x1 x2 (mk b fi fj ai aj ar)) (fun u => ∃ ai', u = mk b fi fj ai' aj ar ∧ (∀ a, a ≠ 2 → ai' a = ai a) ∧ NowP (ai' 2) (setB rb box ((rb box).eraseIdx i))) := by
  have hl6 := hl box hb
  unfold fX12_close
  refine mR hs rfl (mL hs rfl rfl (by decide) (i := 252 + box) (by rw [hx]; exact nI_add 252 box) (by omega) (mS hs rfl rfl (by decide) (i := 252 + box) (by rw [hx]; exact nI_add 252 box) (by omega) ?_))
  rw [(hN box hb).1, nI_dec (by omega)]
  refine wp_obw (Q := fun u => ∃ ai', u = mk b fi fj ai' aj ar ∧ (∀ a, a ≠ 2 → ai' a = ai a) ∧ (∀ j f, i ≤ j → j < (rb box).length - 1 → f < 7 → ai' 2 (7 * (6 * box + j) + f) = ai 2 (7 * (6 * box + (j + 1)) + f)) ∧ ∀ y, (∀ j f, i ≤ j → j < (rb box).length - 1 → f < 7 → y ≠ 7 * (6 * box + j) + f) → ai' 2 y = up2 ai 2 (252 + box) (nI ((rb box).length - 1)) 2 y) ?_ (fun u hu => wp_some ?_)
  · rw [hy]
    refine it2_up1F rfl ((rb box).length - 1) (by omega) (fun q u => i ≤ q ∧ ∃ ai', u = mk b fi fj ai' aj ar ∧ (∀ a, a ≠ 2 → ai' a = ai a) ∧ (∀ j f, i ≤ j → j < q → f < 7 → ai' 2 (7 * (6 * box + j) + f) = ai 2 (7 * (6 * box + (j + 1)) + f)) ∧ ∀ y, (∀ j f, i ≤ j → j < q → f < 7 → y ≠ 7 * (6 * box + j) + f) → ai' 2 y = up2 ai 2 (252 + box) (nI ((rb box).length - 1)) 2 y) (fun k q u hq hI hk => ?_) (by omega) ⟨Nat.le_refl _, _, rfl, fun a ha => up2_a ha, fun j f h1 h2 => absurd h1 (by omega), fun _ _ => rfl⟩
    obtain ⟨hiq, ai', rfl, e1, e2, e3⟩ := hI
    unfold fX12_close_B16
    refine mE hs (m_many hs hx hb) ?_
    rw [e3 _ (fun j f h1 h2 h3 => by omega), up2_s]
    refine wp_le rfl rfl (by omega) (by omega) (fun hc => wp_some ?_) (fun hc => ?_)
    · have : q = (rb box).length - 1 := by omega
      subst this; exact ⟨ai', rfl, e1, e2, e3⟩
    · refine wp_obw (m_close_B28 hs hx hb rfl (by omega)) (fun u hu => ?_)
      obtain ⟨ai2, rfl, g1, g2, g3⟩ := hu
      refine hk (by omega) _ _ (nI_1 q) ⟨by omega, ai2, rfl, fun a ha => by rw [g1 a ha, e1 a ha], fun j f hj1 hj2 hf => ?_, fun y hy => ?_⟩
      · by_cases ej : j = q
        · subst ej
          rw [g2 f hf, e3 _ (fun j' f' hj' hj2' hf' => by omega), up2_i (by omega)]
        · rw [g3 _ (fun f' hf' => by omega)]
          exact e2 j f hj1 (by omega) hf
      · rw [g3 _ (fun f hf => hy q f hiq (by omega) hf)]
        exact e3 y (fun j f hj hj2 hf => hy j f hj (by omega) hf)
  · obtain ⟨ai', rfl, e1, e2, e3⟩ := hu
    refine ⟨ai', rfl, e1, fun bx hbx => ⟨?_, fun j r' hr' f hf => ?_⟩⟩
    · rw [e3 _ (fun j f h1 h2 h3 => by omega), up2_is]
      by_cases e : bx = box
      · subst e
        rw [if_pos rfl, setB_s, List.length_eraseIdx_of_lt hi]
      · rw [if_neg (by omega), setB_n e]; exact (hN bx hbx).1
    · by_cases e : bx = box
      · subst e
        rw [setB_s] at hr'
        have hjl := (List.getElem?_eq_some_iff.mp hr').1
        rw [List.length_eraseIdx_of_lt hi] at hjl
        rw [List.getElem?_eraseIdx] at hr'
        by_cases h1 : j < i
        · rw [if_pos h1] at hr'
          rw [e3 _ (fun j' f' a1 a2 a3 => by omega), up2_i (by omega)]
          exact (hN bx hbx).2 j r' hr' f hf
        · rw [if_neg h1] at hr'
          rw [e2 j f (by omega) (by omega) hf]
          exact (hN bx hbx).2 (j + 1) r' hr' f hf
      · rw [setB_n e] at hr'
        have hjl := (List.getElem?_eq_some_iff.mp hr').1
        have := hl bx hbx
        rw [e3 _ (fun j' f' a1 a2 a3 => by omega), up2_i (by omega)]
        exact (hN bx hbx).2 j r' hr' f hf
end
