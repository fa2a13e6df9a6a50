theorem NowP.cg {row row' : Nat → Int32} {rb : RB} (h : NowP row rb) (hl : ∀ box, box < 6 → (rb box).length ≤ 6) (e : ∀ y, y < 258 → row' y = row y) : NowP row' rb := fun box hb => ⟨by rw [e _ (by omega)]; exact (h box hb).1, fun i r hr f hf => by
  have := (List.getElem?_eq_some_iff.mp hr).1
  have := hl box hb
  rw [e _ (by omega)]; exact (h box hb).2 i r hr f hf⟩
/-- all but one place -/
def NowX (row : Nat → Int32) (rb : RB) (bx0 i0 : Nat) : Prop := ∀ box, box < 6 → row (252 + box) = nI (rb box).length ∧ ∀ (i : Nat) r, (rb box)[i]? = some r → ¬ (box = bx0 ∧ i = i0) → ∀ f, f < 7 → row (7 * (6 * box + i) + f) = nI (r f)
theorem NowX.put {row row' : Nat → Int32} {rb : RB} {bx i : Nat} {r : RT} (h : NowX row rb bx i) (hl : ∀ box, box < 6 → (rb box).length ≤ 6) (hb : bx < 6) (hr : (rb bx)[i]? = some r) (h1 : ∀ y, (∀ f, f < 7 → y ≠ 7 * (6 * bx + i) + f) → row' y = row y) (h2 : ∀ f, f < 7 → row' (7 * (6 * bx + i) + f) = nI (r f)) : NowP row' rb := fun box hb2 => by
  have hi := (List.getElem?_eq_some_iff.mp hr).1
  have hl1 := hl bx hb
  have hl2 := hl box hb2
  refine ⟨by rw [h1 _ (by omega)]; exact (h box hb2).1, fun j r' hr' f hf => ?_⟩
  have hj := (List.getElem?_eq_some_iff.mp hr').1
  by_cases e : box = bx ∧ j = i
  · obtain ⟨rfl, rfl⟩ := e
    rw [hr] at hr'; cases hr'
    exact h2 f hf
  · rw [h1 _ (by omega)]
    exact (h box hb2).2 j r' hr' e f hf
section
variable {b : UH} {fi : Nat → Nat → Nat → Int32} {fj : Nat → Nat → Nat → Int64} {ai : Nat → Nat → Int32} {aj : Nat → Nat → Int64} {ar : Nat → Nat → Option Nat} {T : TS} {rb : RB} {box i : Nat}
theorem m_keep_55 (hs : mst b) {n : Nat} (hn : n < 12) (h7 : fi 12 7 0 = nI n) : wp (fX12_keep_55 0 (mk b fi fj ai aj ar)) (fun u => ∃ ai', u = mk b (up3 fi 12 7 0 (nI (n + 1))) fj ai' aj ar ∧ (∀ a, a ≠ 3 → ai' a = ai a) ∧ (∀ y, y < 258 → ai' 3 (258 * n + y) = ai 2 y) ∧ ∀ y, y < 258 * n → ai' 3 y = ai 3 y) := by
  unfold fX12_keep_55
  refine wp_obw (Q := fun u => ∃ ai', u = mk b fi fj ai' aj ar ∧ (∀ a, a ≠ 3 → ai' a = ai a) ∧ (∀ y, y < 258 → ai' 3 (258 * n + y) = ai 2 y) ∧ ∀ y, y < 258 * n → ai' 3 y = ai 3 y) ?_ (fun u hu => ?_)
  · refine it2_up1F (show (0 : Int32) = nI 0 from rfl) 258 (by decide) (fun q u => ∃ ai', u = mk b fi fj ai' aj ar ∧ (∀ a, a ≠ 3 → ai' a = ai a) ∧ (∀ y, y < q → ai' 3 (258 * n + y) = ai 2 y) ∧ ∀ y, y < 258 * n → ai' 3 y = ai 3 y) (fun k q u hq hI hk => ?_) (Nat.zero_le _) ⟨ai, rfl, fun _ _ => rfl, fun j hj => absurd hj (Nat.not_lt_zero _), fun _ _ => rfl⟩
    obtain ⟨ai', rfl, e1, e2, e3⟩ := hI
    unfold fX12_keep_B57
    refine wp_le (a := 258) rfl rfl (by decide) (by omega) (fun hc => wp_some ?_) (fun hc => ?_)
    · have : q = 258 := by omega
      subst this; exact ⟨ai', rfl, e1, e2, e3⟩
    · refine mR hs rfl (mI hs (mR hs rfl (mL hs rfl rfl (by decide) rfl hc (mS hs rfl rfl (by decide) (i := 258 * n + q) ?_ (by omega) (hk hc _ _ (nI_1 q) ⟨_, rfl, fun a ha => by rw [up2_a ha]; exact e1 a ha, fun y hy => ?_, fun y hy => by rw [up2_i (by omega)]; exact e3 y hy⟩)))))
      · rw [h7, show (258 : Int32) = nI 258 from rfl, pk_mul, nI_add]
      · rw [up2_is]
        split
        · rename_i e; rw [show y = q by omega, e1 2 (by decide)]
        · exact e2 y (by omega)
  · obtain ⟨ai', rfl, e1, e2, e3⟩ := hu
    refine mI hs (mW hs (wp_some ⟨ai', ?_, e1, e2, e3⟩))
    rw [h7, nI_1]
theorem m_keep (hs : mst b) (hW : WF T) (hM : MPic T fi ai) : wp (fX12_keep 0 (mk b fi fj ai aj ar)) (fun u => ∃ fi' ai', u = mk b fi' fj ai' aj ar ∧ (∀ a, a ≠ 3 → ai' a = ai a) ∧ (∀ k, k ≠ 7 → fi' 12 k 0 = fi 12 k 0) ∧ MPic (edT T (tR T) (nxH T)) fi' ai') := by
  have hbw : ∀ H : RB, RBW (tB T) H → ∀ box, box < 6 → (H box).length ≤ 6 := fun H h box hb => (h box hb).1
  have h12 := hW.2.2.2.1.1
  obtain ⟨p1, p2, p3, p4, ⟨p5, p6⟩, ⟨p7, p8, p9⟩, ⟨p10, p11⟩, p12, p13⟩ := hM
  have fin : ∀ fi' ai', (∀ k, k ≠ 7 → fi' 12 k 0 = fi 12 k 0) → (∀ a, a ≠ 3 → ai' a = ai a) → fi' 12 7 0 = nI (nxH T).length → (∀ (j : Nat) H, (nxH T)[j]? = some H → NowP (fun x => ai' 3 (258 * ((nxH T).length - 1 - j) + x)) H) → MPic (edT T (tR T) (nxH T)) fi' ai' := by
    intro fi' ai' g1 g2 g3 g4
    exact ⟨(g1 _ (by decide)).trans p1, by rw [g2 _ (by decide)]; exact p2, (g1 _ (by decide)).trans p3, by rw [g2 _ (by decide)]; exact p4, ⟨g3, g4⟩, ⟨(g1 _ (by decide)).trans p7, (g1 _ (by decide)).trans p8, (g1 _ (by decide)).trans p9⟩, ⟨(g1 _ (by decide)).trans p10, by rw [g2 12 (by decide), g2 13 (by decide), g2 14 (by decide), g2 15 (by decide), g2 16 (by decide)]; exact p11⟩, (g1 _ (by decide)).trans p12, by rw [g2 17 (by decide)]; exact p13⟩
  have h0 : NowP (ai 2) (tR T) := p4
  have hl0 := hbw _ hW.2.2.1
  unfold fX12_keep
  refine mI hs (wp_eqq (a := (tH T).length) (b := 12) p5 rfl (by omega) (by decide) (fun he => ?_) (fun hne => ?_))
  · have hlen : (nxH T).length = 12 := by unfold nxH; rw [List.length_take, List.length_cons]; omega
    refine mI hs (mW hs ?_)
    rw [p5, he, nI_dec (by decide)]
    refine wp_obw (Q := fun u => ∃ ai', u = mk b (up3 fi 12 7 0 (nI 11)) fj ai' aj ar ∧ (∀ a, a ≠ 3 → ai' a = ai a) ∧ ∀ y, y < 2838 → ai' 3 y = ai 3 (y + 258)) ?_ (fun u hu => ?_)
    · refine it2_up1F (show (0 : Int32) = nI 0 from rfl) 2838 (by decide) (fun q u => ∃ ai', u = mk b (up3 fi 12 7 0 (nI 11)) fj ai' aj ar ∧ (∀ a, a ≠ 3 → ai' a = ai a) ∧ (∀ y, y < q → ai' 3 y = ai 3 (y + 258)) ∧ ∀ y, q ≤ y → ai' 3 y = ai 3 y) (fun k q u hq hI hk => ?_) (Nat.zero_le _) ⟨ai, rfl, fun _ _ => rfl, fun j hj => absurd hj (Nat.not_lt_zero _), fun _ _ => rfl⟩
      obtain ⟨ai', rfl, e1, e2, e3⟩ := hI
      unfold fX12_keep_B21
      refine mI hs ?_
      rw [up3_s, show (258 : Int32) * nI 11 = nI 2838 from by decide]
      refine wp_le rfl rfl (by decide) (by omega) (fun hc => wp_some ?_) (fun hc => ?_)
      · have : q = 2838 := by omega
        subst this; exact ⟨ai', rfl, e1, e2⟩
      · refine mR hs rfl (mR hs rfl (mL hs rfl rfl (by decide) (i := q + 258) (nI_add q 258) (by omega) (mS hs rfl rfl (by decide) rfl (by omega) (hk hc _ _ (nI_1 q) ⟨_, rfl, fun a ha => by rw [up2_a ha]; exact e1 a ha, fun y hy => ?_, fun y hy => by rw [up2_i (by omega)]; exact e3 y (by omega)⟩))))
        rw [up2_is]
        split
        · rename_i e; subst e; exact e3 _ (by omega)
        · exact e2 y (by omega)
    · obtain ⟨ai1, rfl, e1, e2⟩ := hu
      refine wp_mono (m_keep_55 hs (n := 11) (by decide) up3_s) (fun u hu => ?_)
      obtain ⟨ai', rfl, e3, e4, e5⟩ := hu
      refine ⟨_, ai', rfl, fun a ha => by rw [e3 a ha, e1 a ha], fun k hk => by rw [up3_k hk, up3_k hk], fin _ _ (fun k hk => by rw [up3_k hk, up3_k hk]) (fun a ha => by rw [e3 a ha, e1 a ha]) (by rw [up3_s, hlen]) (fun j H hH => ?_)⟩
      have hj : j < (nxH T).length := (List.getElem?_eq_some_iff.mp hH).1
      rw [hlen] at hj ⊢
      cases j with
      | zero =>
        have hH' : H = tR T := by
          unfold nxH at hH
          rw [List.take_succ_cons] at hH
          exact (Option.some.inj hH).symm
        subst hH'
        exact h0.cg hl0 (fun y hy => by show ai' 3 (258 * 11 + y) = ai 2 y; rw [e4 y hy, e1 2 (by decide)])
      | succ j =>
        have hH' : (tH T)[j]? = some H := by
          unfold nxH at hH
          rw [List.take_succ_cons, List.getElem?_cons_succ, List.getElem?_take] at hH
          rwa [if_pos (by omega)] at hH
        have hm := hW.2.2.2.1.2 H (List.mem_of_getElem? hH')
        refine (p6 j H hH').cg (hbw _ hm) (fun y hy => ?_)
        show ai' 3 (258 * (12 - 1 - (j + 1)) + y) = ai 3 (258 * ((tH T).length - 1 - j) + y)
        rw [e5 _ (by omega), e2 _ (by omega), he]
        congr 1; omega
  · have hlen : (nxH T).length = (tH T).length + 1 := by unfold nxH; rw [List.length_take, List.length_cons]; omega
    refine wp_mono (m_keep_55 hs (n := (tH T).length) (by omega) p5) (fun u hu => ?_)
    obtain ⟨ai', rfl, e3, e4, e5⟩ := hu
    refine ⟨_, ai', rfl, e3, fun k hk => by rw [up3_k hk], fin _ _ (fun k hk => by rw [up3_k hk]) e3 (by rw [up3_s, hlen]) (fun j H hH => ?_)⟩
    have hj : j < (nxH T).length := (List.getElem?_eq_some_iff.mp hH).1
    rw [hlen] at hj ⊢
    cases j with
    | zero =>
      have hH' : H = tR T := by
        unfold nxH at hH
        rw [List.take_succ_cons] at hH
        exact (Option.some.inj hH).symm
      subst hH'
      exact h0.cg hl0 (fun y hy => by show ai' 3 (258 * ((tH T).length + 1 - 1 - 0) + y) = ai 2 y; rw [show (tH T).length + 1 - 1 - 0 = (tH T).length by omega, e4 y hy])
    | succ j =>
      have hH' : (tH T)[j]? = some H := by
        unfold nxH at hH
        rw [List.take_succ_cons, List.getElem?_cons_succ, List.getElem?_take] at hH
        rwa [if_pos (by omega)] at hH
      have hm := hW.2.2.2.1.2 H (List.mem_of_getElem? hH')
      refine (p6 j H hH').cg (hbw _ hm) (fun y hy => ?_)
      show ai' 3 (258 * ((tH T).length + 1 - 1 - (j + 1)) + y) = ai 3 (258 * ((tH T).length - 1 - j) + y)
      have hjl : j < (tH T).length := (List.getElem?_eq_some_iff.mp hH').1
      rw [e5 _ (by omega)]
      congr 1; omega
/-- the row of now changes, and what is scratch -/
theorem MPic.now {fi : Nat → Nat → Nat → Int32} {ai ai' : Nat → Nat → Int32} {h : List RB} (hM : MPic (edT T (tR T) h) fi ai) (h1 : ∀ a, a ≠ 2 → a ≠ 4 → ai' a = ai a) (h2 : NowP (ai' 2) rb) : MPic (edT T rb h) fi ai' := by
  obtain ⟨p1, p2, p3, p4, ⟨p5, p6⟩, ⟨p7, p8, p9⟩, ⟨p10, p11⟩, p12, p13⟩ := hM
  exact ⟨p1, by rw [h1 _ (by decide) (by decide)]; exact p2, p3, h2, ⟨p5, by rw [h1 3 (by decide) (by decide)]; exact p6⟩, ⟨p7, p8, p9⟩, ⟨p10, by rw [h1 12 (by decide) (by decide), h1 13 (by decide) (by decide), h1 14 (by decide) (by decide), h1 15 (by decide) (by decide), h1 16 (by decide) (by decide)]; exact p11⟩, p12, by rw [h1 17 (by decide) (by decide)]; exact p13⟩
end
