section UP
variable {α : Type}
theorem up3_c {f : Nat → Nat → Nat → α} {c k a c' k' a' : Nat} {v : α} (h : c' ≠ c) : up3 f c k a v c' k' a' = f c' k' a' := if_neg (fun z => h z.1)
theorem up3_k {f : Nat → Nat → Nat → α} {c k a c' k' a' : Nat} {v : α} (h : k' ≠ k) : up3 f c k a v c' k' a' = f c' k' a' := if_neg (fun z => h z.2.1)
theorem up3_a {f : Nat → Nat → Nat → α} {c k a c' k' a' : Nat} {v : α} (h : a' ≠ a) : up3 f c k a v c' k' a' = f c' k' a' := if_neg (fun z => h z.2.2)
theorem up3_s {f : Nat → Nat → Nat → α} {c k a : Nat} {v : α} : up3 f c k a v c k a = v := if_pos ⟨rfl, rfl, rfl⟩
theorem up2_a {f : Nat → Nat → α} {a i a' : Nat} {v : α} (h : a' ≠ a) : up2 f a i v a' = f a' := funext fun _ => if_neg (fun z => h z.1)
theorem up2_i {f : Nat → Nat → α} {a i i' : Nat} {v : α} (h : i' ≠ i) : up2 f a i v a i' = f a i' := if_neg (fun z => h z.2)
theorem up2_s {f : Nat → Nat → α} {a i : Nat} {v : α} : up2 f a i v a i = v := if_pos ⟨rfl, rfl⟩
theorem up2_is {f : Nat → Nat → α} {a i i' : Nat} {v : α} : up2 f a i v a i' = if i' = i then v else f a i' := by
  by_cases h : i' = i
  · subst h; rw [if_pos rfl]; exact up2_s
  · rw [if_neg h]; exact up2_i h
end UP
section CG
variable {T : TS} {b b' : UH} {fi fi' : Nat → Nat → Nat → Int32} {fj fj' : Nat → Nat → Nat → Int64} {ai ai' : Nat → Nat → Int32} {ar ar' : Nat → Nat → Option Nat} {la nx : Nat} {rs : List RT}
theorem RP.cg {ra : Nat} {r : RT} (h : RP b fi fj ra r) (hk : uKd b' ra = uKd b ra) (h1 : ∀ k, fi' 6 k ra = fi 6 k ra) (h2 : ∀ k, fj' 6 k ra = fj 6 k ra) : RP b' fi' fj' ra r := ⟨hk.trans h.1, fun f hf => by rw [h1]; exact h.2.1 f hf, by rw [h2]; exact h.2.2⟩
/-- a list stays, if its row and its rules stay -/
theorem LiP.cg (h : LiP b fi fj ar la rs) (hn : fi' 7 1 la = fi 7 1 la) (hr : ∀ i, i < 6 → ar' (la + 1) i = ar (la + 1) i) (hk : ∀ ra, uKd b ra = 7 → uKd b' ra = 7 ∧ (∀ k, fi' 6 k ra = fi 6 k ra) ∧ ∀ k, fj' 6 k ra = fj 6 k ra) : LiP b' fi' fj' ar' la rs := by
  obtain ⟨h1, h2, h3, h4⟩ := h
  refine ⟨hn.trans h1, h2, fun i hi => ?_, fun i r hr2 => ?_⟩
  · obtain ⟨ra, e1, e2⟩ := h3 i hi
    exact ⟨ra, (hr i hi).trans e1, (hk ra e2).1⟩
  · obtain ⟨ra, e1, e2⟩ := h4 i r hr2
    have hi : i < 6 := by have := (List.getElem?_eq_some_iff.mp hr2).1; omega
    have := hk ra e2.1
    exact ⟨ra, (hr i hi).trans e1, e2.cg (this.1.trans e2.1.symm) this.2.1 this.2.2⟩
theorem HisP.cg : ∀ {hist : List RB} {k : Nat} {cur : RB}, HisP b fi fj ai ar nx k cur hist → (∀ j, j < 12 → fi' 7 1 (21 + 2 * j) = fi 7 1 (21 + 2 * j)) → (∀ j i, j < 12 → i < 6 → ar' (22 + 2 * j) i = ar (22 + 2 * j) i) → (∀ ra, uKd b ra = 7 → uKd b' ra = 7 ∧ (∀ k, fi' 6 k ra = fi 6 k ra) ∧ ∀ k, fj' 6 k ra = fj 6 k ra) → (∀ j, j < 12 → ai' 19 j = ai 19 j) → HisP b' fi' fj' ai' ar' nx k cur hist
  | [], _, _, _, _, _, _, _ => trivial
  | H :: rest, k, cur, h, h1, h2, h3, h4 => by
    obtain ⟨⟨box, L, a1, a2, a3, a4⟩, h5⟩ := h
    have hs : slk nx k < 12 := Nat.mod_lt _ (by decide)
    exact ⟨⟨box, L, a1, (h4 _ hs).trans a2, a3.cg (h1 _ hs) (fun i hi => by have := h2 _ i hs hi; rwa [show 22 + 2 * slk nx k = 21 + 2 * slk nx k + 1 by omega] at this) h3, a4⟩, HisP.cg h5 h1 h2 h3 h4⟩
end CG
theorem XPic.bs {T : TS} {b b' : UH} {fi : Nat → Nat → Nat → Int32} {fj : Nat → Nat → Nat → Int64} {ai : Nat → Nat → Int32} {ar : Nat → Nat → Option Nat} (h : XPic T b fi fj ai ar) (hk : ∀ a, uKd b a = 7 → uKd b' a = 7) : XPic T b' fi fj ai ar := by
  obtain ⟨p1, p2, p3, p4, p5, ⟨p6, nx, p7, p8, p9⟩, p10, p12, p14⟩ := h
  exact ⟨p1, p2, p3, p4, fun box hb => (p5 box hb).cg rfl (fun _ _ => rfl) (fun ra h => ⟨hk ra h, fun _ => rfl, fun _ => rfl⟩), ⟨p6, nx, p7, p8, p9.cg (fun _ _ => rfl) (fun _ _ _ _ => rfl) (fun ra h => ⟨hk ra h, fun _ => rfl, fun _ => rfl⟩) (fun _ _ => rfl)⟩, p10, p12, p14⟩
theorem XR_mk {T : TS} {x : UH} {fi : Nat → Nat → Nat → Int32} {fj : Nat → Nat → Nat → Int64} {ai : Nat → Nat → Int32} {aj : Nat → Nat → Int64} {ar : Nat → Nat → Option Nat} (hs : xst x) (hd : xdom x) (hp : XPic T x fi fj ai ar) : XR T (mk x fi fj ai aj ar) := ⟨hs, hd, hp.bs (fun _ h => h)⟩
/-- rules and history stay -/
theorem XPic.keep {T T' : TS} {b : UH} {fi fi' : Nat → Nat → Nat → Int32} {fj fj' : Nat → Nat → Nat → Int64} {ai ai' : Nat → Nat → Int32} {ar : Nat → Nat → Option Nat} (h : XPic T b fi fj ai ar) (hT : tR T' = tR T ∧ tH T' = tH T) (h7 : ∀ c k a, c = 3 ∨ c = 6 ∨ c = 7 → fi' c k a = fi c k a) (h6 : ∀ k a, fj' 6 k a = fj 6 k a) (h19 : ai' 19 = ai 19) (q2 : fi' 4 0 1 = nI (tB T')) (q3 : LkP (ai' 2) (tL T')) (q4 : fi' 4 1 1 = tN T') (q10 : fi' 11 10 0 = nI (tI T').1) (q11 : EntP (tB T') (tI T') (fj' 11 11 0)) (q12 : fi' 11 9 0 = nI (tP T').length) (q13 : ∀ (i : Nat) p, (tP T')[i]? = some p → PolP (tB T') fi' fj' (65 + i) p) (q14 : fi' 9 1 60 = nI (tT T').length) (q15 : ∀ (i : Nat) c, (tT T')[i]? = some c → ai' 61 i = c) : XPic T' b fi' fj' ai' ar := by
  obtain ⟨p1, p2, p3, p4, p5, ⟨p6, nx, p7, p8, p9⟩, p10, p12, p14⟩ := h
  have hk : ∀ ra, uKd b ra = 7 → uKd b ra = 7 ∧ (∀ k, fi' 6 k ra = fi 6 k ra) ∧ ∀ k, fj' 6 k ra = fj 6 k ra := fun ra h => ⟨h, fun k => h7 6 k ra (by omega), fun k => h6 k ra⟩
  refine ⟨p1, q2, q3, q4, fun box hb => ?_, ⟨?_, nx, p7, (h7 3 3 17 (by omega)).trans p8, ?_⟩, ⟨q10, q11⟩, ⟨q12, q13⟩, q14, q15⟩
  · rw [hT.1]; exact (p5 box hb).cg (h7 7 1 _ (by omega)) (fun _ _ => rfl) hk
  · rw [hT.2]; exact (h7 3 2 17 (by omega)).trans p6
  · rw [hT.1, hT.2]; exact p9.cg (fun j _ => h7 7 1 _ (by omega)) (fun _ _ _ _ => rfl) hk (fun j _ => by rw [h19])
theorem MR_mk {T : TS} {x : UH} {fi : Nat → Nat → Nat → Int32} {fj : Nat → Nat → Nat → Int64} {ai : Nat → Nat → Int32} {aj : Nat → Nat → Int64} {ar : Nat → Nat → Option Nat} (hs : mst x) (hp : MPic T fi ai) : MR T (mk x fi fj ai aj ar) := ⟨hs, hp⟩
section PUB
variable {T : TS} {x m : UH} {x1 x2 x3 x4 x5 : Int32}
theorem lk_bnd (hW : LKW (tL T)) {p : Nat} : ∀ q, tL T p = some q → q < 2 ^ 31 := fun q hq => by have := (hW p q hq).2.1; omega
theorem s_other (hR : RR T x m) : SIMP (fX11_other 0 x1 x2 x) (fX12_other 0 x1 x2 m) := by
  obtain ⟨hW, ⟨hs, hd, hP⟩, hms, hM⟩ := hR
  have hl := hP.2.2.1
  have hl2 := hM.2.1
  rcases pl_or x1 x2 with ⟨i, j, hi, hj, rfl, rfl⟩ | hb
  · have hp : 4 * i + j < 24 := by omega
    refine simp2 (r := if tL T (4 * i + j) = none then -6 else (10 : Int32) * (oI (tL T (4 * i + j)) / 4) + jrem (oI (tL T (4 * i + j))) 4) ?_ ?_
    · show wp (fX11_other 0 (nI i) (nI j) (mk x (uI x) (uJ x) (uAI x) (uAJ x) (uAR x))) _
      unfold fX11_other
      refine wp_obe (x_isPlace_ok _ rfl rfl hi hj) (wp_f (by decide) ?_)
      refine oR (hs.1 0 12 rfl) (hs.2.2 11 0 0 1 rfl) (oR (hs.1 1 5 rfl) (hs.2.2 4 2 1 2 rfl) ?_)
      refine wp_obe (x_placeOf _ rfl rfl) (oL (hs.1 2 20 rfl) (hs.2.1 2 24 rfl) rfl hp (by decide) ?_)
      rw [hl _ hp]
      refine wp_if (fun h => wp_some ?_) (fun h => wp_some ?_)
      · rw [if_pos ((oI_m1 (lk_bnd hW.2.1)).mp h)]
      · rw [if_neg (fun z => h ((oI_m1 (lk_bnd hW.2.1)).mpr z))]
    · show wp (fX12_other 0 (nI i) (nI j) (mk m (uI m) (uJ m) (uAI m) (uAJ m) (uAR m))) _
      unfold fX12_other
      refine wp_obe (m_noPlace_ok _ rfl rfl hi hj) (wp_t rfl ?_)
      refine mR hms rfl (mL hms rfl rfl (by decide) (pl1 i j) hp ?_)
      rw [hl2 _ hp]
      refine wp_if (fun h => wp_some ?_) (fun h => wp_some ?_)
      · rw [if_neg ((oI_nn (lk_bnd hW.2.1)).mp h)]
      · rw [if_pos (Classical.byContradiction fun z => h ((oI_nn (lk_bnd hW.2.1)).mpr z))]
  · refine simp2 (r := -1) ?_ ?_
    · unfold fX11_other
      exact wp_obe (x_isPlace_bad _ hb) (wp_t rfl (wp_some rfl))
    · unfold fX12_other
      exact wp_obe (m_noPlace_bad _ hb) (wp_f (by decide) (wp_some rfl))
/-! the text -/
theorem s_clearText (hR : RR T x m) : SIM T (fX11_clearText 0 x) (fX12_clearText 0 m) := by
  obtain ⟨hW, ⟨hs, hd, hP⟩, hms, hM⟩ := hR
  refine sim (T' := (tB T, tL T, tN T, tR T, tH T, tI T, tP T, [])) (r := nI (tT T).length) ?_ ?_ ?_
  · obtain ⟨w1, w2, w3, w4, w5, w6, w7⟩ := hW
    exact ⟨w1, w2, w3, w4, w5, w6, Nat.zero_le _⟩
  · show wp (fX11_clearText 0 (mk x (uI x) (uJ x) (uAI x) (uAJ x) (uAR x))) _
    unfold fX11_clearText
    refine oR (hs.1 0 12 rfl) (hs.2.2 11 6 0 60 rfl) (oi (hs.1 60 10 rfl) (oR (hs.1 0 12 rfl) (hs.2.2 11 6 0 60 rfl) (oW (hs.1 60 10 rfl) (wp_some ⟨?_, XR_mk hs hd ?_⟩))))
    · exact hP.2.2.2.2.2.2.2.2.1
    · have e : ∀ c k a, c ≠ 9 → up3 (uI x) 9 1 60 0 c k a = uI x c k a := fun c k a hc => up3_c hc
      have hP0 := hP
      obtain ⟨p1, p2, p3, p4, p5, ⟨p6, nx, p7, p8, p9⟩, ⟨p10, p11⟩, ⟨p12, p13⟩, p14, p15⟩ := hP
      refine hP0.keep ⟨rfl, rfl⟩ (fun c k a hc => e c k a (by omega)) (fun _ _ => rfl) rfl ((e _ _ _ (by decide)).trans p2) p3 ((e _ _ _ (by decide)).trans p4) ((e _ _ _ (by decide)).trans p10) p11 ((e _ _ _ (by decide)).trans p12) (fun i p hp => ?_) up3_s (fun i c hc => by cases hc)
      obtain ⟨q1, q2, q3, q4⟩ := p13 i p hp
      exact ⟨(e _ _ _ (by decide)).trans q1, (e _ _ _ (by decide)).trans q2, (e _ _ _ (by decide)).trans q3, q4⟩
  · show wp (fX12_clearText 0 (mk m (uI m) (uJ m) (uAI m) (uAJ m) (uAR m))) _
    unfold fX12_clearText
    refine mI hms (mW hms (wp_some ⟨hM.2.2.2.2.2.2.2.1, MR_mk hms ?_⟩))
    obtain ⟨p1, p2, p3, p4, ⟨p5, p6⟩, ⟨p7, p8, p9⟩, ⟨p10, p11⟩, p12, p13⟩ := hM
    have e : ∀ k, k ≠ 25 → up3 (uI m) 12 25 0 0 12 k 0 = uI m 12 k 0 := fun k hk => up3_k hk
    exact ⟨(e _ (by decide)).trans p1, p2, (e _ (by decide)).trans p3, p4, ⟨(e _ (by decide)).trans p5, p6⟩, ⟨(e _ (by decide)).trans p7, (e _ (by decide)).trans p8, (e _ (by decide)).trans p9⟩, ⟨(e _ (by decide)).trans p10, p11⟩, up3_s, fun i c hc => by cases hc⟩
end PUB
