/-! edits: a new state of the rules and of the history -/
def edT (T : TS) (rb : RB) (h : List RB) : TS := (tB T, tL T, tN T, rb, h, tI T, tP T, tT T)
def nxH (T : TS) : List RB := (tR T :: tH T).take 12
theorem setB_s (rb : RB) (box : Nat) (L : List RT) : setB rb box L box = L := if_pos rfl
theorem setB_n {rb : RB} {box x : Nat} {L : List RT} (h : x ≠ box) : setB rb box L x = rb x := if_neg h
theorem setB_b (rb : RB) (box : Nat) (L : List RT) : setB (setB rb box L) box (rb box) = rb := by
  funext x
  unfold setB
  by_cases h : x = box
  · subst h; rw [if_pos rfl]
  · rw [if_neg h, if_neg h]
theorem WF_ed {T : TS} (hW : WF T) {box : Nat} {L : List RT} (h6 : L.length ≤ 6) (hL : ∀ r, r ∈ L → RW (tB T) r) : WF (edT T (setB (tR T) box L) (nxH T)) := by
  obtain ⟨w1, w2, w3, w4, w5, w6, w7⟩ := hW
  refine ⟨w1, w2, fun bx hb => ?_, ⟨?_, fun H hH => ?_⟩, w5, w6, w7⟩
  · show ((setB (tR T) box L) bx).length ≤ 6 ∧ ∀ r, r ∈ (setB (tR T) box L) bx → RW (tB T) r
    by_cases e : bx = box
    · subst e; rw [setB_s]; exact ⟨h6, hL⟩
    · rw [setB_n e]; exact w3 bx hb
  · show ((tR T :: tH T).take 12).length ≤ 12
    rw [List.length_take]; omega
  · have h1 : H ∈ tR T :: tH T := List.mem_of_mem_take hH
    rcases List.mem_cons.mp h1 with h | h
    · subst h; exact w3
    · exact w4.2 H h
section HI
variable {b b' : UH} {fi fi' : Nat → Nat → Nat → Int32} {fj fj' : Nat → Nat → Nat → Int64} {ai ai' : Nat → Nat → Int32} {ar ar' : Nat → Nat → Option Nat} {nx : Nat}
theorem HisP.take : ∀ {hist : List RB} {k : Nat} {cur : RB} (m : Nat), HisP b fi fj ai ar nx k cur hist → HisP b fi fj ai ar nx k cur (hist.take m)
  | [], _, _, m, _ => by rw [List.take_nil]; trivial
  | H :: rest, k, cur, 0, _ => trivial
  | H :: rest, k, cur, m + 1, h => ⟨h.1, HisP.take m h.2⟩
theorem slk_up {nx k : Nat} (hn : nx < 12) (hk : k ≤ 10) : slk ((nx + 1) % 12) (k + 1) = slk nx k := by
  unfold slk; omega
theorem slk_0 {nx : Nat} (hn : nx < 12) : slk ((nx + 1) % 12) 0 = nx := by
  unfold slk; omega
theorem slk_ne {nx k : Nat} (hn : nx < 12) (hk : k ≤ 10) : slk nx k ≠ nx := by
  unfold slk; omega
theorem slk_dn {nx k : Nat} (hn : nx < 12) (hk : k ≤ 10) : slk ((nx + 11) % 12) k = slk nx (k + 1) := by
  unfold slk; omega
/-- all slots but the one at nx stay -/
theorem HisP.up : ∀ {hist : List RB} {k : Nat} {cur : RB}, HisP b fi fj ai ar nx k cur hist → nx < 12 → k + hist.length ≤ 11 → (∀ j, j < 12 → j ≠ nx → fi' 7 1 (21 + 2 * j) = fi 7 1 (21 + 2 * j)) → (∀ j i, j < 12 → j ≠ nx → i < 6 → ar' (22 + 2 * j) i = ar (22 + 2 * j) i) → (∀ ra, uKd b ra = 7 → uKd b' ra = 7 ∧ (∀ k, fi' 6 k ra = fi 6 k ra) ∧ ∀ k, fj' 6 k ra = fj 6 k ra) → (∀ j, j < 12 → j ≠ nx → ai' 19 j = ai 19 j) → HisP b' fi' fj' ai' ar' ((nx + 1) % 12) (k + 1) cur hist
  | [], _, _, _, _, _, _, _, _, _ => trivial
  | H :: rest, k, cur, h, hnx, hl, h1, h2, h3, h4 => by
    obtain ⟨⟨box, L, a1, a2, a3, a4⟩, h5⟩ := h
    have hk : k ≤ 10 := by have : (H :: rest).length = rest.length + 1 := rfl; omega
    have hs : slk nx k < 12 := Nat.mod_lt _ (by decide)
    have hne := slk_ne hnx hk
    refine ⟨⟨box, L, a1, ?_, ?_, a4⟩, HisP.up h5 hnx (by have : (H :: rest).length = rest.length + 1 := rfl; omega) h1 h2 h3 h4⟩
    · rw [slk_up hnx hk]; exact (h4 _ hs hne).trans a2
    · rw [slk_up hnx hk]
      exact a3.cg (h1 _ hs hne) (fun i hi => by have := h2 _ i hs hne hi; rwa [show 22 + 2 * slk nx k = 21 + 2 * slk nx k + 1 by omega] at this) h3
theorem HisP.dn : ∀ {hist : List RB} {k : Nat} {cur : RB}, HisP b fi fj ai ar nx (k + 1) cur hist → nx < 12 → k + hist.length ≤ 11 → HisP b fi fj ai ar ((nx + 11) % 12) k cur hist
  | [], _, _, _, _, _ => trivial
  | H :: rest, k, cur, h, hnx, hl => by
    have hk : k ≤ 10 := by have : (H :: rest).length = rest.length + 1 := rfl; omega
    refine ⟨by rw [slk_dn hnx hk]; exact h.1, HisP.dn h.2 hnx (by have : (H :: rest).length = rest.length + 1 := rfl; omega)⟩
end HI
/-- after the history has kept the list of a box: what any change of that list gives -/
def Kp (T : TS) (box : Nat) (b : UH) (fi : Nat → Nat → Nat → Int32) (fj : Nat → Nat → Nat → Int64) (ai : Nat → Nat → Int32) (ar : Nat → Nat → Option Nat) : Prop :=
  LiP b fi fj ar (5 + 2 * box) (tR T box) ∧ ∀ L' fi' ar', (∀ c k a, ¬ (c = 7 ∧ k = 1 ∧ a = 5 + 2 * box) → fi' c k a = fi c k a) → (∀ a, a ≠ 6 + 2 * box → ar' a = ar a) → LiP b fi' fj ar' (5 + 2 * box) L' → XPic (edT T (setB (tR T) box L') (nxH T)) b fi' fj ai ar'
section
variable {b : UH} {fi : Nat → Nat → Nat → Int32} {fj : Nat → Nat → Nat → Int64} {ai : Nat → Nat → Int32} {aj : Nat → Nat → Int64} {ar : Nat → Nat → Option Nat} {T : TS} {box : Nat}
theorem x_keep (hs : xst b) (hH : (tH T).length ≤ 12) (hP : XPic T b fi fj ai ar) (hb : box < 6) {x1 : Int32} (hx : x1 = nI box) : wp (fX3_keep 17 x1 (5 + 2 * box) (mk b fi fj ai aj ar)) (fun u => ∃ fi' ai' ar', u = mk b fi' fj ai' aj ar' ∧ (∀ k a, fi' 6 k a = fi 6 k a) ∧ (ar' (6 + 2 * box) = ar (6 + 2 * box)) ∧ Kp T box b fi' fj ai' ar') := by
  obtain ⟨p1, p2, p3, p4, p5, ⟨p6, nx, p7, p8, p9⟩, ⟨p10, p11⟩, ⟨p12, p13⟩, p14, p15⟩ := hP
  unfold fX3_keep
  refine oR (hs.1 17 4 rfl) (hs.2.2 3 0 17 18 rfl) (oi (hs.1 17 4 rfl) (oLR (hs.1 18 26 rfl) (hs.2.1 18 12 rfl) p8 p7 (by decide) (p1.2.1 nx p7) ?_))
  refine oKw (hs.1 _ _ (LA_his nx p7).1) (x_copyFrom hs (LA_his nx p7) (LA_box box hb) (by omega) (p5 box hb)) (fun u hu => ?_)
  obtain ⟨fi1, ar1, rfl, h1, h2, h3⟩ := hu
  have g3 : ∀ k a, fi1 3 k a = fi 3 k a := fun k a => h1 3 k a (by omega)
  refine oR (hs.1 17 4 rfl) (hs.2.2 3 1 17 19 rfl) (oi (hs.1 17 4 rfl) (oS (hs.1 19 20 rfl) (hs.2.1 19 12 rfl) (by rw [g3]; exact p8) p7 (by decide) (oi (hs.1 17 4 rfl) (oW (hs.1 17 4 rfl) (oi (hs.1 17 4 rfl) (oW (hs.1 17 4 rfl) (wp_some ?_)))))))
  rw [up3_k (by decide), g3, g3, p6, p8, nI_1, nI_1, show (12 : Int32) = nI 12 from rfl, jmin_n (by omega) (by decide), rm (by omega) (by decide) (by decide)]
  have e : ∀ c k a v w, c ≠ 3 → up3 (up3 fi1 3 3 17 v) 3 2 17 w c k a = fi1 c k a := fun c k a v w hc => by rw [up3_c hc, up3_c hc]
  have hbl : ∀ bx, bx < 6 → ∀ v w, LiP b (up3 (up3 fi1 3 3 17 v) 3 2 17 w) fj ar1 (5 + 2 * bx) (tR T bx) := fun bx hbx v w =>
    (p5 bx hbx).cg (by rw [e _ _ _ _ _ (by decide)]; exact h1 _ _ _ (by omega)) (fun i hi => by rw [h2 _ (by omega)]) (fun ra hk => ⟨hk, fun k => by rw [e _ _ _ _ _ (by decide)]; exact h1 _ _ _ (by omega), fun _ => rfl⟩)
  refine ⟨_, _, _, rfl, fun k a => by rw [e _ _ _ _ _ (by decide)]; exact h1 _ _ _ (by omega), h2 _ (by omega), hbl box hb _ _, fun L' fi' ar' f1 f2 f3 => ?_⟩
  have f : ∀ c k a, c ≠ 7 → c ≠ 3 → fi' c k a = fi c k a := fun c k a h7 h3 => by rw [f1 c k a (by omega), e _ _ _ _ _ h3]; exact h1 _ _ _ (by omega)
  have fr : ∀ a, a ≠ 6 + 2 * box → a ≠ 22 + 2 * nx → ar' a = ar a := fun a ha1 ha2 => by rw [f2 a ha1]; exact h2 a (by omega)
  refine ⟨⟨fun j hj => by rw [fr 3 (by omega) (by omega)]; exact p1.1 j hj, fun j hj => by rw [fr 18 (by omega) (by omega)]; exact p1.2.1 j hj, fun j hj => by rw [fr 64 (by omega) (by omega)]; exact p1.2.2 j hj⟩, (f _ _ _ (by decide) (by decide)).trans p2, by rw [up2_a (by decide)]; exact p3, (f _ _ _ (by decide) (by decide)).trans p4, fun bx hbx => ?_, ⟨?_, (nx + 1) % 12, Nat.mod_lt _ (by decide), by rw [f1 _ _ _ (by omega), up3_k (by decide), up3_s], ?_⟩, ⟨(f _ _ _ (by decide) (by decide)).trans p10, p11⟩, ⟨(f _ _ _ (by decide) (by decide)).trans p12, fun i p hp => ?_⟩, (f _ _ _ (by decide) (by decide)).trans p14, fun i c hc => by rw [up2_a (by decide)]; exact p15 i c hc⟩
  · show LiP b fi' fj ar' (5 + 2 * bx) (setB (tR T) box L' bx)
    by_cases eb : bx = box
    · subst eb; rw [setB_s]; exact f3
    · rw [setB_n eb]
      refine (hbl bx hbx _ _).cg (f1 _ _ _ (by omega)) (fun i hi => by rw [f2 _ (by omega)]) (fun ra hk => ⟨hk, fun k => f1 _ _ _ (by omega), fun _ => rfl⟩)
  · rw [f1 _ _ _ (by omega), up3_s]
    show _ = nI ((tR T :: tH T).take 12).length
    rw [List.length_take, List.length_cons, Nat.min_comm]
  · show HisP b fi' fj (up2 ai 19 nx x1) ar' ((nx + 1) % 12) 0 (setB (tR T) box L') ((tR T :: tH T).take 12)
    rw [List.take_succ_cons]
    refine ⟨⟨box, tR T box, hb, ?_, ?_, (setB_b (tR T) box L').symm⟩, ?_⟩
    · rw [slk_0 p7, up2_s, hx]
    · rw [slk_0 p7]
      refine h3.cg (by rw [f1 _ _ _ (by omega), e _ _ _ _ _ (by decide)]) (fun i hi => by rw [f2 _ (by omega)]) (fun ra hk => ⟨hk, fun k => by rw [f1 _ _ _ (by omega), e _ _ _ _ _ (by decide)], fun _ => rfl⟩)
    · refine HisP.up (HisP.take 11 p9) p7 (by rw [List.length_take]; omega) (fun j hj hjn => ?_) (fun j i hj hjn hi => by rw [fr _ (by omega) (by omega)]) (fun ra hk => ⟨hk, fun k => f _ _ _ (by decide) (by decide), fun _ => rfl⟩) (fun j hj hjn => up2_i hjn)
      rw [f1 _ _ _ (by omega), e _ _ _ _ _ (by decide)]; exact h1 _ _ _ (by omega)
  · obtain ⟨q1, q2, q3, q4⟩ := p13 i p hp
    exact ⟨(f _ _ _ (by decide) (by decide)).trans q1, (f _ _ _ (by decide) (by decide)).trans q2, (f _ _ _ (by decide) (by decide)).trans q3, q4⟩
end
