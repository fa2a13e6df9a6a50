theorem nI_dec {i : Nat} (h : 0 < i) : nI i - 1 = nI (i - 1) := by
  obtain ⟨j, rfl⟩ : ∃ j, i = j + 1 := ⟨i - 1, by omega⟩
  exact nI_pred j
theorem nI_dec' {i : Nat} (h : 0 < i) : nI i + (-1) = nI (i - 1) := by
  rw [← nI_dec h, Int32.sub_eq_add_neg]
theorem it2_dn1F {α E : Type} {b : (Int32 → α → Option E) → Int32 → α → Option E} {P : E → Prop} {c : Int32} {n : Nat} (hc : c = nI n) (hn : n < 900000) (I : Nat → α → Prop)
    (hb : ∀ (k : Int32 → α → Option E) (i : Nat) (x : α), i ≤ n → I i x → (0 < i → ∀ (z : Int32) (y : α), z = nI (i - 1) → I (i - 1) y → wp (k z y) P) → wp (b k (nI i) x) P) {x : α} (h0 : I n x) : wp (it2 b FUEL c x) P := by
  subst hc
  have key : ∀ (m i : Nat) (x : α), i ≤ n → i < m → I i x → wp (it2 b m (nI i) x) P := by
    intro m
    induction m with
    | zero => intro i x _ h; exact absurd h (Nat.not_lt_zero _)
    | succ m ih =>
      intro i x hi hm hI
      exact hb (it2 b m) i x hi hI (fun hp z y hz hI2 => by subst hz; exact ih (i - 1) y (by omega) (by omega) hI2)
  exact key FUEL n x (Nat.le_refl _) (by unfold FUEL; omega) h0
theorem jmin_n {a c : Nat} (ha : a < 2 ^ 31) (hc : c < 2 ^ 31) : jmin (nI a) (nI c) = nI (min a c) := by
  unfold jmin
  by_cases h : c < a
  · rw [if_pos (nI_lt h ha), Nat.min_eq_right (by omega)]
  · rw [if_neg (nI_nlt (by omega) hc), Nat.min_eq_left (by omega)]
section
variable {b : UH} {fi : Nat → Nat → Nat → Int32} {fj : Nat → Nat → Nat → Int64} {ai : Nat → Nat → Int32} {aj : Nat → Nat → Int64} {ar : Nat → Nat → Option Nat} {la ra : Nat} {rs : List RT} {r : RT} {i : Nat}
/-- a list of the class, into which one is put -/
theorem x_insertAt (hs : xst b) (hA : LA la) (hL : LiP b fi fj ar la rs) (hn : rs.length < 6) (hi : i ≤ rs.length) (hr : RP b fi fj ra r) {x1 : Int32} (hx : x1 = nI i) : wp (fX7_insertAt la x1 ra (mk b fi fj ai aj ar)) (fun u => ∃ fi' ar', u = mk b fi' fj ai aj ar' ∧ (∀ c k a, ¬ (c = 7 ∧ k = 1 ∧ a = la) → fi' c k a = fi c k a) ∧ (∀ a, a ≠ la + 1 → ar' a = ar a) ∧ LiP b fi' fj ar' la (rs.insertIdx i r)) := by
  obtain ⟨l1, l2, l3, l4⟩ := hL
  unfold fX7_insertAt
  refine oi (hs.1 _ _ hA.1) (wp_lt ?_)
  rw [l1, show (5 : Int32) = nI 5 from rfl, jmin_n (by omega) (by decide), Nat.min_eq_left (by omega)]
  refine wp_obw (Q := fun u => ∃ ar', u = mk b fi fj ai aj ar' ∧ (∀ a, a ≠ la + 1 → ar' a = ar a) ∧ (∀ j, j ≤ i → ar' (la + 1) j = ar (la + 1) j) ∧ (∀ j, i < j → j ≤ rs.length → ar' (la + 1) j = ar (la + 1) (j - 1)) ∧ ∀ j, rs.length < j → ar' (la + 1) j = ar (la + 1) j) ?_ (fun u hu => ?_)
  · refine it2_dn1F rfl (by omega) (fun q u => i ≤ q ∧ ∃ ar', u = mk b fi fj ai aj ar' ∧ (∀ a, a ≠ la + 1 → ar' a = ar a) ∧ (∀ j, j ≤ q → ar' (la + 1) j = ar (la + 1) j) ∧ (∀ j, q < j → j ≤ rs.length → ar' (la + 1) j = ar (la + 1) (j - 1)) ∧ ∀ j, rs.length < j → ar' (la + 1) j = ar (la + 1) j) (fun k q u hq hI hk => ?_) ⟨hi, ar, rfl, fun _ _ => rfl, fun _ _ => rfl, fun j h1 h2 => absurd h1 (by omega), fun _ _ => rfl⟩
    obtain ⟨hiq, ar', rfl, h1, h2, h3, h4⟩ := hI
    unfold fX7_insertAt_B9
    refine wp_le rfl hx (by omega) (by omega) (fun hc => wp_some ?_) (fun hc => ?_)
    · have : q = i := by omega
      subst this; exact ⟨ar', rfl, h1, h2, h3, h4⟩
    · rw [nI_dec (by omega)]
      obtain ⟨rb, e1, e2⟩ := l3 (q - 1) (by omega)
      refine oR (hs.1 _ _ hA.1) (hs.2.2 _ _ _ _ hA.2.2.2) (oR (hs.1 _ _ hA.1) (hs.2.2 _ _ _ _ hA.2.2.2) (oLR (hs.1 _ _ hA.2.1) (hs.2.1 _ _ hA.2.2.1) rfl (by omega) (by decide) ((h2 _ (by omega)).trans e1) (oSR (c := 6) (hs.1 _ _ hA.2.1) e2 (hs.2.1 _ _ hA.2.2.1) rfl (by omega) (by decide) ?_)))
      refine hk (by omega) _ _ (nI_dec' (by omega)) ⟨by omega, _, rfl, fun a ha => by rw [up2_a ha]; exact h1 a ha, fun j hj => by rw [up2_i (by omega)]; exact h2 j (by omega), fun j hj1 hj2 => ?_, fun j hj => by rw [up2_i (by omega)]; exact h4 j hj⟩
      rw [up2_is]
      split
      · rename_i e; subst e; exact e1.symm
      · exact h3 j (by omega) hj2
  · obtain ⟨ar', rfl, h1, h2, h3, h4⟩ := hu
    refine oR (hs.1 _ _ hA.1) (hs.2.2 _ _ _ _ hA.2.2.2) (oSR (c := 6) (hs.1 _ _ hA.2.1) hr.1 (hs.2.1 _ _ hA.2.2.1) hx (by omega) (by decide) (oi (hs.1 _ _ hA.1) (oW (hs.1 _ _ hA.1) (wp_some ⟨_, _, rfl, fun c k a hn => ?_, fun a ha => by rw [up2_a ha]; exact h1 a ha, ?_⟩))))
    · exact if_neg hn
    · have hk7 : ∀ k a, up3 fi 7 1 la (fi 7 1 la + 1) 6 k a = fi 6 k a := fun k a => up3_c (by decide)
      have hlen : (rs.insertIdx i r).length = rs.length + 1 := List.length_insertIdx_of_le_length hi r
      refine ⟨by rw [up3_s, l1, nI_1, hlen], by omega, fun j hj => ?_, fun j r' hr' => ?_⟩
      · rw [up2_is]
        split
        · exact ⟨ra, rfl, hr.1⟩
        · rcases Nat.lt_or_ge rs.length j with h | h
          · rw [h4 j h]; exact l3 j hj
          · rcases Nat.lt_or_ge i j with h' | h'
            · rw [h3 j h' h]; exact l3 (j - 1) (by omega)
            · rw [h2 j h']; exact l3 j hj
      · have hjl : j < (rs.insertIdx i r).length := (List.getElem?_eq_some_iff.mp hr').1
        rw [List.getElem?_insertIdx] at hr'
        rw [up2_is]
        by_cases e1 : j < i
        · rw [if_pos e1] at hr'
          rw [if_neg (by omega), h2 j (by omega)]
          obtain ⟨q, z1, z2⟩ := l4 j r' hr'
          exact ⟨q, z1, z2.cg rfl (fun k => hk7 k q) (fun _ => rfl)⟩
        · rw [if_neg e1] at hr'
          by_cases e2 : j = i
          · rw [if_pos e2, if_pos (by omega)] at hr'
            cases hr'
            rw [if_pos e2]
            exact ⟨ra, rfl, hr.cg rfl (fun k => hk7 k ra) (fun _ => rfl)⟩
          · rw [if_neg e2] at hr'
            rw [if_neg e2, h3 j (by omega) (by omega)]
            obtain ⟨q, z1, z2⟩ := l4 (j - 1) r' hr'
            exact ⟨q, z1, z2.cg rfl (fun k => hk7 k q) (fun _ => rfl)⟩
theorem x_removeAt (hs : xst b) (hA : LA la) (hL : LiP b fi fj ar la rs) (hi : i < rs.length) {x1 : Int32} (hx : x1 = nI i) : wp (fX7_removeAt la x1 (mk b fi fj ai aj ar)) (fun u => ∃ fi' ar', u = mk b fi' fj ai aj ar' ∧ (∀ c k a, ¬ (c = 7 ∧ k = 1 ∧ a = la) → fi' c k a = fi c k a) ∧ (∀ a, a ≠ la + 1 → ar' a = ar a) ∧ LiP b fi' fj ar' la (rs.eraseIdx i)) := by
  obtain ⟨l1, l2, l3, l4⟩ := hL
  unfold fX7_removeAt
  refine wp_lt ?_
  rw [hx, nI_1]
  refine wp_obw (Q := fun u => ∃ ar', u = mk b fi fj ai aj ar' ∧ (∀ a, a ≠ la + 1 → ar' a = ar a) ∧ (∀ j, j < i → ar' (la + 1) j = ar (la + 1) j) ∧ (∀ j, i ≤ j → j + 1 < rs.length → ar' (la + 1) j = ar (la + 1) (j + 1)) ∧ ∀ j, rs.length ≤ j + 1 → ar' (la + 1) j = ar (la + 1) j) ?_ (fun u hu => ?_)
  · refine it2_up1F (i0 := i + 1) rfl rs.length (by omega) (fun q u => i < q ∧ ∃ ar', u = mk b fi fj ai aj ar' ∧ (∀ a, a ≠ la + 1 → ar' a = ar a) ∧ (∀ j, j < i → ar' (la + 1) j = ar (la + 1) j) ∧ (∀ j, i ≤ j → j + 1 < q → ar' (la + 1) j = ar (la + 1) (j + 1)) ∧ ∀ j, q ≤ j + 1 → ar' (la + 1) j = ar (la + 1) j) (fun k q u hq hI hk => ?_) (by omega) ⟨by omega, ar, rfl, fun _ _ => rfl, fun _ _ => rfl, fun j h1 h2 => absurd h1 (by omega), fun _ _ => rfl⟩
    obtain ⟨hiq, ar', rfl, h1, h2, h3, h4⟩ := hI
    unfold fX7_removeAt_B4
    refine oi (hs.1 _ _ hA.1) ?_
    rw [l1]
    refine wp_le rfl rfl (by omega) (by omega) (fun hc => wp_some ?_) (fun hc => ?_)
    · have : q = rs.length := by omega
      subst this; exact ⟨ar', rfl, h1, h2, h3, h4⟩
    · obtain ⟨rb, e1, e2⟩ := l3 q (by omega)
      rw [nI_dec (by omega)]
      refine oR (hs.1 _ _ hA.1) (hs.2.2 _ _ _ _ hA.2.2.2) (oR (hs.1 _ _ hA.1) (hs.2.2 _ _ _ _ hA.2.2.2) (oLR (hs.1 _ _ hA.2.1) (hs.2.1 _ _ hA.2.2.1) rfl (by omega) (by decide) ((h4 _ (by omega)).trans e1) (oSR (c := 6) (hs.1 _ _ hA.2.1) e2 (hs.2.1 _ _ hA.2.2.1) rfl (by omega) (by decide) ?_)))
      refine hk (by omega) _ _ (nI_1 q) ⟨by omega, _, rfl, fun a ha => by rw [up2_a ha]; exact h1 a ha, fun j hj => by rw [up2_i (by omega)]; exact h2 j (by omega), fun j hj1 hj2 => ?_, fun j hj => by rw [up2_i (by omega)]; exact h4 j (by omega)⟩
      rw [up2_is]
      split
      · rename_i e; subst e; rw [show q - 1 + 1 = q by omega]; exact e1.symm
      · exact h3 j (by omega) (by omega)
  · obtain ⟨ar', rfl, h1, h2, h3, h4⟩ := hu
    refine (oi (hs.1 _ _ hA.1) (oW (hs.1 _ _ hA.1) (wp_some ⟨_, _, rfl, fun c k a hn => if_neg hn, h1, ?_⟩)))
    have hk7 : ∀ k a, up3 fi 7 1 la (fi 7 1 la - 1) 6 k a = fi 6 k a := fun k a => up3_c (by decide)
    have hlen : (rs.eraseIdx i).length = rs.length - 1 := List.length_eraseIdx_of_lt hi
    refine ⟨by rw [up3_s, l1, nI_dec (by omega), hlen], by omega, fun j hj => ?_, fun j r' hr' => ?_⟩
    · rcases Nat.lt_or_ge j i with h | h
      · rw [h2 j h]; exact l3 j hj
      · rcases Nat.lt_or_ge (j + 1) rs.length with h' | h'
        · rw [h3 j h h']; exact l3 (j + 1) (by omega)
        · rw [h4 j h']; exact l3 j hj
    · have hjl : j < (rs.eraseIdx i).length := (List.getElem?_eq_some_iff.mp hr').1
      rw [List.getElem?_eraseIdx] at hr'
      by_cases e1 : j < i
      · rw [if_pos e1] at hr'
        rw [h2 j e1]
        obtain ⟨q, z1, z2⟩ := l4 j r' hr'
        exact ⟨q, z1, z2.cg rfl (fun k => hk7 k q) (fun _ => rfl)⟩
      · rw [if_neg e1] at hr'
        rw [h3 j (by omega) (by omega)]
        obtain ⟨q, z1, z2⟩ := l4 (j + 1) r' hr'
        exact ⟨q, z1, z2.cg rfl (fun k => hk7 k q) (fun _ => rfl)⟩
/-- one list copied to another -/
theorem x_copyFrom (hs : xst b) (hA : LA la) {lb : Nat} (hB : LA lb) (hne : lb + 1 ≠ la + 1) (hL : LiP b fi fj ar lb rs) : wp (fX7_copyFrom la lb (mk b fi fj ai aj ar)) (fun u => ∃ fi' ar', u = mk b fi' fj ai aj ar' ∧ (∀ c k a, ¬ (c = 7 ∧ k = 1 ∧ a = la) → fi' c k a = fi c k a) ∧ (∀ a, a ≠ la + 1 → ar' a = ar a) ∧ LiP b fi' fj ar' la rs) := by
  obtain ⟨l1, l2, l3, l4⟩ := hL
  unfold fX7_copyFrom
  refine wp_obw (Q := fun u => ∃ ar', u = mk b fi fj ai aj ar' ∧ (∀ a, a ≠ la + 1 → ar' a = ar a) ∧ (∀ j, j < 6 → ar' (la + 1) j = ar (lb + 1) j)) ?_ (fun u hu => ?_)
  · refine it2_up1F (show (0 : Int32) = nI 0 from rfl) 6 (by decide) (fun q u => ∃ ar', u = mk b fi fj ai aj ar' ∧ (∀ a, a ≠ la + 1 → ar' a = ar a) ∧ (∀ j, j < q → ar' (la + 1) j = ar (lb + 1) j)) (fun k q u hq hI hk => ?_) (Nat.zero_le _) ⟨ar, rfl, fun _ _ => rfl, fun j hj => absurd hj (Nat.not_lt_zero _)⟩
    obtain ⟨ar', rfl, h1, h2⟩ := hI
    unfold fX7_copyFrom_B2
    refine wp_le (a := 6) rfl rfl (by decide) (by omega) (fun hc => wp_some ?_) (fun hc => ?_)
    · have : q = 6 := by omega
      subst this; exact ⟨ar', rfl, h1, h2⟩
    · obtain ⟨rb, e1, e2⟩ := l3 q hc
      refine oR (hs.1 _ _ hA.1) (hs.2.2 _ _ _ _ hA.2.2.2) (oR (hs.1 _ _ hB.1) (hs.2.2 _ _ _ _ hB.2.2.2) (oLR (hs.1 _ _ hB.2.1) (hs.2.1 _ _ hB.2.2.1) rfl (by omega) (by decide) (by rw [h1 _ hne]; exact e1) (oSR (c := 6) (hs.1 _ _ hA.2.1) e2 (hs.2.1 _ _ hA.2.2.1) rfl (by omega) (by decide) ?_)))
      refine hk (by omega) _ _ (nI_1 q) ⟨_, rfl, fun a ha => by rw [up2_a ha]; exact h1 a ha, fun j hj => ?_⟩
      rw [up2_is]
      split
      · rename_i e; subst e; exact e1.symm
      · exact h2 j (by omega)
  · obtain ⟨ar', rfl, h1, h2⟩ := hu
    refine oi (hs.1 _ _ hB.1) (oW (hs.1 _ _ hA.1) (wp_some ⟨_, _, rfl, fun c k a hn => if_neg hn, h1, ?_⟩))
    have hk7 : ∀ k a v, up3 fi 7 1 la v 6 k a = fi 6 k a := fun k a v => up3_c (by decide)
    refine ⟨by rw [up3_s, l1], l2, fun j hj => by rw [h2 j hj]; exact l3 j hj, fun j r' hr' => ?_⟩
    have hj : j < rs.length := (List.getElem?_eq_some_iff.mp hr').1
    rw [h2 j (by omega)]
    obtain ⟨q, z1, z2⟩ := l4 j r' hr'
    exact ⟨q, z1, z2.cg rfl (fun k => hk7 k q _) (fun _ => rfl)⟩
end
