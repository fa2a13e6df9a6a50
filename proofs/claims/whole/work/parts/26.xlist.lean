/-! the lists of rules of the class -/
def LA (la : Nat) : Prop := xKd la = some 8 ∧ xKd (la + 1) = some 25 ∧ xLn (la + 1) = some 6 ∧ xRf 7 0 la = some (la + 1)
theorem LA_box : ∀ j, j < 6 → LA (5 + 2 * j) := by unfold LA; decide
theorem LA_his : ∀ j, j < 12 → LA (21 + 2 * j) := by unfold LA; decide
def LiP (b : UH) (fi : Nat → Nat → Nat → Int32) (fj : Nat → Nat → Nat → Int64) (ar : Nat → Nat → Option Nat) (la : Nat) (rs : List RT) : Prop := fi 7 1 la = nI rs.length ∧ rs.length ≤ 6 ∧ (∀ i, i < 6 → ∃ ra, ar (la + 1) i = some ra ∧ uKd b ra = 7) ∧ ∀ (i : Nat) r, rs[i]? = some r → ∃ ra, ar (la + 1) i = some ra ∧ RP b fi fj ra r
def lowO (o : Nat) : Option Nat := if o.testBit 0 then some 0 else if o.testBit 1 then some 1 else if o.testBit 2 then some 2 else if o.testBit 3 then some 3 else none
theorem lowO_some {o i : Nat} (hi : i < 4) (h : o.testBit i = true) (h2 : ∀ j, j < i → o.testBit j = false) : lowO o = some i := by
  unfold lowO
  rcases (show i = 0 ∨ i = 1 ∨ i = 2 ∨ i = 3 by omega) with rfl | rfl | rfl | rfl
  · simp [h]
  · simp [h, h2 0 (by decide)]
  · simp [h, h2 0 (by decide), h2 1 (by decide)]
  · simp [h, h2 0 (by decide), h2 1 (by decide), h2 2 (by decide)]
theorem lowO_none {o : Nat} (h2 : ∀ j, j < 4 → o.testBit j = false) : lowO o = none := by
  unfold lowO
  simp [h2 0 (by decide), h2 1 (by decide), h2 2 (by decide), h2 3 (by decide)]
theorem lowO_spec {o i : Nat} (h : lowO o = some i) : i < 4 ∧ o.testBit i = true := by
  unfold lowO at h
  split at h
  · cases h; exact ⟨by decide, by assumption⟩
  · split at h
    · cases h; exact ⟨by decide, by assumption⟩
    · split at h
      · cases h; exact ⟨by decide, by assumption⟩
      · split at h
        · cases h; exact ⟨by decide, by assumption⟩
        · cases h
theorem nbad {i n : Nat} (h : i < n) (hn : n < 2 ^ 31) : ¬ bad (nI i) n := by
  rintro (h1 | h1)
  · exact nI_pos (by omega) h1
  · exact nI_ge h hn h1
/-- some rules switched off -/
def offR (r : RT) : RT := fun f => if f = 6 then 0 else r f
def offl (rs : List RT) (off : Nat → Bool) : List RT := rs.mapIdx (fun i r => if off i then offR r else r)
theorem offl_get (rs : List RT) (off : Nat → Bool) (i : Nat) : (offl rs off)[i]? = (rs[i]?).map (fun r => if off i then offR r else r) := by
  unfold offl; simp
theorem offl_len (rs : List RT) (off : Nat → Bool) : (offl rs off).length = rs.length := by unfold offl; simp
theorem offl_none (rs : List RT) : offl rs (fun _ => false) = rs := by
  apply List.ext_getElem?
  intro i
  rw [offl_get]
  cases rs[i]? <;> simp
theorem mt_off (r : RT) (port h : Nat) : mt (offR r) port h = false := by simp [mt, offR]
section XL
variable {b : UH} {fi : Nat → Nat → Nat → Int32} {fj : Nat → Nat → Nat → Int64} {ai : Nat → Nat → Int32} {aj : Nat → Nat → Int64} {ar : Nat → Nat → Option Nat} {bits la : Nat} {rs : List RT} {ra : Nat} {r : RT} {x y z : Int32} {port h n : Nat}
theorem x_lowestOutput (hr : RP b fi fj ra r) (hw : RW bits r) : fX6_lowestOutput ra (mk b fi fj ai aj ar) = some (oI (lowO (r 3))) := by
  obtain ⟨w0, w1, w2, w3, w4, w5, w6, w7, w8, w9, w10⟩ := hw
  refine of_wp ?_
  unfold fX6_lowestOutput
  refine wp_oew (Q := fun q => match q with | .inl _ => lowO (r 3) = none | .inr z => z = oI (lowO (r 3))) ?_ (fun _ hq => wp_some (by rw [hq]; rfl)) (fun z hq => wp_some hq)
  refine it1_up1F (show (0 : Int32) = nI 0 from rfl) 4 (by decide) (fun i => ∀ j, j < i → (r 3).testBit j = false) (fun k i hi hI hk => ?_) (Nat.zero_le _) (fun j hj => absurd hj (Nat.not_lt_zero _))
  unfold fX6_lowestOutput_B2
  refine wp_le (a := 4) rfl rfl (by decide) (by omega) (fun hc => wp_some (lowO_none (fun j hj => hI j (by omega)))) (fun hc => ?_)
  refine oi hr.1 (wp_obe (x_hasPort _ (hr.2.1 3 (by decide)) rfl (by omega) (by omega)) ?_)
  cases hq : (r 3).testBit i with
  | false =>
    refine wp_t rfl (hk hc _ (nI_1 i) (fun j hj => ?_))
    rcases Nat.lt_or_ge j i with h1 | h1
    · exact hI j h1
    · have : j = i := by omega
      subst this; exact hq
  | true =>
    refine wp_f (by decide) (wp_some ?_)
    show nI i = oI (lowO (r 3))
    rw [lowO_some hc hq hI]; rfl
theorem x_leftFor (hs : xst b) (hA : LA la) (hL : LiP b fi fj ar la rs) (hW : ∀ r ∈ rs, RW bits r) (hx : x = nI n) (hn : n ≤ rs.length) (hy : y = nI port) (hp : port < 4) (s : Int64) : wp (fX7_leftFor la x y s (mk b fi fj ai aj ar)) (fun q => ∀ h, h < 64 → (tb q h = true ↔ tb s h = true ∧ (h < 32 → ∀ (i : Nat) r, i < n → rs[i]? = some r → mt r port h = false))) := by
  obtain ⟨h1, h6, h2, h3⟩ := hL
  unfold fX7_leftFor
  refine wp_obw (Q := fun q => ∀ h, h < 64 → (tb q h = true ↔ tb s h = true ∧ (h < 32 → ∀ (i : Nat) r, i < n → rs[i]? = some r → mt r port h = false))) ?_ (fun q hq => wp_some hq)
  refine it2_up2F (show (0 : Int32) = nI 0 from rfl) n (by omega) (fun i q => ∀ h, h < 64 → (tb q h = true ↔ tb s h = true ∧ (h < 32 → ∀ (j : Nat) r, j < i → rs[j]? = some r → mt r port h = false))) (fun k i q hi hI hk => ?_) (Nat.zero_le _) (fun h hh => ⟨fun H => ⟨H, fun _ j r hj => absurd hj (Nat.not_lt_zero _)⟩, fun H => H.1⟩)
  unfold fX7_leftFor_B6
  refine wp_le hx rfl (by omega) (by omega) (fun hc => wp_some ?_) (fun hc => ?_)
  · have : i = n := by omega
    subst this; exact hI
  refine oR (hs.1 _ _ hA.1) (hs.2.2 _ _ _ _ hA.2.2.2) ?_
  have hr : rs[i]? = some (rs[i]'(by omega)) := List.getElem?_eq_getElem (by omega)
  obtain ⟨ra, e1, e2⟩ := h3 i _ hr
  refine oLR (hs.1 _ _ hA.2.1) (hs.2.1 _ _ hA.2.2.1) rfl (by omega) (by decide) e1 ?_
  refine oKw e2.1 (x_taken e2 (hW _ (List.mem_of_getElem? hr)) hy hp q) (fun z hz => ?_)
  refine hk hc _ _ (nI_1 i) (fun h hh => ?_)
  rw [tb_and, Bool.and_eq_true, tb_not _ hh, hz h hh, hI h hh]
  constructor
  · rintro ⟨⟨a1, a2⟩, a3⟩
    refine ⟨a1, fun h32 j r hj hr' => ?_⟩
    rcases Nat.lt_or_ge j i with h' | h'
    · exact a2 h32 j r h' hr'
    · have : j = i := by omega
      subst this
      rw [hr] at hr'
      cases hr'
      have a4 : tb q h = true := (hI h hh).mpr ⟨a1, a2⟩
      simpa [a4, h32] using a3
  · rintro ⟨a1, a2⟩
    refine ⟨⟨a1, fun h32 j r hj => a2 h32 j r (by omega)⟩, ?_⟩
    by_cases h32 : h < 32
    · simp [a2 h32 i _ (by omega) hr]
    · simp [h32]
theorem x_handled (hs : xst b) (hA : LA la) (hL : LiP b fi fj ar la rs) (hW : ∀ r ∈ rs, RW bits r) (hx : x = nI n) (hn : n < rs.length) (hy : y = nI port) (hp : port < 4) (s : Int64) : wp (fX7_handled la x y s (mk b fi fj ai aj ar)) (fun q => ∀ h, h < 64 → (tb q h = true ↔ tb s h = true ∧ h < 32 ∧ hd rs port h = some n)) := by
  have hL0 := hL
  obtain ⟨h1, h6, h2, h3⟩ := hL
  have hr : rs[n]? = some (rs[n]'hn) := List.getElem?_eq_getElem hn
  obtain ⟨ra, e1, e2⟩ := h3 n _ hr
  unfold fX7_handled
  refine oR (hs.1 _ _ hA.1) (hs.2.2 _ _ _ _ hA.2.2.2) ?_
  refine oLR (hs.1 _ _ hA.2.1) (hs.2.1 _ _ hA.2.2.1) hx (by omega) (by decide) e1 ?_
  refine oKw (hs.1 _ _ hA.1) (x_leftFor hs hA hL0 hW hx (by omega) hy hp s) (fun q hq => ?_)
  refine oKw e2.1 (x_taken e2 (hW _ (List.mem_of_getElem? hr)) hy hp q) (fun z hz => wp_some (fun h hh => ?_))
  rw [hz h hh, Bool.and_eq_true, hq h hh, Bool.and_eq_true, decide_eq_true_eq]
  constructor
  · rintro ⟨⟨a1, a2⟩, a3, a4⟩
    exact ⟨a1, a3, hd_is hr a4 (fun j r' hj hr' => a2 a3 j r' hj hr')⟩
  · rintro ⟨a1, a2, a3⟩
    obtain ⟨r', b1, b2, b3⟩ := hd_some a3
    rw [hr] at b1
    cases b1
    exact ⟨⟨a1, fun _ j r' hj hr' => b3 j r' hj hr'⟩, a2, b2⟩
theorem x_handler (hs : xst b) (hA : LA la) (hL : LiP b fi fj ar la rs) (hW : ∀ r ∈ rs, RW bits r) (off : Nat → Bool) (hx : x = nI port) (hp : port < 4) (hy : y = nI h) (hh : h < 32) (hz : ∀ i, i < 6 → ((jsr z (nI i)) &&& 1 = 0 ↔ off i = false)) : fX7_handler la x y z (mk b fi fj ai aj ar) = some (oI (hd (offl rs off) port h)) := by
  obtain ⟨h1, h6, h2, h3⟩ := hL
  refine of_wp ?_
  unfold fX7_handler
  refine wp_lt ?_
  refine wp_oew (Q := fun q => match q with | .inl _ => hd (offl rs off) port h = none | .inr z => z = oI (hd (offl rs off) port h)) ?_ (fun _ hq => wp_some (by rw [hq]; rfl)) (fun z hq => wp_some hq)
  refine it1_up1F (show (0 : Int32) = nI 0 from rfl) rs.length (by omega) (fun i => ∀ (j : Nat) r', j < i → (offl rs off)[j]? = some r' → mt r' port h = false) (fun k i hi hI hk => ?_) (Nat.zero_le _) (fun j r' hj => absurd hj (Nat.not_lt_zero _))
  unfold fX7_handler_B8
  have next : (∀ r', (offl rs off)[i]? = some r' → mt r' port h = false) → ∀ (j : Nat) r', j < i + 1 → (offl rs off)[j]? = some r' → mt r' port h = false := by
    intro H j r' hj hr'
    rcases Nat.lt_or_ge j i with h' | h'
    · exact hI j r' h' hr'
    · have : j = i := by omega
      subst this; exact H r' hr'
  refine oi (hs.1 _ _ hA.1) ?_
  rw [h1]
  refine wp_le rfl rfl (by omega) (by omega) (fun hc => wp_some (hd_isn (fun j r' hr => hI j r' (by have := (List.getElem?_eq_some_iff.mp hr).1; rw [offl_len] at this; omega) hr))) (fun hc => ?_)
  have hr : rs[i]? = some (rs[i]'(by omega)) := List.getElem?_eq_getElem (by omega)
  have hro := offl_get rs off i
  rw [hr, Option.map_some] at hro
  refine wp_if (fun hc2 => ?_) (fun hc2 => ?_)
  · have ho := (hz i (by omega)).mp hc2
    rw [ho] at hro
    simp only [Bool.false_eq_true, if_false] at hro
    refine oR (hs.1 _ _ hA.1) (hs.2.2 _ _ _ _ hA.2.2.2) ?_
    obtain ⟨ra, e1, e2⟩ := h3 i _ hr
    refine oLR (hs.1 _ _ hA.2.1) (hs.2.1 _ _ hA.2.2.1) rfl (by omega) (by decide) e1 ?_
    refine oKw e2.1 (x_taken e2 (hW _ (List.mem_of_getElem? hr)) hx hp _) (fun w hw => ?_)
    have hb : ∀ j, j < 64 → tb w j = (decide (j = h) && mt (rs[i]'(by omega)) port h) := by
      intro j hj
      rw [hw j hj, hy, tb_sh1 (by omega) hj]
      by_cases e : j = h
      · subst e; simp [hh]
      · simp [e]
    cases hm : mt (rs[i]'(by omega)) port h with
    | false =>
      refine wp_t (tb_zero.mpr (fun j hj => by rw [hb j hj, hm]; simp)) (hk hc _ (nI_1 i) (next (fun r' hr' => ?_)))
      rw [hro] at hr'; cases hr'; exact hm
    | true =>
      refine wp_f (fun e => ?_) (wp_some ?_)
      · have := tb_zero.mp e h (by omega)
        rw [hb h (by omega), hm] at this
        simp at this
      · show nI i = oI (hd (offl rs off) port h)
        rw [hd_is hro hm hI]; rfl
  · have ho : off i = true := by
      cases hq : off i with
      | true => rfl
      | false => exact absurd ((hz i (by omega)).mpr hq) hc2
    refine hk hc _ (nI_1 i) (next (fun r' hr' => ?_))
    rw [hro, ho] at hr'
    cases hr'
    exact mt_off _ _ _
theorem x_handler0 (hs : xst b) (hA : LA la) (hL : LiP b fi fj ar la rs) (hW : ∀ r ∈ rs, RW bits r) (hx : x = nI port) (hp : port < 4) (hy : y = nI h) (hh : h < 32) : fX7_handler la x y 0 (mk b fi fj ai aj ar) = some (oI (hd rs port h)) := by
  rw [x_handler hs hA hL hW (fun _ => false) hx hp hy hh (fun i hi => ⟨fun _ => rfl, fun _ => by rw [show (0 : Int32) = nI 0 from rfl, show (1 : Int32) = 1 from rfl, jsr_bit (by decide) (by omega)]; simp⟩), offl_none]
theorem x_allHeaders (hs : xst b) (hb : fi 4 0 1 = nI bits) (hw : BW bits) : wp (fX4_allHeaders 1 (mk b fi fj ai aj ar)) (fun s => ∀ h, h < 64 → tb s h = decide (h < 2 ^ bits)) := by
  unfold fX4_allHeaders
  refine oi (hs.1 1 5 rfl) (wp_some ?_)
  rw [hb]
  obtain ⟨h1, h2⟩ := hw
  rcases (show bits = 1 ∨ bits = 2 ∨ bits = 3 ∨ bits = 4 ∨ bits = 5 by omega) with rfl | rfl | rfl | rfl | rfl <;> decide +kernel
theorem x_isHeader_ok (hs : xst b) (hb : fi 4 0 1 = nI bits) (hw : BW bits) (hx : x = nI h) (hh : h < 2 ^ bits) : fX4_isHeader 1 x (mk b fi fj ai aj ar) = some 1 := by
  have := (pow_b hw).2
  refine of_wp ?_
  unfold fX4_isHeader
  rw [hx]
  refine wp_f (nI_pos (by omega)) (oi (hs.1 1 5 rfl) ?_)
  rw [hb, jsl_1 (by have := hw.2; omega)]
  exact wp_f (nI_ge hh (by omega)) (wp_some rfl)
theorem x_isHeader_bad (hs : xst b) (hb : fi 4 0 1 = nI bits) (hw : BW bits) (hx : bad x (2 ^ bits)) : fX4_isHeader 1 x (mk b fi fj ai aj ar) = some 0 := by
  refine of_wp ?_
  unfold fX4_isHeader
  rcases hx with hx | hx
  · exact wp_t hx (wp_some rfl)
  · refine wp_if (fun _ => wp_some rfl) (fun _ => oi (hs.1 1 5 rfl) ?_)
    rw [hb, jsl_1 (by have := hw.2; omega)]
    exact wp_t hx (wp_some rfl)
theorem x_isCube_ok (hs : xst b) (hb : fi 4 0 1 = nI bits) (hw : BW bits) {h2 : Nat} (hx : x = nI h) (hh : h < 2 ^ bits) (hy : y = nI h2) (hh2 : h2 < 2 ^ bits) : fX4_isCube 1 x y (mk b fi fj ai aj ar) = some 1 := by
  refine of_wp ?_
  unfold fX4_isCube
  refine oE (hs.1 1 5 rfl) (x_isHeader_ok hs hb hw hx hh) (wp_f (by decide) ?_)
  exact oE (hs.1 1 5 rfl) (x_isHeader_ok hs hb hw hy hh2) (wp_f (by decide) (wp_some rfl))
theorem x_isCube_bad (hs : xst b) (hb : fi 4 0 1 = nI bits) (hw : BW bits) (hx : bad x (2 ^ bits) ∨ bad y (2 ^ bits)) : fX4_isCube 1 x y (mk b fi fj ai aj ar) = some 0 := by
  have hp := (pow_b hw).2
  refine of_wp ?_
  unfold fX4_isCube
  rcases ix x (2 ^ bits) (by omega) with ⟨i, hi, e⟩ | e
  · refine oE (hs.1 1 5 rfl) (x_isHeader_ok hs hb hw e hi) (wp_f (by decide) ?_)
    rcases hx with hx | hx
    · rw [e] at hx; exact absurd hx (nbad hi (by omega))
    · exact oE (hs.1 1 5 rfl) (x_isHeader_bad hs hb hw hx) (wp_t rfl (wp_some rfl))
  · exact oE (hs.1 1 5 rfl) (x_isHeader_bad hs hb hw e) (wp_t rfl (wp_some rfl))
end XL
