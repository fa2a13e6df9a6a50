theorem or0 (x : Int32) : x ||| 0 = x := b_ext (fun i _ => by rw [b_or, b_0, Bool.or_false])
theorem dgN_skip {tx : Nat → Option Int32} {p m : Nat} : ∀ k, (∀ n, m ≤ n → n < m + k → tx (dgN tx p m).2 ≠ some (nI (48 + n))) → dgN tx p (m + k) = dgN tx p m
  | 0, _ => rfl
  | k + 1, h => by
    have e := dgN_skip k (fun n h1 h2 => h n h1 (by omega))
    show dgN tx p (m + k + 1) = _
    rw [dgN_s, e, if_neg (h (m + k) (by omega) (by omega))]
theorem sub48 : ∀ d, d < 4 → nI (48 + d) - 48 = nI d := by decide +kernel
theorem nI_d {n d : Nat} (hn : n < 4) (hd : d < 4) (h : nI (48 + n) = nI (48 + d)) : n = d := by
  have := (nI_eq (a := 48 + n) (b := 48 + d) (by omega) (by omega)).mp h
  omega
/-- the reference's reader: position, whether all was good, what was read -/
def RS (T : TS) (b : UH) (fi : Nat → Nat → Nat → Int32) (fj : Nat → Nat → Nat → Int64) (ai : Nat → Nat → Int32) (aj : Nat → Nat → Int64) (ar : Nat → Nat → Option Nat) (p : Nat) (g c v : Int32) (u : UH) : Prop := ∃ fi', u = mk b fi' fj ai aj ar ∧ (∀ k, k ≠ 27 → k ≠ 28 → k ≠ 29 → k ≠ 30 → fi' 12 k 0 = fi 12 k 0) ∧ p ≤ (tT T).length ∧ fi' 12 27 0 = nI p ∧ fi' 12 28 0 = g ∧ fi' 12 29 0 = c ∧ fi' 12 30 0 = v
section
variable {b : UH} {fi : Nat → Nat → Nat → Int32} {fj : Nat → Nat → Nat → Int64} {ai : Nat → Nat → Int32} {aj : Nat → Nat → Int64} {ar : Nat → Nat → Option Nat} {T : TS} {u : UH} {p bits : Nat} {g c v : Int32}
theorem RS.pic (hM : MPic T fi ai) (h : RS T b fi fj ai aj ar p g c v u) : ∃ fi', u = mk b fi' fj ai aj ar ∧ MPic T fi' ai := by
  obtain ⟨fi', rfl, g1, _⟩ := h
  exact ⟨fi', rfl, hM.sc (fun k hk => g1 k (by omega) (by omega) (by omega) (by omega)) msA.refl⟩
theorem RS.mr (hs : mst b) (hM : MPic T fi ai) (h : RS T b fi fj ai aj ar p g c v u) : MR T u := by
  obtain ⟨fi', rfl, hM'⟩ := h.pic hM
  exact MR_mk hs hM'
theorem mo {β γ : Type} {K : γ → Option β} {P : β → Prop} {y : Option γ} {Q : γ → Prop} (hs : mst b) (h : RS T b fi fj ai aj ar p g c v u) (hy : wp y Q) (hK : ∀ z, Q z → wp (K z) P) : wp (ob (kd u 12 0 y) K) P := by
  obtain ⟨fi', rfl, _⟩ := h
  exact mKw hs hy hK
theorem mo2 {β γ : Type} {K : γ → UH → Option β} {P : β → Prop} {y : Option (γ × UH)} {Q : γ × UH → Prop} (hs : mst b) (h : RS T b fi fj ai aj ar p g c v u) (hy : wp y Q) (hK : ∀ z w, Q (z, w) → wp (K z w) P) : wp (ob2 (kd u 12 0 y) K) P := by
  obtain ⟨fi', rfl, _⟩ := h
  exact mK2 hs hy hK
theorem RS.rd {β : Type} {K : Int32 → Option β} {P : β → Prop} (hs : mst b) (h : RS T b fi fj ai aj ar p g c v u) : (wp (K (nI p)) P → wp (ob (rI u 12 27 0) K) P) ∧ (wp (K g) P → wp (ob (rI u 12 28 0) K) P) ∧ (wp (K c) P → wp (ob (rI u 12 29 0) K) P) ∧ (wp (K v) P → wp (ob (rI u 12 30 0) K) P) := by
  obtain ⟨fi', rfl, g1, g2, q1, q2, q3, q4⟩ := h
  subst q2; subst q3; subst q4
  refine ⟨fun z => mI hs ?_, fun z => mI hs z, fun z => mI hs z, fun z => mI hs z⟩
  rw [q1]; exact z
theorem RS.len {β : Type} {K : Int32 → Option β} {P : β → Prop} (hs : mst b) (hM : MPic T fi ai) (h : RS T b fi fj ai aj ar p g c v u) (hK : wp (K (nI (tT T).length)) P) : wp (ob (rI u 12 25 0) K) P := by
  obtain ⟨fi', rfl, g1, _⟩ := h
  refine mI hs ?_
  rw [g1 25 (by decide) (by decide) (by decide) (by decide), hM.2.2.2.2.2.2.2.1]; exact hK
theorem RS.ld {β : Type} {K : Int32 → Option β} {P : β → Prop} {ch : Int32} (hW : WF T) (hs : mst b) (hM : MPic T fi ai) (h : RS T b fi fj ai aj ar p g c v u) (ht : txt T p = some ch) (hK : wp (K ch) P) : wp (ob (rR u 12 26 0) fun b3 => ob (rI u 12 27 0) fun y4 => ob (ldI u 22 b3 y4) K) P := by
  have h40 : (tT T).length ≤ 40 := hW.2.2.2.2.2.2
  have hlt := txt_lt _ _ ht
  obtain ⟨fi', rfl, g1, g2, q1, _⟩ := h
  refine mR hs rfl (mI hs (mL hs rfl rfl (by decide) q1 (by omega) ?_))
  rw [hM.2.2.2.2.2.2.2.2 p ch ht]; exact hK
theorem RS.wr {β : Type} {K : UH → Option β} {P : β → Prop} (hs : mst b) (h : RS T b fi fj ai aj ar p g c v u) : (∀ p', p' ≤ (tT T).length → (∀ u', RS T b fi fj ai aj ar p' g c v u' → wp (K u') P) → wp (ob (wI u 12 27 0 (nI p')) K) P) ∧ (∀ w : Int32, (w = 0 ∨ w = 1) → (∀ u', RS T b fi fj ai aj ar p w c v u' → wp (K u') P) → wp (ob (wZ u 12 28 0 w) K) P) ∧ (∀ w : Int32, (∀ u', RS T b fi fj ai aj ar p g w v u' → wp (K u') P) → wp (ob (wI u 12 29 0 w) K) P) ∧ (∀ w : Int32, (∀ u', RS T b fi fj ai aj ar p g c w u' → wp (K u') P) → wp (ob (wI u 12 30 0 w) K) P) := by
  obtain ⟨fi', rfl, g1, g2, q1, q2, q3, q4⟩ := h
  refine ⟨fun p' hp' z => mW hs (z _ ⟨_, rfl, fun k h1 h2 h3 h4 => by rw [up3_k h1]; exact g1 k h1 h2 h3 h4, hp', up3_s, (up3_k (by decide)).trans q2, (up3_k (by decide)).trans q3, (up3_k (by decide)).trans q4⟩), fun w hw z => mWZ hs hw (z _ ⟨_, rfl, fun k h1 h2 h3 h4 => by rw [up3_k h2]; exact g1 k h1 h2 h3 h4, g2, (up3_k (by decide)).trans q1, up3_s, (up3_k (by decide)).trans q3, (up3_k (by decide)).trans q4⟩), fun w z => mW hs (z _ ⟨_, rfl, fun k h1 h2 h3 h4 => by rw [up3_k h3]; exact g1 k h1 h2 h3 h4, g2, (up3_k (by decide)).trans q1, (up3_k (by decide)).trans q2, up3_s, (up3_k (by decide)).trans q4⟩), fun w z => mW hs (z _ ⟨_, rfl, fun k h1 h2 h3 h4 => by rw [up3_k h4]; exact g1 k h1 h2 h3 h4, g2, (up3_k (by decide)).trans q1, (up3_k (by decide)).trans q2, (up3_k (by decide)).trans q3, up3_s⟩)⟩
theorem m_isAt (hW : WF T) (hs : mst b) (hM : MPic T fi ai) (x1 : Int32) (h : RS T b fi fj ai aj ar p g c v u) : wp (fX12_isAt 0 x1 u) (fun q => (q = 1 ∧ txt T p = some x1) ∨ (q = 0 ∧ txt T p ≠ some x1)) := by
  have h40 : (tT T).length ≤ 40 := hW.2.2.2.2.2.2
  have hple : p ≤ (tT T).length := by obtain ⟨_, _, _, z, _⟩ := h; exact z
  unfold fX12_isAt
  refine (h.rd hs).1 (h.len hs hM (wp_le rfl rfl (by omega) (by omega) (fun hc => wp_some (Or.inr ⟨rfl, fun z => ?_⟩)) (fun hc => ?_)))
  · have := txt_lt _ _ z
    omega
  have ht : txt T p = some ((tT T)[p]) := List.getElem?_eq_getElem hc
  generalize (tT T)[p] = ch at ht
  refine h.ld hW hs hM ht (wp_if (fun e => wp_some (Or.inl ⟨rfl, by rw [ht, e]⟩)) (fun e => wp_some (Or.inr ⟨rfl, fun z => ?_⟩)))
  rw [ht] at z; exact e (Option.some.inj z)
theorem m_expect_21 (hW : WF T) (hs : mst b) (hM : MPic T fi ai) (h : RS T b fi fj ai aj ar p g c v u) : wp (fX12_expect_21 0 0 0 u) (RS T b fi fj ai aj ar p 0 c v) ∧ (p < (tT T).length → wp (fX12_expect_21 0 1 0 u) (RS T b fi fj ai aj ar (p + 1) 1 c v)) := by
  have hple : p ≤ (tT T).length := by obtain ⟨_, _, _, z, _⟩ := h; exact z
  constructor
  · unfold fX12_expect_21
    refine (h.wr hs).2.1 0 (Or.inl rfl) (fun u1 h1 => (h1.rd hs).1 ((h1.rd hs).2.1 (wp_t rfl ?_)))
    rw [add0]
    exact (h1.wr hs).1 p hple (fun u2 h2 => wp_some h2)
  · intro hlt
    unfold fX12_expect_21
    refine (h.wr hs).2.1 1 (Or.inr rfl) (fun u1 h1 => (h1.rd hs).1 ((h1.rd hs).2.1 (wp_f (by decide) ?_)))
    rw [nI_1]
    exact (h1.wr hs).1 (p + 1) hlt (fun u2 h2 => wp_some h2)
theorem m_expect_bad (hW : WF T) (hs : mst b) (hM : MPic T fi ai) (x1 : Int32) (h : RS T b fi fj ai aj ar p 0 c v u) : wp (fX12_expect 0 x1 u) (RS T b fi fj ai aj ar p 0 c v) := by
  unfold fX12_expect
  refine (h.rd hs).2.1 (wp_t rfl ?_)
  unfold fX12_expect_20
  exact (m_expect_21 hW hs hM h).1
theorem m_expect (hW : WF T) (hs : mst b) (hM : MPic T fi ai) (x1 : Int32) (h : RS T b fi fj ai aj ar p 1 c v u) : wp (fX12_expect 0 x1 u) (fun u' => (txt T p = some x1 ∧ RS T b fi fj ai aj ar (p + 1) 1 c v u') ∨ (txt T p ≠ some x1 ∧ RS T b fi fj ai aj ar p 0 c v u')) := by
  unfold fX12_expect
  refine (h.rd hs).2.1 (wp_f (by decide) (mo hs h (m_isAt hW hs hM x1 h) (fun y hy => ?_)))
  rcases hy with ⟨y1, y2⟩ | ⟨y1, y2⟩
  · refine wp_f (by rw [y1]; decide) (wp_mono ((m_expect_21 hW hs hM h).2 (txt_lt _ _ y2)) (fun u' hu => Or.inl ⟨y2, hu⟩))
  · refine wp_t y1 ?_
    unfold fX12_expect_20
    exact wp_mono (m_expect_21 hW hs hM h).1 (fun u' hu => Or.inr ⟨y2, hu⟩)
theorem m_readPorts_bad (hW : WF T) (hs : mst b) (hM : MPic T fi ai) (h : RS T b fi fj ai aj ar p 0 c v u) : wp (fX12_readPorts 0 u) (fun q => q.1 = 0 ∧ RS T b fi fj ai aj ar p 0 c v q.2) := by
  unfold fX12_readPorts
  refine wp_obw (Q := fun q => q.1 = 0 ∧ RS T b fi fj ai aj ar p 0 c v q.2) ?_ (fun q hq => ?_)
  · refine it2_gh (I := fun n z u => z = 0 ∧ RS T b fi fj ai aj ar p 0 c v u) (fun k n z u hI hk => ?_) FUEL 0 _ _ ⟨rfl, h⟩ (by unfold FUEL; decide)
    unfold fX12_readPorts_B2
    exact (hI.2.rd hs).2.1 (wp_t rfl (wp_some hI))
  · unfold fX12_readPorts_87
    exact (hq.2.rd hs).2.1 (wp_t rfl ((hq.2.wr hs).2.1 0 (Or.inl rfl) (fun u1 h1 => wp_some ⟨hq.1, h1⟩)))
theorem m_readPorts (hW : WF T) (hs : mst b) (hM : MPic T fi ai) (h : RS T b fi fj ai aj ar p 1 c v u) : wp (fX12_readPorts 0 u) (fun q => q.1 = nI (dgN (txt T) p 4).1 ∧ RS T b fi fj ai aj ar (dgN (txt T) p 4).2 (if (dgN (txt T) p 4).1 = 0 then 0 else 1) c v q.2) := by
  have h40 : (tT T).length ≤ 40 := hW.2.2.2.2.2.2
  have hple : p ≤ (tT T).length := by obtain ⟨_, _, _, z, _⟩ := h; exact z
  unfold fX12_readPorts
  refine wp_obw (Q := fun q => q.1 = nI (dgN (txt T) p 4).1 ∧ RS T b fi fj ai aj ar (dgN (txt T) p 4).2 1 c v q.2) ?_ (fun q hq => ?_)
  · refine it2_gh (I := fun n z u => ∃ m, m ≤ 4 ∧ n = 4 - m ∧ z = nI (dgN (txt T) p m).1 ∧ RS T b fi fj ai aj ar (dgN (txt T) p m).2 1 c v u ∧ (m = 0 ∨ 2 ^ (m - 1) ≤ (dgN (txt T) p m).1)) (fun k n z u hI hk => ?_) FUEL 4 _ _ ⟨0, by decide, rfl, rfl, h, Or.inl rfl⟩ (by unfold FUEL; decide)
    obtain ⟨m, hm4, rfl, rfl, hx, hge⟩ := hI
    have hlt := dgN_lt (txt T) p m
    have h16 : 2 ^ m ≤ 2 ^ 4 := Nat.pow_le_pow_right (by decide) hm4
    have hql := dgN_le (tx := txt T) txt_lt hple m
    have stop : (∀ n, m ≤ n → n < 4 → txt T (dgN (txt T) p m).2 ≠ some (nI (48 + n))) → nI (dgN (txt T) p m).1 = nI (dgN (txt T) p 4).1 ∧ RS T b fi fj ai aj ar (dgN (txt T) p 4).2 1 c v u := by
      intro hno
      have e := dgN_skip (tx := txt T) (p := p) (m := m) (4 - m) (fun n h1 h2 => hno n h1 (by omega))
      rw [show m + (4 - m) = 4 by omega] at e
      rw [e]; exact ⟨rfl, hx⟩
    generalize hq : (dgN (txt T) p m).2 = q at *
    generalize hsv : (dgN (txt T) p m).1 = s at *
    unfold fX12_readPorts_B2
    refine (hx.rd hs).2.1 (wp_f (by decide) ((hx.rd hs).1 (hx.len hs hM (wp_le rfl rfl (by omega) (by omega) (fun hc => wp_some (stop (fun n _ _ z => ?_))) (fun hc => ?_)))))
    · have := txt_lt _ _ z
      omega
    have ht : txt T q = some ((tT T)[q]) := List.getElem?_eq_getElem hc
    generalize (tT T)[q] = ch at ht
    refine hx.ld hW hs hM ht ?_
    by_cases hd : ∃ d, d < 4 ∧ ch = nI (48 + d)
    · obtain ⟨d, hd4, rfl⟩ := hd
      have hin : fX12_in (nI (48 + d)) 48 51 u = some 1 := by
        have q1 : ¬ nI (48 + d) < (48 : Int32) := nI_nlt (a := 48 + d) (b := 48) (by omega) (by omega)
        have q2 : ¬ (51 : Int32) < nI (48 + d) := nI_nlt (a := 51) (b := 48 + d) (by omega) (by decide)
        unfold fX12_in
        rw [if_neg q1, if_neg q2]
      refine wp_obe hin (wp_f (by decide) (hx.ld hW hs hM ht ?_))
      rw [sub48 d hd4, jsl_1 (by omega)]
      have h2d : 2 ^ d ≤ 2 ^ 3 := Nat.pow_le_pow_right (by decide) (by omega)
      refine wp_le rfl rfl (by omega) (by omega) (fun hle => wp_some (stop (fun n h1 h2 z => ?_))) (fun hgt => ?_)
      · rw [ht] at z
        have e := nI_d hd4 h2 (Option.some.inj z)
        subst e
        have : 2 ^ m ≤ 2 ^ d := Nat.pow_le_pow_right (by decide) h1
        omega
      · refine hx.ld hW hs hM ht (wp_lt ((hx.rd hs).1 ?_))
        rw [sub48 d hd4, jsl_1 (by omega), nx_or, nI_1]
        have hmd : m ≤ d := by
          rcases Nat.lt_or_ge d m with h1 | h1
          · rcases hge with h2 | h2
            · omega
            · have : 2 ^ d ≤ 2 ^ (m - 1) := Nat.pow_le_pow_right (by decide) (by omega)
              omega
          · exact h1
        have e1 := dgN_skip (tx := txt T) (p := p) (m := m) (d - m) (fun n h1 h2 z => by
          rw [hq, ht] at z
          have := nI_d hd4 (by omega) (Option.some.inj z)
          omega)
        rw [show m + (d - m) = d by omega] at e1
        have e2 : dgN (txt T) p (d + 1) = (s ||| 2 ^ d, q + 1) := by
          rw [dgN_s, e1, hq, hsv, if_pos ht]
        refine (hx.wr hs).1 (q + 1) hc (fun u' hx' => hk (4 - (d + 1)) _ _ (by omega) ⟨d + 1, by omega, rfl, by rw [e2], by rw [e2]; exact hx', Or.inr ?_⟩)
        rw [e2]
        exact Nat.right_le_or
    · refine wp_obw (Q := fun y => y = 0) ?_ (fun y hy => wp_t hy (wp_some (stop (fun n h1 h2 z => ?_))))
      · unfold fX12_in
        refine wp_if (fun _ => wp_some rfl) (fun h1 => wp_if (fun _ => wp_some rfl) (fun h2 => ?_))
        exfalso
        have h0 : ¬ ch < 0 := fun z => h1 (by
          have e1 := Int32.lt_iff_toInt_lt.mp z
          refine Int32.lt_iff_toInt_lt.mpr ?_
          have e2 : (48 : Int32).toInt = 48 := by decide
          have e3 : (0 : Int32).toInt = 0 := by decide
          omega)
        obtain ⟨j, hj, rfl⟩ := nI_of h0
        have j1 : 48 ≤ j := by
          rcases Nat.lt_or_ge j 48 with h | h
          · exact absurd (nI_lt h (by decide)) h1
          · exact h
        have j2 : j ≤ 51 := by
          rcases Nat.lt_or_ge 51 j with h | h
          · exact absurd (nI_lt h hj) h2
          · exact h
        exact hd ⟨j - 48, by omega, by rw [show 48 + (j - 48) = j by omega]⟩
      · rw [ht] at z
        exact hd ⟨n, h2, Option.some.inj z⟩
  · obtain ⟨q1, q2⟩ := hq
    have hlt := dgN_lt (txt T) p 4
    unfold fX12_readPorts_87
    rw [q1]
    refine (q2.rd hs).2.1 (wp_f (by decide) (wp_eqq (b := 0) rfl rfl (by omega) (by decide) (fun e => (q2.wr hs).2.1 0 (Or.inl rfl) (fun u1 h1 => wp_some ⟨rfl, ?_⟩)) (fun e => (q2.wr hs).2.1 1 (Or.inr rfl) (fun u1 h1 => wp_some ⟨rfl, ?_⟩))))
    · rw [if_pos e]; exact h1
    · rw [if_neg e]; exact h1
theorem m_readPattern_bad (hW : WF T) (hs : mst b) (hM : MPic T fi ai) (h : RS T b fi fj ai aj ar p 0 c v u) : wp (fX12_readPattern 0 u) (RS T b fi fj ai aj ar p 0 0 0) := by
  unfold fX12_readPattern
  refine (h.wr hs).2.2.1 0 (fun u1 h1 => (h1.wr hs).2.2.2 0 (fun u2 h2 => ?_))
  have h2' := h2
  obtain ⟨fi2, rfl, g1, _⟩ := h2
  refine mI hs (wp_lt ?_)
  refine wp_obw (Q := RS T b fi fj ai aj ar p 0 0 0) ?_ (fun u hu => wp_some hu)
  refine it2_gh (I := fun n y u => RS T b fi fj ai aj ar p 0 0 0 u) (fun k n y u hI hk => ?_) FUEL 0 _ _ h2' (by unfold FUEL; decide)
  unfold fX12_readPattern_B17
  exact wp_if (fun _ => wp_some hI) (fun _ => (hI.rd hs).2.1 (wp_t rfl (wp_some hI)))
theorem m_readPattern (hW : WF T) (hs : mst b) (hM : MPic T fi ai) (h : RS T b fi fj ai aj ar p 1 c v u) : wp (fX12_readPattern 0 u) (fun u' => RS T b fi fj ai aj ar (ptN (txt T) (tB T) p 0 0).2.2.2 (if (ptN (txt T) (tB T) p 0 0).1 = true then 1 else 0) (nI (ptN (txt T) (tB T) p 0 0).2.1) (nI (ptN (txt T) (tB T) p 0 0).2.2.1) u') := by
  have hb5 := hW.1.2
  unfold fX12_readPattern
  refine (h.wr hs).2.2.1 0 (fun u1 h1 => (h1.wr hs).2.2.2 0 (fun u2 h2 => ?_))
  have h2' := h2
  obtain ⟨fi2, rfl, g1, _⟩ := h2
  refine mI hs (wp_lt ?_)
  rw [g1 0 (by decide) (by decide) (by decide) (by decide), hM.1]
  generalize hR : ptN (txt T) (tB T) p 0 0 = R
  refine wp_obw (Q := fun u' => RS T b fi fj ai aj ar R.2.2.2 (if R.1 = true then 1 else 0) (nI R.2.1) (nI R.2.2.1) u') ?_ (fun u hu => wp_some hu)
  refine it2_gh (I := fun n y u => n ≤ 5 ∧ y = nI n - 1 ∧ ((∃ p' c' v', RS T b fi fj ai aj ar p' 1 (nI c') (nI v') u ∧ ptN (txt T) n p' c' v' = R) ∨ (R.1 = false ∧ RS T b fi fj ai aj ar R.2.2.2 0 (nI R.2.1) (nI R.2.2.1) u))) (fun k n y u hI hk => ?_) FUEL (tB T) _ _ ⟨hb5, rfl, Or.inl ⟨p, 0, 0, h2', hR⟩⟩ (by unfold FUEL; omega)
  obtain ⟨hn5, rfl, hI⟩ := hI
  unfold fX12_readPattern_B17
  rcases hI with ⟨p', c', v', hx, he⟩ | ⟨hf, hx⟩
  rotate_left
  · have hx' : RS T b fi fj ai aj ar R.2.2.2 (if R.1 = true then 1 else 0) (nI R.2.1) (nI R.2.2.1) u := by rw [hf]; exact hx
    exact wp_if (fun _ => wp_some hx') (fun _ => (hx.rd hs).2.1 (wp_t rfl (wp_some hx')))
  rcases Nat.eq_zero_or_pos n with h0 | h0
  · subst h0
    have he' : (true, c', v', p') = R := he
    subst he'
    exact wp_t (by decide) (wp_some hx)
  obtain ⟨n, rfl⟩ : ∃ q, n = q + 1 := ⟨n - 1, by omega⟩
  rw [nI_dec h0, Nat.add_sub_cancel]
  unfold ptN at he
  have f124 : ∀ {cc vv : Nat} {s0 : Int32} {u : UH} (d : Nat), txt T p' ≠ none → s0 = nI d → RS T b fi fj ai aj ar p' 1 (nI cc) (nI vv) u → ptN (txt T) n (p' + 1) cc (vv ||| d) = R → wp (fX12_readPattern_124 k 0 (nI n) s0 (nI vv) 0 u) (fun u' => RS T b fi fj ai aj ar R.2.2.2 (if R.1 = true then 1 else 0) (nI R.2.1) (nI R.2.2.1) u') := by
    intro cc vv s0 u d hne hs0 hx he
    have hlt : p' < (tT T).length := by
      cases hq : txt T p' with
      | none => exact absurd hq hne
      | some z => exact txt_lt _ _ hq
    unfold fX12_readPattern_124
    rw [hs0, nx_or]
    refine (hx.wr hs).2.2.2 _ (fun u1 h1 => (h1.rd hs).1 ((h1.rd hs).2.1 (wp_f (by decide) ?_)))
    rw [nI_1]
    exact (h1.wr hs).1 (p' + 1) hlt (fun u2 h2 => hk n _ _ (by omega) ⟨by omega, sub1 n, Or.inl ⟨p' + 1, cc, vv ||| d, h2, he⟩⟩)
  have f92 : ∀ {s0 : Int32} {u : UH} (d : Nat), txt T p' ≠ none → s0 = nI d → RS T b fi fj ai aj ar p' 1 (nI c') (nI v') u → ptN (txt T) n (p' + 1) (c' ||| d) (if txt T p' = some 49 then v' ||| 2 ^ n else v') = R → wp (fX12_readPattern_92 k 0 (nI n) s0 (nI c') 0 u) (fun u' => RS T b fi fj ai aj ar R.2.2.2 (if R.1 = true then 1 else 0) (nI R.2.1) (nI R.2.2.1) u') := by
    intro s0 u d hne hs0 hx he
    unfold fX12_readPattern_92
    rw [hs0, nx_or]
    refine (hx.wr hs).2.2.1 _ (fun u1 h1 => (h1.rd hs).2.2.2 ((h1.rd hs).2.1 (wp_f (by decide) (mo hs h1 (m_isAt hW hs hM _ h1) (fun y hy => ?_)))))
    rcases hy with ⟨y1, y2⟩ | ⟨y1, y2⟩
    · rw [if_pos y2] at he
      exact wp_f (by rw [y1]; decide) (f124 (2 ^ n) hne (jsl_1 (by omega)) h1 he)
    · rw [if_neg y2] at he
      refine wp_t y1 ?_
      unfold fX12_readPattern_123
      exact f124 0 hne rfl h1 (by rw [Nat.or_zero]; exact he)
  have f56 : txt T p' = some 49 ∨ txt T p' = some 48 ∨ txt T p' = some 42 → wp (fX12_readPattern_56 k 0 (nI n) 0 u) (fun u' => RS T b fi fj ai aj ar R.2.2.2 (if R.1 = true then 1 else 0) (nI R.2.1) (nI R.2.2.1) u') := by
    intro hch
    have hne : txt T p' ≠ none := by
      rcases hch with h | h | h <;> rw [h] <;> intro z <;> cases z
    unfold fX12_readPattern_56 fX12_readPattern_61
    refine (hx.wr hs).2.1 1 (Or.inr rfl) (fun u1 h1 => (h1.rd hs).2.2.1 ((h1.rd hs).2.1 (wp_f (by decide) (mo hs h1 (m_isAt hW hs hM _ h1) (fun y hy => ?_)))))
    rcases hy with ⟨y1, y2⟩ | ⟨y1, y2⟩
    · have n49 : txt T p' ≠ some 49 := by rw [y2]; decide
      have n48 : txt T p' ≠ some 48 := by rw [y2]; decide
      rw [if_neg n49, if_neg n48, if_pos y2] at he
      refine wp_f (by rw [y1]; decide) ?_
      unfold fX12_readPattern_91
      exact f92 0 hne rfl h1 (by rw [Nat.or_zero, if_neg n49]; exact he)
    · refine wp_t y1 (f92 (2 ^ n) hne (jsl_1 (by omega)) h1 ?_)
      by_cases e49 : txt T p' = some 49
      · rw [if_pos e49] at he ⊢; exact he
      · have e48 : txt T p' = some 48 := by
          rcases hch with h | h | h
          · exact absurd h e49
          · exact h
          · exact absurd h y2
        rw [if_neg e49, if_pos e48] at he
        rw [if_neg e49]; exact he
  refine wp_f (nI_pos (by omega)) ((hx.rd hs).2.1 (wp_f (by decide) (mo hs hx (m_isAt hW hs hM _ hx) (fun y hy => ?_))))
  rcases hy with ⟨y1, y2⟩ | ⟨y1, y2⟩
  · exact wp_f (by rw [y1]; decide) (f56 (Or.inr (Or.inl y2)))
  refine wp_t y1 (mo hs hx (m_isAt hW hs hM _ hx) (fun y hy => ?_))
  rcases hy with ⟨z1, z2⟩ | ⟨z1, z2⟩
  · exact wp_f (by rw [z1]; decide) (f56 (Or.inl z2))
  refine wp_t z1 (mo hs hx (m_isAt hW hs hM _ hx) (fun y hy => ?_))
  rcases hy with ⟨a1, a2⟩ | ⟨a1, a2⟩
  · exact wp_f (by rw [a1]; decide) (f56 (Or.inr (Or.inr a2)))
  rw [if_neg z2, if_neg y2, if_neg a2] at he
  subst he
  have hple : p' ≤ (tT T).length := by obtain ⟨_, _, _, z, _⟩ := hx; exact z
  refine wp_t a1 ?_
  unfold fX12_readPattern_61
  refine (hx.wr hs).2.1 0 (Or.inl rfl) (fun u1 h1 => (h1.rd hs).2.2.1 ((h1.rd hs).2.1 (wp_t rfl ?_)))
  unfold fX12_readPattern_91 fX12_readPattern_92
  rw [or0]
  refine (h1.wr hs).2.2.1 _ (fun u2 h2 => (h2.rd hs).2.2.2 ((h2.rd hs).2.1 (wp_t rfl ?_)))
  unfold fX12_readPattern_123 fX12_readPattern_124
  rw [or0]
  refine (h2.wr hs).2.2.2 _ (fun u3 h3 => (h3.rd hs).1 ((h3.rd hs).2.1 (wp_t rfl ?_)))
  rw [add0]
  exact (h3.wr hs).1 p' hple (fun u4 h4 => hk n _ _ (by omega) ⟨by omega, sub1 n, Or.inr ⟨rfl, h4⟩⟩)
end
